section
-- ===== PART A: goes FIRST, ahead of the names: the tables' words, and 'selects' of the private methods out of them =====
/-- a private method of a class that the tables say can be made, by its rows of tables_1 -/
def lw_okq (q : MethodName × Nat) : Prop := (q.1.cls ≠ "java/lang/invoke/MethodHandle" ∧ q.1.cls ≠ "java/lang/invoke/VarHandle") ∧ Cond.instantiable q.1.cls q.2 ∈ tables_1 ∧ Cond.privateMethod q.1 ∈ tables_1 ∧ Cond.instanceMethod q.1 ∈ tables_1
theorem lw_p0 : lw_okq (⟨"java/lang/Throwable", "fillInStackTrace", "(I)Ljava/lang/Throwable;"⟩, 6) := ⟨⟨by decide +kernel, by decide +kernel⟩, List.mem_of_getElem? (i := 434) (by decide +kernel), List.mem_of_getElem? (i := 432) (by decide +kernel), List.mem_of_getElem? (i := 433) (by decide +kernel)⟩
theorem lw_p1 : lw_okq (⟨"OverlapBench$Parser", "next", "()V"⟩, 12) := ⟨⟨by decide +kernel, by decide +kernel⟩, List.mem_of_getElem? (i := 204) (by decide +kernel), List.mem_of_getElem? (i := 467) (by decide +kernel), List.mem_of_getElem? (i := 468) (by decide +kernel)⟩
theorem lw_p2 : lw_okq (⟨"OverlapBench$Parser", "byteAt", "(I)I"⟩, 12) := ⟨⟨by decide +kernel, by decide +kernel⟩, List.mem_of_getElem? (i := 204) (by decide +kernel), List.mem_of_getElem? (i := 471) (by decide +kernel), List.mem_of_getElem? (i := 472) (by decide +kernel)⟩
theorem lw_p3 : lw_okq (⟨"OverlapBench$Parser", "kindOfByte", "(I)I"⟩, 12) := ⟨⟨by decide +kernel, by decide +kernel⟩, List.mem_of_getElem? (i := 204) (by decide +kernel), List.mem_of_getElem? (i := 475) (by decide +kernel), List.mem_of_getElem? (i := 476) (by decide +kernel)⟩
theorem lw_p4 : lw_okq (⟨"OverlapBench$Parser", "isWord", "(Ljava/lang/String;)Z"⟩, 12) := ⟨⟨by decide +kernel, by decide +kernel⟩, List.mem_of_getElem? (i := 204) (by decide +kernel), List.mem_of_getElem? (i := 480) (by decide +kernel), List.mem_of_getElem? (i := 481) (by decide +kernel)⟩
theorem lw_p5 : lw_okq (⟨"OverlapBench$Parser", "fail", "(I)Z"⟩, 12) := ⟨⟨by decide +kernel, by decide +kernel⟩, List.mem_of_getElem? (i := 204) (by decide +kernel), List.mem_of_getElem? (i := 532) (by decide +kernel), List.mem_of_getElem? (i := 533) (by decide +kernel)⟩
theorem lw_p6 : lw_okq (⟨"OverlapBench$Parser", "readSymbol", "()Z"⟩, 12) := ⟨⟨by decide +kernel, by decide +kernel⟩, List.mem_of_getElem? (i := 204) (by decide +kernel), List.mem_of_getElem? (i := 537) (by decide +kernel), List.mem_of_getElem? (i := 538) (by decide +kernel)⟩
theorem lw_p7 : lw_okq (⟨"OverlapBench$Parser", "symbolOfWord", "()I"⟩, 12) := ⟨⟨by decide +kernel, by decide +kernel⟩, List.mem_of_getElem? (i := 204) (by decide +kernel), List.mem_of_getElem? (i := 541) (by decide +kernel), List.mem_of_getElem? (i := 542) (by decide +kernel)⟩
theorem lw_p8 : lw_okq (⟨"OverlapBench$Parser", "isNamed", "(I)Z"⟩, 12) := ⟨⟨by decide +kernel, by decide +kernel⟩, List.mem_of_getElem? (i := 204) (by decide +kernel), List.mem_of_getElem? (i := 545) (by decide +kernel), List.mem_of_getElem? (i := 546) (by decide +kernel)⟩
theorem lw_p9 : lw_okq (⟨"OverlapBench$Parser", "readDigit", "(I)Z"⟩, 12) := ⟨⟨by decide +kernel, by decide +kernel⟩, List.mem_of_getElem? (i := 204) (by decide +kernel), List.mem_of_getElem? (i := 566) (by decide +kernel), List.mem_of_getElem? (i := 567) (by decide +kernel)⟩
theorem lw_p10 : lw_okq (⟨"OverlapBench$Parser", "digit", "()I"⟩, 12) := ⟨⟨by decide +kernel, by decide +kernel⟩, List.mem_of_getElem? (i := 204) (by decide +kernel), List.mem_of_getElem? (i := 570) (by decide +kernel), List.mem_of_getElem? (i := 571) (by decide +kernel)⟩
theorem lw_p11 : lw_okq (⟨"OverlapBench$Parser", "readRule", "()Z"⟩, 12) := ⟨⟨by decide +kernel, by decide +kernel⟩, List.mem_of_getElem? (i := 204) (by decide +kernel), List.mem_of_getElem? (i := 579) (by decide +kernel), List.mem_of_getElem? (i := 580) (by decide +kernel)⟩
theorem lw_p12 : lw_okq (⟨"OverlapBench$Parser", "readTerm", "(LOverlapBench$Term;II)Z"⟩, 12) := ⟨⟨by decide +kernel, by decide +kernel⟩, List.mem_of_getElem? (i := 204) (by decide +kernel), List.mem_of_getElem? (i := 587) (by decide +kernel), List.mem_of_getElem? (i := 588) (by decide +kernel)⟩
theorem lw_p13 : lw_okq (⟨"OverlapBench$Parser", "faultOfNode", "(LOverlapBench$Term;II)I"⟩, 12) := ⟨⟨by decide +kernel, by decide +kernel⟩, List.mem_of_getElem? (i := 204) (by decide +kernel), List.mem_of_getElem? (i := 595) (by decide +kernel), List.mem_of_getElem? (i := 596) (by decide +kernel)⟩
theorem lw_p14 : lw_okq (⟨"OverlapBench$Parser", "variableOfToken", "()I"⟩, 12) := ⟨⟨by decide +kernel, by decide +kernel⟩, List.mem_of_getElem? (i := 204) (by decide +kernel), List.mem_of_getElem? (i := 599) (by decide +kernel), List.mem_of_getElem? (i := 600) (by decide +kernel)⟩
theorem lw_p15 : lw_okq (⟨"OverlapBench$Parser", "nodeOfToken", "()I"⟩, 12) := ⟨⟨by decide +kernel, by decide +kernel⟩, List.mem_of_getElem? (i := 204) (by decide +kernel), List.mem_of_getElem? (i := 615) (by decide +kernel), List.mem_of_getElem? (i := 616) (by decide +kernel)⟩
def lw_privs_1 : List (MethodName × Nat) := [(⟨"java/lang/Throwable", "fillInStackTrace", "(I)Ljava/lang/Throwable;"⟩, 6), (⟨"OverlapBench$Parser", "next", "()V"⟩, 12), (⟨"OverlapBench$Parser", "byteAt", "(I)I"⟩, 12), (⟨"OverlapBench$Parser", "kindOfByte", "(I)I"⟩, 12), (⟨"OverlapBench$Parser", "isWord", "(Ljava/lang/String;)Z"⟩, 12), (⟨"OverlapBench$Parser", "fail", "(I)Z"⟩, 12), (⟨"OverlapBench$Parser", "readSymbol", "()Z"⟩, 12), (⟨"OverlapBench$Parser", "symbolOfWord", "()I"⟩, 12), (⟨"OverlapBench$Parser", "isNamed", "(I)Z"⟩, 12), (⟨"OverlapBench$Parser", "readDigit", "(I)Z"⟩, 12), (⟨"OverlapBench$Parser", "digit", "()I"⟩, 12), (⟨"OverlapBench$Parser", "readRule", "()Z"⟩, 12), (⟨"OverlapBench$Parser", "readTerm", "(LOverlapBench$Term;II)Z"⟩, 12), (⟨"OverlapBench$Parser", "faultOfNode", "(LOverlapBench$Term;II)I"⟩, 12), (⟨"OverlapBench$Parser", "variableOfToken", "()I"⟩, 12), (⟨"OverlapBench$Parser", "nodeOfToken", "()I"⟩, 12)]
theorem lw_r1 : ∀ q ∈ lw_privs_1, lw_okq q := List.forall_mem_cons.mpr ⟨lw_p0, List.forall_mem_cons.mpr ⟨lw_p1, List.forall_mem_cons.mpr ⟨lw_p2, List.forall_mem_cons.mpr ⟨lw_p3, List.forall_mem_cons.mpr ⟨lw_p4, List.forall_mem_cons.mpr ⟨lw_p5, List.forall_mem_cons.mpr ⟨lw_p6, List.forall_mem_cons.mpr ⟨lw_p7, List.forall_mem_cons.mpr ⟨lw_p8, List.forall_mem_cons.mpr ⟨lw_p9, List.forall_mem_cons.mpr ⟨lw_p10, List.forall_mem_cons.mpr ⟨lw_p11, List.forall_mem_cons.mpr ⟨lw_p12, List.forall_mem_cons.mpr ⟨lw_p13, List.forall_mem_cons.mpr ⟨lw_p14, List.forall_mem_cons.mpr ⟨lw_p15, fun _ h => absurd h List.not_mem_nil⟩⟩⟩⟩⟩⟩⟩⟩⟩⟩⟩⟩⟩⟩⟩⟩
theorem lw_p16 : lw_okq (⟨"OverlapBench$Parser", "closeBrackets", "(I)I"⟩, 12) := ⟨⟨by decide +kernel, by decide +kernel⟩, List.mem_of_getElem? (i := 204) (by decide +kernel), List.mem_of_getElem? (i := 633) (by decide +kernel), List.mem_of_getElem? (i := 634) (by decide +kernel)⟩
theorem lw_p17 : lw_okq (⟨"OverlapBench$Parser", "readPlainTerm", "()Z"⟩, 12) := ⟨⟨by decide +kernel, by decide +kernel⟩, List.mem_of_getElem? (i := 204) (by decide +kernel), List.mem_of_getElem? (i := 638) (by decide +kernel), List.mem_of_getElem? (i := 639) (by decide +kernel)⟩
theorem lw_p18 : lw_okq (⟨"OverlapBench$Parser", "readCopy", "()Z"⟩, 12) := ⟨⟨by decide +kernel, by decide +kernel⟩, List.mem_of_getElem? (i := 204) (by decide +kernel), List.mem_of_getElem? (i := 647) (by decide +kernel), List.mem_of_getElem? (i := 648) (by decide +kernel)⟩
theorem lw_p19 : lw_okq (⟨"OverlapBench$Parser", "readFlip", "()Z"⟩, 12) := ⟨⟨by decide +kernel, by decide +kernel⟩, List.mem_of_getElem? (i := 204) (by decide +kernel), List.mem_of_getElem? (i := 663) (by decide +kernel), List.mem_of_getElem? (i := 664) (by decide +kernel)⟩
theorem lw_p20 : lw_okq (⟨"OverlapBench$Parser", "readStep", "()Z"⟩, 12) := ⟨⟨by decide +kernel, by decide +kernel⟩, List.mem_of_getElem? (i := 204) (by decide +kernel), List.mem_of_getElem? (i := 678) (by decide +kernel), List.mem_of_getElem? (i := 679) (by decide +kernel)⟩
theorem lw_p21 : lw_okq (⟨"OverlapBench$Rewriter", "buildFirst", "(LOverlapBench$State;LOverlapBench$Term;I)Z"⟩, 4) := ⟨⟨by decide +kernel, by decide +kernel⟩, List.mem_of_getElem? (i := 148) (by decide +kernel), List.mem_of_getElem? (i := 711) (by decide +kernel), List.mem_of_getElem? (i := 712) (by decide +kernel)⟩
theorem lw_p22 : lw_okq (⟨"OverlapBench", "adopt", "(LOverlapBench$State;)V"⟩, 15) := ⟨⟨by decide +kernel, by decide +kernel⟩, List.mem_of_getElem? (i := 40) (by decide +kernel), List.mem_of_getElem? (i := 749) (by decide +kernel), List.mem_of_getElem? (i := 750) (by decide +kernel)⟩
theorem lw_p23 : lw_okq (⟨"OverlapBench", "requireSystem", "()V"⟩, 15) := ⟨⟨by decide +kernel, by decide +kernel⟩, List.mem_of_getElem? (i := 40) (by decide +kernel), List.mem_of_getElem? (i := 768) (by decide +kernel), List.mem_of_getElem? (i := 769) (by decide +kernel)⟩
theorem lw_p24 : lw_okq (⟨"OverlapBench", "requireTerm", "(I)LOverlapBench$Term;"⟩, 15) := ⟨⟨by decide +kernel, by decide +kernel⟩, List.mem_of_getElem? (i := 40) (by decide +kernel), List.mem_of_getElem? (i := 795) (by decide +kernel), List.mem_of_getElem? (i := 796) (by decide +kernel)⟩
theorem lw_p25 : lw_okq (⟨"OverlapBench", "requireIndex", "(II)V"⟩, 15) := ⟨⟨by decide +kernel, by decide +kernel⟩, List.mem_of_getElem? (i := 40) (by decide +kernel), List.mem_of_getElem? (i := 799) (by decide +kernel), List.mem_of_getElem? (i := 800) (by decide +kernel)⟩
theorem lw_p26 : lw_okq (⟨"OverlapBench", "requireNode", "(II)LOverlapBench$Term;"⟩, 15) := ⟨⟨by decide +kernel, by decide +kernel⟩, List.mem_of_getElem? (i := 40) (by decide +kernel), List.mem_of_getElem? (i := 808) (by decide +kernel), List.mem_of_getElem? (i := 809) (by decide +kernel)⟩
theorem lw_p27 : lw_okq (⟨"OverlapBench", "requireRule", "(I)LOverlapBench$Rule;"⟩, 15) := ⟨⟨by decide +kernel, by decide +kernel⟩, List.mem_of_getElem? (i := 40) (by decide +kernel), List.mem_of_getElem? (i := 817) (by decide +kernel), List.mem_of_getElem? (i := 818) (by decide +kernel)⟩
theorem lw_p28 : lw_okq (⟨"OverlapBench$PairList", "has", "(I)Z"⟩, 12) := ⟨⟨by decide +kernel, by decide +kernel⟩, List.mem_of_getElem? (i := 256) (by decide +kernel), List.mem_of_getElem? (i := 876) (by decide +kernel), List.mem_of_getElem? (i := 877) (by decide +kernel)⟩
theorem lw_p29 : lw_okq (⟨"OverlapBench$PairList", "buildPair", "(LOverlapBench$Rule;LOverlapBench$Rule;I)Z"⟩, 12) := ⟨⟨by decide +kernel, by decide +kernel⟩, List.mem_of_getElem? (i := 256) (by decide +kernel), List.mem_of_getElem? (i := 880) (by decide +kernel), List.mem_of_getElem? (i := 881) (by decide +kernel)⟩
theorem lw_p30 : lw_okq (⟨"OverlapBench$Unifier", "shareVariable", "(II)V"⟩, 8) := ⟨⟨by decide +kernel, by decide +kernel⟩, List.mem_of_getElem? (i := 172) (by decide +kernel), List.mem_of_getElem? (i := 895) (by decide +kernel), List.mem_of_getElem? (i := 896) (by decide +kernel)⟩
theorem lw_p31 : lw_okq (⟨"OverlapBench$Unifier", "merge", "(II)Z"⟩, 8) := ⟨⟨by decide +kernel, by decide +kernel⟩, List.mem_of_getElem? (i := 172) (by decide +kernel), List.mem_of_getElem? (i := 903) (by decide +kernel), List.mem_of_getElem? (i := 904) (by decide +kernel)⟩
def lw_privs_2 : List (MethodName × Nat) := [(⟨"OverlapBench$Parser", "closeBrackets", "(I)I"⟩, 12), (⟨"OverlapBench$Parser", "readPlainTerm", "()Z"⟩, 12), (⟨"OverlapBench$Parser", "readCopy", "()Z"⟩, 12), (⟨"OverlapBench$Parser", "readFlip", "()Z"⟩, 12), (⟨"OverlapBench$Parser", "readStep", "()Z"⟩, 12), (⟨"OverlapBench$Rewriter", "buildFirst", "(LOverlapBench$State;LOverlapBench$Term;I)Z"⟩, 4), (⟨"OverlapBench", "adopt", "(LOverlapBench$State;)V"⟩, 15), (⟨"OverlapBench", "requireSystem", "()V"⟩, 15), (⟨"OverlapBench", "requireTerm", "(I)LOverlapBench$Term;"⟩, 15), (⟨"OverlapBench", "requireIndex", "(II)V"⟩, 15), (⟨"OverlapBench", "requireNode", "(II)LOverlapBench$Term;"⟩, 15), (⟨"OverlapBench", "requireRule", "(I)LOverlapBench$Rule;"⟩, 15), (⟨"OverlapBench$PairList", "has", "(I)Z"⟩, 12), (⟨"OverlapBench$PairList", "buildPair", "(LOverlapBench$Rule;LOverlapBench$Rule;I)Z"⟩, 12), (⟨"OverlapBench$Unifier", "shareVariable", "(II)V"⟩, 8), (⟨"OverlapBench$Unifier", "merge", "(II)Z"⟩, 8)]
theorem lw_r2 : ∀ q ∈ lw_privs_2, lw_okq q := List.forall_mem_cons.mpr ⟨lw_p16, List.forall_mem_cons.mpr ⟨lw_p17, List.forall_mem_cons.mpr ⟨lw_p18, List.forall_mem_cons.mpr ⟨lw_p19, List.forall_mem_cons.mpr ⟨lw_p20, List.forall_mem_cons.mpr ⟨lw_p21, List.forall_mem_cons.mpr ⟨lw_p22, List.forall_mem_cons.mpr ⟨lw_p23, List.forall_mem_cons.mpr ⟨lw_p24, List.forall_mem_cons.mpr ⟨lw_p25, List.forall_mem_cons.mpr ⟨lw_p26, List.forall_mem_cons.mpr ⟨lw_p27, List.forall_mem_cons.mpr ⟨lw_p28, List.forall_mem_cons.mpr ⟨lw_p29, List.forall_mem_cons.mpr ⟨lw_p30, List.forall_mem_cons.mpr ⟨lw_p31, fun _ h => absurd h List.not_mem_nil⟩⟩⟩⟩⟩⟩⟩⟩⟩⟩⟩⟩⟩⟩⟩⟩
theorem lw_p32 : lw_okq (⟨"OverlapBench$Unifier", "push", "(I)V"⟩, 8) := ⟨⟨by decide +kernel, by decide +kernel⟩, List.mem_of_getElem? (i := 172) (by decide +kernel), List.mem_of_getElem? (i := 907) (by decide +kernel), List.mem_of_getElem? (i := 908) (by decide +kernel)⟩
theorem lw_p33 : lw_okq (⟨"OverlapBench$Unifier", "pop", "()I"⟩, 8) := ⟨⟨by decide +kernel, by decide +kernel⟩, List.mem_of_getElem? (i := 172) (by decide +kernel), List.mem_of_getElem? (i := 911) (by decide +kernel), List.mem_of_getElem? (i := 912) (by decide +kernel)⟩
theorem lw_p34 : lw_okq (⟨"OverlapBench$Unifier", "root", "(I)I"⟩, 8) := ⟨⟨by decide +kernel, by decide +kernel⟩, List.mem_of_getElem? (i := 172) (by decide +kernel), List.mem_of_getElem? (i := 915) (by decide +kernel), List.mem_of_getElem? (i := 916) (by decide +kernel)⟩
theorem lw_p35 : lw_okq (⟨"OverlapBench$Unifier", "label", "(I)I"⟩, 8) := ⟨⟨by decide +kernel, by decide +kernel⟩, List.mem_of_getElem? (i := 172) (by decide +kernel), List.mem_of_getElem? (i := 919) (by decide +kernel), List.mem_of_getElem? (i := 920) (by decide +kernel)⟩
theorem lw_p36 : lw_okq (⟨"OverlapBench$Unifier", "hang", "(II)V"⟩, 8) := ⟨⟨by decide +kernel, by decide +kernel⟩, List.mem_of_getElem? (i := 172) (by decide +kernel), List.mem_of_getElem? (i := 924) (by decide +kernel), List.mem_of_getElem? (i := 925) (by decide +kernel)⟩
theorem lw_p37 : lw_okq (⟨"OverlapBench$Unifier", "pushArguments", "(II)V"⟩, 8) := ⟨⟨by decide +kernel, by decide +kernel⟩, List.mem_of_getElem? (i := 172) (by decide +kernel), List.mem_of_getElem? (i := 928) (by decide +kernel), List.mem_of_getElem? (i := 929) (by decide +kernel)⟩
theorem lw_p38 : lw_okq (⟨"OverlapBench$Unifier", "end", "(I)I"⟩, 8) := ⟨⟨by decide +kernel, by decide +kernel⟩, List.mem_of_getElem? (i := 172) (by decide +kernel), List.mem_of_getElem? (i := 933) (by decide +kernel), List.mem_of_getElem? (i := 934) (by decide +kernel)⟩
theorem lw_p39 : lw_okq (⟨"OverlapBench$Unifier", "isFinite", "()Z"⟩, 8) := ⟨⟨by decide +kernel, by decide +kernel⟩, List.mem_of_getElem? (i := 172) (by decide +kernel), List.mem_of_getElem? (i := 937) (by decide +kernel), List.mem_of_getElem? (i := 938) (by decide +kernel)⟩
theorem lw_p40 : lw_okq (⟨"OverlapBench$Unifier", "isSettled", "(I)Z"⟩, 8) := ⟨⟨by decide +kernel, by decide +kernel⟩, List.mem_of_getElem? (i := 172) (by decide +kernel), List.mem_of_getElem? (i := 941) (by decide +kernel), List.mem_of_getElem? (i := 942) (by decide +kernel)⟩
theorem lw_p41 : lw_okq (⟨"OverlapBench$Unifier", "settles", "(I)Z"⟩, 8) := ⟨⟨by decide +kernel, by decide +kernel⟩, List.mem_of_getElem? (i := 172) (by decide +kernel), List.mem_of_getElem? (i := 945) (by decide +kernel), List.mem_of_getElem? (i := 946) (by decide +kernel)⟩
theorem lw_p42 : lw_okq (⟨"OverlapBench$Unifier", "settle", "(I)V"⟩, 8) := ⟨⟨by decide +kernel, by decide +kernel⟩, List.mem_of_getElem? (i := 172) (by decide +kernel), List.mem_of_getElem? (i := 949) (by decide +kernel), List.mem_of_getElem? (i := 950) (by decide +kernel)⟩
theorem lw_p43 : lw_okq (⟨"OverlapBench$Unifier", "pushReversed", "(I)V"⟩, 8) := ⟨⟨by decide +kernel, by decide +kernel⟩, List.mem_of_getElem? (i := 172) (by decide +kernel), List.mem_of_getElem? (i := 967) (by decide +kernel), List.mem_of_getElem? (i := 968) (by decide +kernel)⟩
theorem lw_p44 : lw_okq (⟨"OverlapBench$PairList", "nameVariables", "(LOverlapBench$Term;I)I"⟩, 12) := ⟨⟨by decide +kernel, by decide +kernel⟩, List.mem_of_getElem? (i := 256) (by decide +kernel), List.mem_of_getElem? (i := 975) (by decide +kernel), List.mem_of_getElem? (i := 976) (by decide +kernel)⟩
theorem lw_p45 : lw_okq (⟨"OverlapBench$PairList", "keep", "(III)V"⟩, 12) := ⟨⟨by decide +kernel, by decide +kernel⟩, List.mem_of_getElem? (i := 256) (by decide +kernel), List.mem_of_getElem? (i := 987) (by decide +kernel), List.mem_of_getElem? (i := 988) (by decide +kernel)⟩
theorem lw_p46 : lw_okq (⟨"OverlapBench", "takeStep", "(LOverlapBench$Term;Z)I"⟩, 15) := ⟨⟨by decide +kernel, by decide +kernel⟩, List.mem_of_getElem? (i := 40) (by decide +kernel), List.mem_of_getElem? (i := 1012) (by decide +kernel), List.mem_of_getElem? (i := 1013) (by decide +kernel)⟩
theorem lw_p47 : lw_okq (⟨"OverlapBench", "remember", "()V"⟩, 15) := ⟨⟨by decide +kernel, by decide +kernel⟩, List.mem_of_getElem? (i := 40) (by decide +kernel), List.mem_of_getElem? (i := 1017) (by decide +kernel), List.mem_of_getElem? (i := 1018) (by decide +kernel)⟩
def lw_privs_3 : List (MethodName × Nat) := [(⟨"OverlapBench$Unifier", "push", "(I)V"⟩, 8), (⟨"OverlapBench$Unifier", "pop", "()I"⟩, 8), (⟨"OverlapBench$Unifier", "root", "(I)I"⟩, 8), (⟨"OverlapBench$Unifier", "label", "(I)I"⟩, 8), (⟨"OverlapBench$Unifier", "hang", "(II)V"⟩, 8), (⟨"OverlapBench$Unifier", "pushArguments", "(II)V"⟩, 8), (⟨"OverlapBench$Unifier", "end", "(I)I"⟩, 8), (⟨"OverlapBench$Unifier", "isFinite", "()Z"⟩, 8), (⟨"OverlapBench$Unifier", "isSettled", "(I)Z"⟩, 8), (⟨"OverlapBench$Unifier", "settles", "(I)Z"⟩, 8), (⟨"OverlapBench$Unifier", "settle", "(I)V"⟩, 8), (⟨"OverlapBench$Unifier", "pushReversed", "(I)V"⟩, 8), (⟨"OverlapBench$PairList", "nameVariables", "(LOverlapBench$Term;I)I"⟩, 12), (⟨"OverlapBench$PairList", "keep", "(III)V"⟩, 12), (⟨"OverlapBench", "takeStep", "(LOverlapBench$Term;Z)I"⟩, 15), (⟨"OverlapBench", "remember", "()V"⟩, 15)]
theorem lw_r3 : ∀ q ∈ lw_privs_3, lw_okq q := List.forall_mem_cons.mpr ⟨lw_p32, List.forall_mem_cons.mpr ⟨lw_p33, List.forall_mem_cons.mpr ⟨lw_p34, List.forall_mem_cons.mpr ⟨lw_p35, List.forall_mem_cons.mpr ⟨lw_p36, List.forall_mem_cons.mpr ⟨lw_p37, List.forall_mem_cons.mpr ⟨lw_p38, List.forall_mem_cons.mpr ⟨lw_p39, List.forall_mem_cons.mpr ⟨lw_p40, List.forall_mem_cons.mpr ⟨lw_p41, List.forall_mem_cons.mpr ⟨lw_p42, List.forall_mem_cons.mpr ⟨lw_p43, List.forall_mem_cons.mpr ⟨lw_p44, List.forall_mem_cons.mpr ⟨lw_p45, List.forall_mem_cons.mpr ⟨lw_p46, List.forall_mem_cons.mpr ⟨lw_p47, fun _ h => absurd h List.not_mem_nil⟩⟩⟩⟩⟩⟩⟩⟩⟩⟩⟩⟩⟩⟩⟩⟩
theorem lw_p48 : lw_okq (⟨"OverlapBench$History", "at", "(I)LOverlapBench$State;"⟩, 3) := ⟨⟨by decide +kernel, by decide +kernel⟩, List.mem_of_getElem? (i := 324) (by decide +kernel), List.mem_of_getElem? (i := 1026) (by decide +kernel), List.mem_of_getElem? (i := 1027) (by decide +kernel)⟩
theorem lw_p49 : lw_okq (⟨"java/util/ArrayList", "add", "(Ljava/lang/Object;[Ljava/lang/Object;I)V"⟩, 3) := ⟨⟨by decide +kernel, by decide +kernel⟩, List.mem_of_getElem? (i := 1099) (by decide +kernel), List.mem_of_getElem? (i := 1178) (by decide +kernel), List.mem_of_getElem? (i := 1179) (by decide +kernel)⟩
theorem lw_p50 : lw_okq (⟨"java/util/ArrayList", "grow", "()[Ljava/lang/Object;"⟩, 3) := ⟨⟨by decide +kernel, by decide +kernel⟩, List.mem_of_getElem? (i := 1099) (by decide +kernel), List.mem_of_getElem? (i := 1182) (by decide +kernel), List.mem_of_getElem? (i := 1183) (by decide +kernel)⟩
theorem lw_p51 : lw_okq (⟨"java/util/ArrayList", "grow", "(I)[Ljava/lang/Object;"⟩, 3) := ⟨⟨by decide +kernel, by decide +kernel⟩, List.mem_of_getElem? (i := 1099) (by decide +kernel), List.mem_of_getElem? (i := 1186) (by decide +kernel), List.mem_of_getElem? (i := 1187) (by decide +kernel)⟩
theorem lw_p52 : lw_okq (⟨"OverlapBench$Output", "addName", "(ILOverlapBench$Signature;)V"⟩, 3) := ⟨⟨by decide +kernel, by decide +kernel⟩, List.mem_of_getElem? (i := 307) (by decide +kernel), List.mem_of_getElem? (i := 1620) (by decide +kernel), List.mem_of_getElem? (i := 1621) (by decide +kernel)⟩
theorem lw_p53 : lw_okq (⟨"OverlapBench$Output", "closeBrackets", "(I)I"⟩, 3) := ⟨⟨by decide +kernel, by decide +kernel⟩, List.mem_of_getElem? (i := 307) (by decide +kernel), List.mem_of_getElem? (i := 1633) (by decide +kernel), List.mem_of_getElem? (i := 1634) (by decide +kernel)⟩
def lw_privs_4 : List (MethodName × Nat) := [(⟨"OverlapBench$History", "at", "(I)LOverlapBench$State;"⟩, 3), (⟨"java/util/ArrayList", "add", "(Ljava/lang/Object;[Ljava/lang/Object;I)V"⟩, 3), (⟨"java/util/ArrayList", "grow", "()[Ljava/lang/Object;"⟩, 3), (⟨"java/util/ArrayList", "grow", "(I)[Ljava/lang/Object;"⟩, 3), (⟨"OverlapBench$Output", "addName", "(ILOverlapBench$Signature;)V"⟩, 3), (⟨"OverlapBench$Output", "closeBrackets", "(I)I"⟩, 3)]
theorem lw_r4 : ∀ q ∈ lw_privs_4, lw_okq q := List.forall_mem_cons.mpr ⟨lw_p48, List.forall_mem_cons.mpr ⟨lw_p49, List.forall_mem_cons.mpr ⟨lw_p50, List.forall_mem_cons.mpr ⟨lw_p51, List.forall_mem_cons.mpr ⟨lw_p52, List.forall_mem_cons.mpr ⟨lw_p53, fun _ h => absurd h List.not_mem_nil⟩⟩⟩⟩⟩⟩
def lw_privs : List (MethodName × Nat) := lw_privs_1 ++ (lw_privs_2 ++ (lw_privs_3 ++ (lw_privs_4)))
def lw_tbl : List Cond := k2_sels lw_privs ++ tables_1
theorem lw_privs_ok : ∀ q ∈ lw_privs, lw_okq q := by
  show ∀ q ∈ lw_privs_1 ++ (lw_privs_2 ++ (lw_privs_3 ++ (lw_privs_4))), lw_okq q
  exact List.forall_mem_append.mpr ⟨lw_r1, List.forall_mem_append.mpr ⟨lw_r2, List.forall_mem_append.mpr ⟨lw_r3, lw_r4⟩⟩⟩
/-! private methods of StringBuilder's own superclass: what is selected for a StringBuilder -/
theorem k2_selects_sub {y y0 : MethodName} {C : String} {s : State} {args : Array Value} {n : Nat} (h0 : (Cond.selects C y0 y0).before args s = true) (hyc : y0.cls = y.cls) (hy : y.cls ≠ "java/lang/invoke/MethodHandle" ∧ y.cls ≠ "java/lang/invoke/VarHandle")
    (hins : (Cond.instantiable C n).before args s = true) (hpriv : (Cond.privateMethod y).before args s = true) (hinst : (Cond.instanceMethod y).before args s = true) :
    (Cond.selects C y y).before args s = true := by
  obtain ⟨c, k, hc, hk, -, hniab, -, -⟩ := Cond.instantiable_spec hins
  obtain ⟨c0, r0, m0, e1, e2, e3, e4, k0, e5, e6⟩ := Cond.selects_spec (args := args) (first := s) (o := none) (s := s) (idx := []) h0
  obtain ⟨mk, methM, hnamed, hmethM, -, -⟩ := Cond.instanceMethod_spec hinst
  have hfound : s.methodFound? y.cls y.name y.desc = some mk := State.methodFound?_of_named hnamed hy
  have hsel : selectMethod {} s.vm c mk = .method mk := selectMethod_private hmethM (Cond.privateMethod_at hpriv mk methM hnamed hmethM)
  have hmc : m0.cls = mk.cls := Option.some.inj ((findClass_of_methodNamed e3).symm.trans (by rw [hyc]; exact findClass_of_methodNamed hnamed))
  simp only [Cond.before, Cond.holds, Cond.value, hc, hfound, hnamed, hsel]
  simp
  rw [← hmc, e5]
  simp [e6]
def lw_xs : List MethodName := [⟨"java/lang/AbstractStringBuilder", "ensureCapacityInternal", "(I)V"⟩, ⟨"java/lang/AbstractStringBuilder", "newCapacity", "(I)I"⟩, ⟨"java/lang/AbstractStringBuilder", "putStringAt", "(ILjava/lang/String;)V"⟩, ⟨"java/lang/AbstractStringBuilder", "inflateIfNeededFor", "(Ljava/lang/String;)V"⟩]
def lw_xsel : List Cond := lw_xs.map fun y => Cond.selects "java/lang/StringBuilder" y y
theorem lw_xs_ok : ∀ y ∈ lw_xs, (y.cls ≠ "java/lang/invoke/MethodHandle" ∧ y.cls ≠ "java/lang/invoke/VarHandle") ∧ Cond.privateMethod y ∈ tables_1 ∧ Cond.instanceMethod y ∈ tables_1 := List.forall_mem_cons.mpr ⟨⟨⟨by decide +kernel, by decide +kernel⟩, List.mem_of_getElem? (i := 1278) (by decide +kernel), List.mem_of_getElem? (i := 1279) (by decide +kernel)⟩, List.forall_mem_cons.mpr ⟨⟨⟨by decide +kernel, by decide +kernel⟩, List.mem_of_getElem? (i := 1282) (by decide +kernel), List.mem_of_getElem? (i := 1283) (by decide +kernel)⟩, List.forall_mem_cons.mpr ⟨⟨⟨by decide +kernel, by decide +kernel⟩, List.mem_of_getElem? (i := 1318) (by decide +kernel), List.mem_of_getElem? (i := 1319) (by decide +kernel)⟩, List.forall_mem_cons.mpr ⟨⟨⟨by decide +kernel, by decide +kernel⟩, List.mem_of_getElem? (i := 1322) (by decide +kernel), List.mem_of_getElem? (i := 1323) (by decide +kernel)⟩, fun _ h => absurd h List.not_mem_nil⟩⟩⟩⟩
theorem lw_xs_in : Cond.instantiable "java/lang/StringBuilder" 4 ∈ tables_1 := List.mem_of_getElem? (i := 1240) (by decide +kernel)
theorem lw_xs_sel : Cond.selects "java/lang/StringBuilder" ⟨"java/lang/AbstractStringBuilder", "isLatin1", "()Z"⟩ ⟨"java/lang/AbstractStringBuilder", "isLatin1", "()Z"⟩ ∈ tables_1 := List.mem_of_getElem? (i := 1299) (by decide +kernel)
theorem lw_xs_cls : ∀ y ∈ lw_xs, y.cls = "java/lang/AbstractStringBuilder" := by decide +kernel
def lw_tbl2 : List Cond := lw_xsel ++ lw_tbl
theorem lw_tbl2_ok {args : Array Value} {s : State} (h : ∀ w ∈ lw_tbl, w.before args s = true) : ∀ w ∈ lw_tbl2, w.before args s = true := by
  have h1 : ∀ w ∈ tables_1, w.before args s = true := fun w hw => h w (List.mem_append_right _ hw)
  intro w hw
  rcases List.mem_append.mp hw with hw | hw
  · obtain ⟨y, hy, rfl⟩ := List.mem_map.mp hw
    obtain ⟨h0, h2, h3⟩ := lw_xs_ok y hy
    exact k2_selects_sub (h1 _ lw_xs_sel) (lw_xs_cls y hy).symm h0 (h1 _ lw_xs_in) (h1 _ h2) (h1 _ h3)
  · exact h w hw
end
section
/-! THE METHODS AS TABLES (written by wip/p66/gen/part09.py out of the printed listing): (pc, instruction, length, a, b, place of its word); a recursive method stands once for each depth -/
abbrev JI : Type := Instr × Nat × Nat × Nat × Nat
/-- fields of a class: declaring class, name, descriptor, final -/
def jFs : List (String × List (String × String × String × Bool)) := [
  ("OverlapBench$History", [("OverlapBench$History", "count", "I", false), ("OverlapBench$History", "newest", "I", false), ("OverlapBench$History", "states", "[LOverlapBench$State;", true)]),
  ("OverlapBench$Output", [("OverlapBench$Output", "length", "I", false), ("OverlapBench$Output", "bytes", "[I", true), ("OverlapBench$Output", "due", "[I", true)]),
  ("OverlapBench$PairList", [("OverlapBench$PairList", "stale", "Z", false), ("OverlapBench$PairList", "count", "I", false), ("OverlapBench$PairList", "unifier", "LOverlapBench$Unifier;", true), ("OverlapBench$PairList", "rewriter", "LOverlapBench$Rewriter;", true), ("OverlapBench$PairList", "outerRules", "[I", true), ("OverlapBench$PairList", "innerRules", "[I", true), ("OverlapBench$PairList", "positions", "[I", true), ("OverlapBench$PairList", "verdicts", "[I", true), ("OverlapBench$PairList", "firstTerms", "[LOverlapBench$Term;", true), ("OverlapBench$PairList", "secondTerms", "[LOverlapBench$Term;", true), ("OverlapBench$PairList", "noTerm", "LOverlapBench$Term;", true), ("OverlapBench$PairList", "names", "[I", true)]),
  ("OverlapBench$Parser", [("OverlapBench$Parser", "errorCode", "I", false), ("OverlapBench$Parser", "errorPosition", "I", false), ("OverlapBench$Parser", "signature", "LOverlapBench$Signature;", true), ("OverlapBench$Parser", "state", "LOverlapBench$State;", true), ("OverlapBench$Parser", "buffered", "I", false), ("OverlapBench$Parser", "bytes", "[I", true), ("OverlapBench$Parser", "rewriter", "LOverlapBench$Rewriter;", true), ("OverlapBench$Parser", "due", "[I", true), ("OverlapBench$Parser", "length", "I", false), ("OverlapBench$Parser", "kind", "I", false), ("OverlapBench$Parser", "start", "I", false), ("OverlapBench$Parser", "stop", "I", false)]),
  ("OverlapBench$Rewriter", [("OverlapBench$Rewriter", "result", "LOverlapBench$Term;", true), ("OverlapBench$Rewriter", "reduced", "LOverlapBench$Term;", true), ("OverlapBench$Rewriter", "firstNormal", "LOverlapBench$Term;", true), ("OverlapBench$Rewriter", "bound", "[I", true)]),
  ("OverlapBench$Rule", [("OverlapBench$Rule", "left", "LOverlapBench$Term;", false), ("OverlapBench$Rule", "right", "LOverlapBench$Term;", false)]),
  ("OverlapBench$Signature", [("OverlapBench$Signature", "count", "I", false), ("OverlapBench$Signature", "arities", "[I", true), ("OverlapBench$Signature", "lengths", "[I", true), ("OverlapBench$Signature", "letters", "[I", true)]),
  ("OverlapBench$State", [("OverlapBench$State", "ruleCount", "I", false), ("OverlapBench$State", "termCount", "I", false), ("OverlapBench$State", "rules", "[LOverlapBench$Rule;", true), ("OverlapBench$State", "terms", "[LOverlapBench$Term;", true), ("OverlapBench$State", "noRule", "LOverlapBench$Rule;", true), ("OverlapBench$State", "noTerm", "LOverlapBench$Term;", true)]),
  ("OverlapBench$Term", [("OverlapBench$Term", "nodes", "[I", true), ("OverlapBench$Term", "size", "I", false)]),
  ("OverlapBench$Unifier", [("OverlapBench$Unifier", "size", "I", false), ("OverlapBench$Unifier", "labels", "[I", true), ("OverlapBench$Unifier", "parents", "[I", true), ("OverlapBench$Unifier", "ends", "[I", true), ("OverlapBench$Unifier", "settled", "[Z", true), ("OverlapBench$Unifier", "firstUse", "[I", true), ("OverlapBench$Unifier", "stack", "[I", true), ("OverlapBench$Unifier", "top", "I", false)]),
  ("OverlapBench", [("OverlapBench", "loaded", "Z", false), ("OverlapBench", "signature", "LOverlapBench$Signature;", true), ("OverlapBench", "current", "LOverlapBench$State;", true), ("OverlapBench", "rewriter", "LOverlapBench$Rewriter;", true), ("OverlapBench", "unifier", "LOverlapBench$Unifier;", true), ("OverlapBench", "parser", "LOverlapBench$Parser;", true), ("OverlapBench", "pairs", "LOverlapBench$PairList;", true), ("OverlapBench", "output", "LOverlapBench$Output;", true), ("OverlapBench", "history", "LOverlapBench$History;", true), ("OverlapBench", "firstSaved", "LOverlapBench$State;", true), ("OverlapBench", "secondSaved", "LOverlapBench$State;", true), ("OverlapBench", "firstSlotFull", "Z", false), ("OverlapBench", "secondSlotFull", "Z", false), ("OverlapBench", "scratch", "LOverlapBench$Term;", true), ("OverlapBench", "heights", "[I", true)]),
  ("OverlapBenchLaw$Node", [("OverlapBenchLaw$Node", "code", "I", true), ("OverlapBenchLaw$Node", "x", "LOverlapBenchLaw$Node;", true), ("OverlapBenchLaw$Node", "y", "LOverlapBenchLaw$Node;", true)]),
  ("OverlapBenchLaw$Sys", [("OverlapBenchLaw$Sys", "rules", "Ljava/util/ArrayList;", true), ("OverlapBenchLaw$Sys", "terms", "Ljava/util/ArrayList;", true), ("OverlapBenchLaw$Sys", "what", "[LOverlapBenchLaw$Node;", true), ("OverlapBenchLaw$Sys", "meaning", "[LOverlapBenchLaw$Node;", true), ("OverlapBenchLaw$Sys", "steps", "I", false)]),
  ("java/util/ArrayList", [("java/util/AbstractList", "modCount", "I", false), ("java/util/ArrayList", "elementData", "[Ljava/lang/Object;", false), ("java/util/ArrayList", "size", "I", false)]),
  ("java/lang/StringBuilder", [("java/lang/AbstractStringBuilder", "value", "[B", false), ("java/lang/AbstractStringBuilder", "coder", "B", false), ("java/lang/AbstractStringBuilder", "maybeLatin1", "Z", false), ("java/lang/AbstractStringBuilder", "count", "I", false)]),
  ("java/lang/String", [("java/lang/String", "value", "[B", true), ("java/lang/String", "coder", "B", true), ("java/lang/String", "hash", "I", false), ("java/lang/String", "hashIsZero", "Z", false)])]
/-- OverlapBench.<init>()V -/
def cd_0 : List (Nat × JI) := [(0, .aload_n 0, 1, 0, 0, 0), (1, .invokespecial 1, 3, 1, 0, 1044), (4, .aload_n 0, 1, 0, 0, 0), (5, .iconst 0, 1, 0, 0, 0), (6, .putfield 7, 3, 110, 0, 2105), (9, .aload_n 0, 1, 0, 0, 0), (10, .new 13, 3, 6, 0, 1047), (13, .dup, 1, 0, 0, 0), (14, .invokespecial 15, 3, 2, 100, 1049), (17, .putfield 16, 3, 210, 1, 2106), (20, .aload_n 0, 1, 0, 0, 0), (21, .new 20, 3, 7, 0, 1068), (24, .dup, 1, 0, 0, 0), (25, .invokespecial 22, 3, 3, 0, 1070), (28, .putfield 23, 3, 210, 2, 2107), (31, .aload_n 0, 1, 0, 0, 0), (32, .new 27, 3, 4, 0, 1147), (35, .dup, 1, 0, 0, 0), (36, .invokespecial 29, 3, 7, 100, 1149), (39, .putfield 30, 3, 210, 3, 2108), (42, .aload_n 0, 1, 0, 0, 0), (43, .new 34, 3, 9, 0, 1171), (46, .dup, 1, 0, 0, 0), (47, .invokespecial 36, 3, 8, 100, 1173), (50, .putfield 37, 3, 210, 4, 2109), (53, .aload_n 0, 1, 0, 0, 0), (54, .new 41, 3, 3, 0, 1203), (57, .dup, 1, 0, 0, 0), (58, .invokespecial 43, 3, 9, 100, 1205), (61, .putfield 44, 3, 210, 5, 2110), (64, .aload_n 0, 1, 0, 0, 0), (65, .new 48, 3, 2, 0, 2015), (68, .dup, 1, 0, 0, 0), (69, .invokespecial 50, 3, 10, 0, 2017), (72, .putfield 51, 3, 210, 6, 2111), (75, .aload_n 0, 1, 0, 0, 0), (76, .new 55, 3, 1, 0, 2066), (79, .dup, 1, 0, 0, 0), (80, .invokespecial 57, 3, 11, 100, 2068), (83, .putfield 58, 3, 210, 7, 2112), (86, .aload_n 0, 1, 0, 0, 0), (87, .new 62, 3, 0, 0, 2083), (90, .dup, 1, 0, 0, 0), (91, .invokespecial 64, 3, 12, 0, 2085), (94, .putfield 65, 3, 210, 8, 2113), (97, .aload_n 0, 1, 0, 0, 0), (98, .new 20, 3, 7, 0, 1068), (101, .dup, 1, 0, 0, 0), (102, .invokespecial 22, 3, 3, 0, 1070), (105, .putfield 69, 3, 210, 9, 2114), (108, .aload_n 0, 1, 0, 0, 0), (109, .new 20, 3, 7, 0, 1068), (112, .dup, 1, 0, 0, 0), (113, .invokespecial 22, 3, 3, 0, 1070), (116, .putfield 72, 3, 210, 10, 2115), (119, .aload_n 0, 1, 0, 0, 0), (120, .iconst 0, 1, 0, 0, 0), (121, .putfield 75, 3, 110, 11, 2116), (124, .aload_n 0, 1, 0, 0, 0), (125, .iconst 0, 1, 0, 0, 0), (126, .putfield 78, 3, 110, 12, 2117), (129, .aload_n 0, 1, 0, 0, 0), (130, .new 81, 3, 8, 0, 2103), (133, .dup, 1, 0, 0, 0), (134, .bipush 80, 2, 0, 0, 0), (136, .invokespecial 83, 3, 5, 1, 2104), (139, .putfield 86, 3, 210, 13, 2118), (142, .aload_n 0, 1, 0, 0, 0), (143, .bipush 80, 2, 0, 0, 0), (145, .newarray .int, 2, 100, 0, 1067), (147, .putfield 90, 3, 210, 14, 2119), (150, .return_, 1, 0, 0, 0)]
/-- java/lang/Object.<init>()V -/
def cd_1 : List (Nat × JI) := [(0, .return_, 1, 0, 0, 0)]
/-- OverlapBench$Signature.<init>()V -/
def cd_2 : List (Nat × JI) := [(0, .aload_n 0, 1, 0, 0, 0), (1, .invokespecial 3, 3, 1, 0, 1052), (4, .aload_n 0, 1, 0, 0, 0), (5, .iconst 0, 1, 0, 0, 0), (6, .putfield 9, 3, 6, 0, 1053), (9, .aload_n 0, 1, 0, 0, 0), (10, .bipush 8, 2, 0, 0, 0), (12, .newarray .int, 2, 100, 0, 1067), (14, .putfield 15, 3, 206, 1, 1055), (17, .aload_n 0, 1, 0, 0, 0), (18, .bipush 8, 2, 0, 0, 0), (20, .newarray .int, 2, 100, 0, 1067), (22, .putfield 19, 3, 206, 2, 1056), (25, .aload_n 0, 1, 0, 0, 0), (26, .bipush 48, 2, 0, 0, 0), (28, .newarray .int, 2, 100, 0, 1067), (30, .putfield 22, 3, 206, 3, 1057), (33, .return_, 1, 0, 0, 0)]
/-- OverlapBench$State.<init>()V -/
def cd_3 : List (Nat × JI) := [(0, .aload_n 0, 1, 0, 0, 0), (1, .invokespecial 3, 3, 1, 0, 1073), (4, .aload_n 0, 1, 0, 0, 0), (5, .iconst 0, 1, 0, 0, 0), (6, .putfield 9, 3, 7, 0, 1122), (9, .aload_n 0, 1, 0, 0, 0), (10, .iconst 0, 1, 0, 0, 0), (11, .putfield 15, 3, 7, 1, 1127), (14, .aload_n 0, 1, 0, 0, 0), (15, .bipush 6, 2, 0, 0, 0), (17, .anewarray 18, 3, 110, 0, 1074), (20, .putfield 20, 3, 207, 2, 1130), (23, .aload_n 0, 1, 0, 0, 0), (24, .bipush 6, 2, 0, 0, 0), (26, .anewarray 24, 3, 113, 0, 1076), (29, .putfield 26, 3, 207, 3, 1131), (32, .aload_n 0, 1, 0, 0, 0), (33, .new 18, 3, 5, 0, 1074), (36, .dup, 1, 0, 0, 0), (37, .invokespecial 30, 3, 4, 100, 1079), (40, .putfield 31, 3, 207, 4, 1132), (43, .aload_n 0, 1, 0, 0, 0), (44, .new 24, 3, 8, 0, 1076), (47, .dup, 1, 0, 0, 0), (48, .iconst 0, 1, 0, 0, 0), (49, .invokespecial 35, 3, 5, 1, 1121), (52, .putfield 38, 3, 207, 5, 1133), (55, .iconst 0, 1, 0, 0, 0), (56, .istore_n 1, 1, 0, 0, 0), (57, .iload_n 1, 1, 0, 0, 0), (58, .bipush 6, 2, 0, 0, 0), (60, .if_icmp .ge 22, 3, 82, 0, 0), (63, .aload_n 0, 1, 0, 0, 0), (64, .getfield 20, 3, 7, 2, 1130), (67, .iload_n 1, 1, 0, 0, 0), (68, .new 18, 3, 5, 0, 1074), (71, .dup, 1, 0, 0, 0), (72, .invokespecial 30, 3, 4, 100, 1079), (75, .aastore, 1, 0, 0, 0), (76, .iinc 1 1, 3, 0, 0, 0), (79, .goto (-22), 3, 57, 0, 0), (82, .iconst 0, 1, 0, 0, 0), (83, .istore_n 1, 1, 0, 0, 0), (84, .iload_n 1, 1, 0, 0, 0), (85, .bipush 6, 2, 0, 0, 0), (87, .if_icmp .ge 24, 3, 111, 0, 0), (90, .aload_n 0, 1, 0, 0, 0), (91, .getfield 26, 3, 7, 3, 1131), (94, .iload_n 1, 1, 0, 0, 0), (95, .new 24, 3, 8, 0, 1076), (98, .dup, 1, 0, 0, 0), (99, .bipush 80, 2, 0, 0, 0), (101, .invokespecial 35, 3, 5, 1, 1121), (104, .aastore, 1, 0, 0, 0), (105, .iinc 1 1, 3, 0, 0, 0), (108, .goto (-24), 3, 84, 0, 0), (111, .return_, 1, 0, 0, 0)]
/-- OverlapBench$Rule.<init>()V -/
def cd_4 : List (Nat × JI) := [(0, .aload_n 0, 1, 0, 0, 0), (1, .invokespecial 3, 3, 1, 0, 1082), (4, .aload_n 0, 1, 0, 0, 0), (5, .new 9, 3, 8, 0, 1083), (8, .dup, 1, 0, 0, 0), (9, .bipush 12, 2, 0, 0, 0), (11, .invokespecial 11, 3, 5, 1, 1085), (14, .putfield 14, 3, 205, 0, 1106), (17, .aload_n 0, 1, 0, 0, 0), (18, .new 9, 3, 8, 0, 1083), (21, .dup, 1, 0, 0, 0), (22, .bipush 12, 2, 0, 0, 0), (24, .invokespecial 11, 3, 5, 1, 1085), (27, .putfield 20, 3, 205, 1, 1111), (30, .return_, 1, 0, 0, 0)]
/-- OverlapBench$Term.<init>(I)V -/
def cd_5 : List (Nat × JI) := [(0, .aload_n 0, 1, 0, 0, 0), (1, .invokespecial 3, 3, 1, 0, 1088), (4, .aload_n 0, 1, 0, 0, 0), (5, .iconst 0, 1, 0, 0, 0), (6, .putfield 9, 3, 8, 1, 1093), (9, .aload_n 0, 1, 0, 0, 0), (10, .iload_n 1, 1, 0, 0, 0), (11, .iconst 0, 1, 0, 0, 0), (12, .invokestatic 15, 3, 6, 2, 1089), (15, .newarray .int, 2, 100, 0, 1067), (17, .putfield 21, 3, 208, 0, 1092), (20, .return_, 1, 0, 0, 0)]
/-- java/lang/Math.max(II)I -/
def cd_6 : List (Nat × JI) := [(0, .iload_n 0, 1, 0, 0, 0), (1, .iload_n 1, 1, 0, 0, 0), (2, .if_icmp .lt 7, 3, 9, 0, 0), (5, .iload_n 0, 1, 0, 0, 0), (6, .goto 4, 3, 10, 0, 0), (9, .iload_n 1, 1, 0, 0, 0), (10, .ireturn, 1, 0, 0, 0)]
/-- OverlapBench$Rewriter.<init>()V -/
def cd_7 : List (Nat × JI) := [(0, .aload_n 0, 1, 0, 0, 0), (1, .invokespecial 3, 3, 1, 0, 1152), (4, .aload_n 0, 1, 0, 0, 0), (5, .new 9, 3, 8, 0, 1153), (8, .dup, 1, 0, 0, 0), (9, .bipush 80, 2, 0, 0, 0), (11, .invokespecial 11, 3, 5, 1, 1154), (14, .putfield 14, 3, 204, 0, 1155), (17, .aload_n 0, 1, 0, 0, 0), (18, .new 9, 3, 8, 0, 1153), (21, .dup, 1, 0, 0, 0), (22, .bipush 80, 2, 0, 0, 0), (24, .invokespecial 11, 3, 5, 1, 1154), (27, .putfield 20, 3, 204, 1, 1158), (30, .aload_n 0, 1, 0, 0, 0), (31, .new 9, 3, 8, 0, 1153), (34, .dup, 1, 0, 0, 0), (35, .bipush 80, 2, 0, 0, 0), (37, .invokespecial 11, 3, 5, 1, 1154), (40, .putfield 23, 3, 204, 2, 1160), (43, .aload_n 0, 1, 0, 0, 0), (44, .bipush 8, 2, 0, 0, 0), (46, .newarray .int, 2, 100, 0, 1067), (48, .putfield 26, 3, 204, 3, 1161), (51, .return_, 1, 0, 0, 0)]
/-- OverlapBench$Unifier.<init>()V -/
def cd_8 : List (Nat × JI) := [(0, .aload_n 0, 1, 0, 0, 0), (1, .invokespecial 5, 3, 1, 0, 1176), (4, .aload_n 0, 1, 0, 0, 0), (5, .iconst 0, 1, 0, 0, 0), (6, .putfield 11, 3, 9, 0, 1177), (9, .aload_n 0, 1, 0, 0, 0), (10, .sipush 160, 3, 0, 0, 0), (13, .newarray .int, 2, 100, 0, 1067), (15, .putfield 15, 3, 209, 1, 1178), (18, .aload_n 0, 1, 0, 0, 0), (19, .sipush 160, 3, 0, 0, 0), (22, .newarray .int, 2, 100, 0, 1067), (24, .putfield 19, 3, 209, 2, 1179), (27, .aload_n 0, 1, 0, 0, 0), (28, .sipush 160, 3, 0, 0, 0), (31, .newarray .int, 2, 100, 0, 1067), (33, .putfield 22, 3, 209, 3, 1180), (36, .aload_n 0, 1, 0, 0, 0), (37, .sipush 160, 3, 0, 0, 0), (40, .newarray .boolean, 2, 102, 0, 1202), (42, .putfield 25, 3, 209, 4, 1181), (45, .aload_n 0, 1, 0, 0, 0), (46, .bipush 16, 2, 0, 0, 0), (48, .newarray .int, 2, 100, 0, 1067), (50, .putfield 29, 3, 209, 5, 1182), (53, .aload_n 0, 1, 0, 0, 0), (54, .sipush 962, 3, 0, 0, 0), (57, .newarray .int, 2, 100, 0, 1067), (59, .putfield 32, 3, 209, 6, 1183), (62, .aload_n 0, 1, 0, 0, 0), (63, .iconst 0, 1, 0, 0, 0), (64, .putfield 35, 3, 9, 7, 1184), (67, .return_, 1, 0, 0, 0)]
/-- OverlapBench$Parser.<init>()V -/
def cd_9 : List (Nat × JI) := [(0, .aload_n 0, 1, 0, 0, 0), (1, .invokespecial 3, 3, 1, 0, 1208), (4, .aload_n 0, 1, 0, 0, 0), (5, .iconst 0, 1, 0, 0, 0), (6, .putfield 9, 3, 3, 0, 1215), (9, .aload_n 0, 1, 0, 0, 0), (10, .iconst (-1), 1, 0, 0, 0), (11, .putfield 15, 3, 3, 1, 1216), (14, .aload_n 0, 1, 0, 0, 0), (15, .new 18, 3, 6, 0, 1209), (18, .dup, 1, 0, 0, 0), (19, .invokespecial 20, 3, 2, 100, 1210), (22, .putfield 21, 3, 203, 2, 1217), (25, .aload_n 0, 1, 0, 0, 0), (26, .new 25, 3, 7, 0, 1211), (29, .dup, 1, 0, 0, 0), (30, .invokespecial 27, 3, 3, 0, 1212), (33, .putfield 28, 3, 203, 3, 1219), (36, .aload_n 0, 1, 0, 0, 0), (37, .iconst 0, 1, 0, 0, 0), (38, .putfield 32, 3, 3, 4, 1221), (41, .aload_n 0, 1, 0, 0, 0), (42, .sipush 500, 3, 0, 0, 0), (45, .newarray .int, 2, 100, 0, 1067), (47, .putfield 35, 3, 203, 5, 1223), (50, .aload_n 0, 1, 0, 0, 0), (51, .new 39, 3, 4, 0, 1213), (54, .dup, 1, 0, 0, 0), (55, .invokespecial 41, 3, 7, 100, 1214), (58, .putfield 42, 3, 203, 6, 1224), (61, .aload_n 0, 1, 0, 0, 0), (62, .bipush 40, 2, 0, 0, 0), (64, .newarray .int, 2, 100, 0, 1067), (66, .putfield 46, 3, 203, 7, 1225), (69, .aload_n 0, 1, 0, 0, 0), (70, .iconst 0, 1, 0, 0, 0), (71, .putfield 49, 3, 3, 8, 1226), (74, .aload_n 0, 1, 0, 0, 0), (75, .iconst 0, 1, 0, 0, 0), (76, .putfield 52, 3, 3, 9, 1227), (79, .aload_n 0, 1, 0, 0, 0), (80, .iconst 0, 1, 0, 0, 0), (81, .putfield 55, 3, 3, 10, 1228), (84, .aload_n 0, 1, 0, 0, 0), (85, .iconst 0, 1, 0, 0, 0), (86, .putfield 58, 3, 3, 11, 1229), (89, .return_, 1, 0, 0, 0)]
/-- OverlapBench$PairList.<init>()V -/
def cd_10 : List (Nat × JI) := [(0, .aload_n 0, 1, 0, 0, 0), (1, .invokespecial 3, 3, 1, 0, 2020), (4, .aload_n 0, 1, 0, 0, 0), (5, .iconst 1, 1, 0, 0, 0), (6, .putfield 9, 3, 102, 0, 2027), (9, .aload_n 0, 1, 0, 0, 0), (10, .iconst 0, 1, 0, 0, 0), (11, .putfield 15, 3, 2, 1, 2029), (14, .aload_n 0, 1, 0, 0, 0), (15, .new 19, 3, 9, 0, 2021), (18, .dup, 1, 0, 0, 0), (19, .invokespecial 21, 3, 8, 100, 2022), (22, .putfield 22, 3, 202, 2, 2031), (25, .aload_n 0, 1, 0, 0, 0), (26, .new 26, 3, 4, 0, 2023), (29, .dup, 1, 0, 0, 0), (30, .invokespecial 28, 3, 7, 100, 2024), (33, .putfield 29, 3, 202, 3, 2032), (36, .aload_n 0, 1, 0, 0, 0), (37, .bipush 20, 2, 0, 0, 0), (39, .newarray .int, 2, 100, 0, 1067), (41, .putfield 33, 3, 202, 4, 2033), (44, .aload_n 0, 1, 0, 0, 0), (45, .bipush 20, 2, 0, 0, 0), (47, .newarray .int, 2, 100, 0, 1067), (49, .putfield 37, 3, 202, 5, 2034), (52, .aload_n 0, 1, 0, 0, 0), (53, .bipush 20, 2, 0, 0, 0), (55, .newarray .int, 2, 100, 0, 1067), (57, .putfield 40, 3, 202, 6, 2035), (60, .aload_n 0, 1, 0, 0, 0), (61, .bipush 20, 2, 0, 0, 0), (63, .newarray .int, 2, 100, 0, 1067), (65, .putfield 43, 3, 202, 7, 2036), (68, .aload_n 0, 1, 0, 0, 0), (69, .bipush 20, 2, 0, 0, 0), (71, .anewarray 46, 3, 113, 0, 2025), (74, .putfield 48, 3, 202, 8, 2037), (77, .aload_n 0, 1, 0, 0, 0), (78, .bipush 20, 2, 0, 0, 0), (80, .anewarray 46, 3, 113, 0, 2025), (83, .putfield 52, 3, 202, 9, 2038), (86, .aload_n 0, 1, 0, 0, 0), (87, .new 46, 3, 8, 0, 2025), (90, .dup, 1, 0, 0, 0), (91, .iconst 0, 1, 0, 0, 0), (92, .invokespecial 55, 3, 5, 1, 2026), (95, .putfield 58, 3, 202, 10, 2039), (98, .aload_n 0, 1, 0, 0, 0), (99, .bipush 16, 2, 0, 0, 0), (101, .newarray .int, 2, 100, 0, 1067), (103, .putfield 62, 3, 202, 11, 2040), (106, .iconst 0, 1, 0, 0, 0), (107, .istore_n 1, 1, 0, 0, 0), (108, .iload_n 1, 1, 0, 0, 0), (109, .bipush 20, 2, 0, 0, 0), (111, .if_icmp .ge 39, 3, 150, 0, 0), (114, .aload_n 0, 1, 0, 0, 0), (115, .getfield 48, 3, 2, 8, 2037), (118, .iload_n 1, 1, 0, 0, 0), (119, .new 46, 3, 8, 0, 2025), (122, .dup, 1, 0, 0, 0), (123, .bipush 80, 2, 0, 0, 0), (125, .invokespecial 55, 3, 5, 1, 2026), (128, .aastore, 1, 0, 0, 0), (129, .aload_n 0, 1, 0, 0, 0), (130, .getfield 52, 3, 2, 9, 2038), (133, .iload_n 1, 1, 0, 0, 0), (134, .new 46, 3, 8, 0, 2025), (137, .dup, 1, 0, 0, 0), (138, .bipush 80, 2, 0, 0, 0), (140, .invokespecial 55, 3, 5, 1, 2026), (143, .aastore, 1, 0, 0, 0), (144, .iinc 1 1, 3, 0, 0, 0), (147, .goto (-39), 3, 108, 0, 0), (150, .return_, 1, 0, 0, 0)]
/-- OverlapBench$Output.<init>()V -/
def cd_11 : List (Nat × JI) := [(0, .aload_n 0, 1, 0, 0, 0), (1, .invokespecial 3, 3, 1, 0, 2071), (4, .aload_n 0, 1, 0, 0, 0), (5, .iconst 0, 1, 0, 0, 0), (6, .putfield 9, 3, 1, 0, 2072), (9, .aload_n 0, 1, 0, 0, 0), (10, .sipush 1600, 3, 0, 0, 0), (13, .newarray .int, 2, 100, 0, 1067), (15, .putfield 15, 3, 201, 1, 2074), (18, .aload_n 0, 1, 0, 0, 0), (19, .bipush 80, 2, 0, 0, 0), (21, .newarray .int, 2, 100, 0, 1067), (23, .putfield 19, 3, 201, 2, 2075), (26, .return_, 1, 0, 0, 0)]
/-- OverlapBench$History.<init>()V -/
def cd_12 : List (Nat × JI) := [(0, .aload_n 0, 1, 0, 0, 0), (1, .invokespecial 3, 3, 1, 0, 2088), (4, .aload_n 0, 1, 0, 0, 0), (5, .iconst 0, 1, 0, 0, 0), (6, .putfield 9, 3, 0, 0, 2092), (9, .aload_n 0, 1, 0, 0, 0), (10, .iconst 0, 1, 0, 0, 0), (11, .putfield 15, 3, 0, 1, 2094), (14, .aload_n 0, 1, 0, 0, 0), (15, .bipush 8, 2, 0, 0, 0), (17, .anewarray 18, 3, 112, 0, 2089), (20, .putfield 20, 3, 200, 2, 2095), (23, .iconst 0, 1, 0, 0, 0), (24, .istore_n 1, 1, 0, 0, 0), (25, .iload_n 1, 1, 0, 0, 0), (26, .bipush 8, 2, 0, 0, 0), (28, .if_icmp .ge 22, 3, 50, 0, 0), (31, .aload_n 0, 1, 0, 0, 0), (32, .getfield 20, 3, 0, 2, 2095), (35, .iload_n 1, 1, 0, 0, 0), (36, .new 18, 3, 7, 0, 2089), (39, .dup, 1, 0, 0, 0), (40, .invokespecial 24, 3, 3, 0, 2091), (43, .aastore, 1, 0, 0, 0), (44, .iinc 1 1, 3, 0, 0, 0), (47, .goto (-22), 3, 25, 0, 0), (50, .return_, 1, 0, 0, 0)]
/-- OverlapBench.parseSystem(I)I -/
def cd_13 : List (Nat × JI) := [(0, .iload_n 1, 1, 0, 0, 0), (1, .ifCond .lt 14, 3, 15, 0, 0), (4, .iload_n 1, 1, 0, 0, 0), (5, .aload_n 0, 1, 0, 0, 0), (6, .getfield 44, 3, 10, 5, 2110), (9, .getfield 94, 3, 3, 4, 1222), (12, .if_icmp .le 11, 3, 23, 0, 0), (15, .new 101, 3, 101, 103, 2155), (18, .dup, 1, 0, 0, 0), (19, .invokespecial 103, 3, 9999, 0, 2196), (22, .athrow, 1, 0, 0, 0), (23, .aload_n 0, 1, 0, 0, 0), (24, .getfield 44, 3, 10, 5, 2110), (27, .iload_n 1, 1, 0, 0, 0), (28, .invokevirtual 104, 3, 14, 1, 2218), (31, .istore_n 2, 1, 0, 0, 0), (32, .aload_n 0, 1, 0, 0, 0), (33, .getfield 44, 3, 10, 5, 2110), (36, .iconst 0, 1, 0, 0, 0), (37, .putfield 94, 3, 3, 4, 1222), (40, .iload_n 2, 1, 0, 0, 0), (41, .ifCond .ne 11, 3, 52, 0, 0), (44, .new 108, 3, 102, 110, 4008), (47, .dup, 1, 0, 0, 0), (48, .invokespecial 110, 3, 9999, 0, 4017), (51, .athrow, 1, 0, 0, 0), (52, .aload_n 0, 1, 0, 0, 0), (53, .iconst 1, 1, 0, 0, 0), (54, .putfield 7, 3, 110, 0, 2105), (57, .aload_n 0, 1, 0, 0, 0), (58, .getfield 16, 3, 10, 1, 2106), (61, .aload_n 0, 1, 0, 0, 0), (62, .getfield 44, 3, 10, 5, 2110), (65, .getfield 111, 3, 3, 2, 1218), (68, .invokevirtual 112, 3, 73, 1, 4024), (71, .aload_n 0, 1, 0, 0, 0), (72, .aload_n 0, 1, 0, 0, 0), (73, .getfield 44, 3, 10, 5, 2110), (76, .getfield 116, 3, 3, 3, 1220), (79, .invokevirtual 119, 3, 74, 1, 4028), (82, .aload_n 0, 1, 0, 0, 0), (83, .iconst 0, 1, 0, 0, 0), (84, .putfield 75, 3, 110, 11, 2116), (87, .aload_n 0, 1, 0, 0, 0), (88, .iconst 0, 1, 0, 0, 0), (89, .putfield 78, 3, 110, 12, 2117), (92, .aload_n 0, 1, 0, 0, 0), (93, .getfield 23, 3, 10, 2, 2107), (96, .getfield 123, 3, 7, 0, 1123), (99, .ireturn, 1, 0, 0, 0)]
/-- OverlapBench$Parser.run(I)Z -/
def cd_14 : List (Nat × JI) := [(0, .aload_n 0, 1, 0, 0, 0), (1, .iload_n 1, 1, 0, 0, 0), (2, .putfield 49, 3, 3, 8, 1226), (5, .aload_n 0, 1, 0, 0, 0), (6, .iconst 0, 1, 0, 0, 0), (7, .putfield 58, 3, 3, 11, 1229), (10, .aload_n 0, 1, 0, 0, 0), (11, .iconst 0, 1, 0, 0, 0), (12, .putfield 9, 3, 3, 0, 1215), (15, .aload_n 0, 1, 0, 0, 0), (16, .iconst (-1), 1, 0, 0, 0), (17, .putfield 15, 3, 3, 1, 1216), (20, .aload_n 0, 1, 0, 0, 0), (21, .getfield 21, 3, 3, 2, 1217), (24, .iconst 0, 1, 0, 0, 0), (25, .putfield 61, 3, 6, 0, 1054), (28, .aload_n 0, 1, 0, 0, 0), (29, .getfield 28, 3, 3, 3, 1219), (32, .invokevirtual 64, 3, 15, 0, 2222), (35, .aload_n 0, 1, 0, 0, 0), (36, .invokevirtual 67, 3, 16, 0, 2226), (39, .aload_n 0, 1, 0, 0, 0), (40, .ldc 70, 2, 0, 1, 2238), (42, .invokevirtual 72, 3, 19, 1, 2239), (45, .ifCond .ne 9, 3, 54, 0, 0), (48, .aload_n 0, 1, 0, 0, 0), (49, .iconst 1, 1, 0, 0, 0), (50, .invokevirtual 76, 3, 27, 1, 3051), (53, .ireturn, 1, 1, 0, 0), (54, .aload_n 0, 1, 0, 0, 0), (55, .invokevirtual 67, 3, 16, 0, 2226), (58, .iconst 0, 1, 0, 0, 0), (59, .istore_n 2, 1, 0, 0, 0), (60, .iload_n 2, 1, 0, 0, 0), (61, .sipush 500, 3, 0, 0, 0), (64, .if_icmp .gt 143, 3, 207, 0, 0), (67, .aload_n 0, 1, 0, 0, 0), (68, .getfield 52, 3, 3, 9, 1227), (71, .ifCond .eq 136, 3, 207, 0, 0), (74, .aload_n 0, 1, 0, 0, 0), (75, .getfield 52, 3, 3, 9, 1227), (78, .bipush 59, 2, 0, 0, 0), (80, .if_icmp .eq 9, 3, 89, 0, 0), (83, .aload_n 0, 1, 0, 0, 0), (84, .iconst 1, 1, 0, 0, 0), (85, .invokevirtual 76, 3, 27, 1, 3051), (88, .ireturn, 1, 1, 0, 0), (89, .aload_n 0, 1, 0, 0, 0), (90, .invokevirtual 67, 3, 16, 0, 2226), (93, .aload_n 0, 1, 0, 0, 0), (94, .ldc 80, 2, 1, 1, 3055), (96, .invokevirtual 72, 3, 19, 1, 2239), (99, .ifCond .eq 10, 3, 109, 0, 0), (102, .aload_n 0, 1, 0, 0, 0), (103, .invokevirtual 82, 3, 28, 0, 3056), (106, .goto 88, 3, 194, 0, 0), (109, .aload_n 0, 1, 0, 0, 0), (110, .ldc 86, 2, 2, 1, 3097), (112, .invokevirtual 72, 3, 19, 1, 2239), (115, .ifCond .eq 10, 3, 125, 0, 0), (118, .aload_n 0, 1, 0, 0, 0), (119, .invokevirtual 88, 3, 38, 0, 3098), (122, .goto 72, 3, 194, 0, 0), (125, .aload_n 0, 1, 0, 0, 0), (126, .ldc 91, 2, 3, 1, 3156), (128, .invokevirtual 72, 3, 19, 1, 2239), (131, .ifCond .eq 10, 3, 141, 0, 0), (134, .aload_n 0, 1, 0, 0, 0), (135, .invokevirtual 93, 3, 53, 0, 3157), (138, .goto 56, 3, 194, 0, 0), (141, .aload_n 0, 1, 0, 0, 0), (142, .ldc 96, 2, 4, 1, 3165), (144, .invokevirtual 72, 3, 19, 1, 2239), (147, .ifCond .eq 10, 3, 157, 0, 0), (150, .aload_n 0, 1, 0, 0, 0), (151, .invokevirtual 98, 3, 55, 0, 3166), (154, .goto 40, 3, 194, 0, 0), (157, .aload_n 0, 1, 0, 0, 0), (158, .ldc 101, 2, 5, 1, 3181), (160, .invokevirtual 72, 3, 19, 1, 2239), (163, .ifCond .eq 10, 3, 173, 0, 0), (166, .aload_n 0, 1, 0, 0, 0), (167, .invokevirtual 103, 3, 58, 0, 3182), (170, .goto 24, 3, 194, 0, 0), (173, .aload_n 0, 1, 0, 0, 0), (174, .ldc 106, 2, 6, 1, 3196), (176, .invokevirtual 72, 3, 19, 1, 2239), (179, .ifCond .eq 10, 3, 189, 0, 0), (182, .aload_n 0, 1, 0, 0, 0), (183, .invokevirtual 108, 3, 61, 0, 3197), (186, .goto 8, 3, 194, 0, 0), (189, .aload_n 0, 1, 0, 0, 0), (190, .iconst 1, 1, 0, 0, 0), (191, .invokevirtual 76, 3, 27, 1, 3051), (194, .istore_n 3, 1, 0, 0, 0), (195, .iload_n 3, 1, 0, 0, 0), (196, .ifCond .ne 5, 3, 201, 0, 0), (199, .iconst 0, 1, 0, 0, 0), (200, .ireturn, 1, 1, 0, 0), (201, .iinc 2 1, 3, 0, 0, 0), (204, .goto (-144), 3, 60, 0, 0), (207, .iconst 1, 1, 0, 0, 0), (208, .ireturn, 1, 1, 0, 0)]
/-- OverlapBench$State.clear()V -/
def cd_15 : List (Nat × JI) := [(0, .aload_n 0, 1, 0, 0, 0), (1, .iconst 0, 1, 0, 0, 0), (2, .putfield 9, 3, 7, 0, 1122), (5, .aload_n 0, 1, 0, 0, 0), (6, .iconst 0, 1, 0, 0, 0), (7, .putfield 15, 3, 7, 1, 1127), (10, .return_, 1, 0, 0, 0)]
/-- OverlapBench$Parser.next()V -/
def cd_16 : List (Nat × JI) := [(0, .aload_n 0, 1, 0, 0, 0), (1, .aload_n 0, 1, 0, 0, 0), (2, .getfield 58, 3, 3, 11, 1229), (5, .putfield 55, 3, 3, 10, 1228), (8, .aload_n 0, 1, 0, 0, 0), (9, .getfield 55, 3, 3, 10, 1228), (12, .aload_n 0, 1, 0, 0, 0), (13, .getfield 49, 3, 3, 8, 1226), (16, .if_icmp .ge 29, 3, 45, 0, 0), (19, .aload_n 0, 1, 0, 0, 0), (20, .aload_n 0, 1, 0, 0, 0), (21, .getfield 55, 3, 3, 10, 1228), (24, .invokevirtual 118, 3, 17, 1, 2230), (27, .bipush 32, 2, 0, 0, 0), (29, .if_icmp .ne 16, 3, 45, 0, 0), (32, .aload_n 0, 1, 0, 0, 0), (33, .dup, 1, 0, 0, 0), (34, .getfield 55, 3, 3, 10, 1228), (37, .iconst 1, 1, 0, 0, 0), (38, .iadd, 1, 0, 0, 0), (39, .putfield 55, 3, 3, 10, 1228), (42, .goto (-34), 3, 8, 0, 0), (45, .aload_n 0, 1, 0, 0, 0), (46, .aload_n 0, 1, 0, 0, 0), (47, .getfield 55, 3, 3, 10, 1228), (50, .putfield 58, 3, 3, 11, 1229), (53, .aload_n 0, 1, 0, 0, 0), (54, .getfield 58, 3, 3, 11, 1229), (57, .aload_n 0, 1, 0, 0, 0), (58, .getfield 49, 3, 3, 8, 1226), (61, .if_icmp .ge 42, 3, 103, 0, 0), (64, .aload_n 0, 1, 0, 0, 0), (65, .aload_n 0, 1, 0, 0, 0), (66, .getfield 58, 3, 3, 11, 1229), (69, .invokevirtual 118, 3, 17, 1, 2230), (72, .bipush 97, 2, 0, 0, 0), (74, .if_icmp .lt 29, 3, 103, 0, 0), (77, .aload_n 0, 1, 0, 0, 0), (78, .aload_n 0, 1, 0, 0, 0), (79, .getfield 58, 3, 3, 11, 1229), (82, .invokevirtual 118, 3, 17, 1, 2230), (85, .bipush 122, 2, 0, 0, 0), (87, .if_icmp .gt 16, 3, 103, 0, 0), (90, .aload_n 0, 1, 0, 0, 0), (91, .dup, 1, 0, 0, 0), (92, .getfield 58, 3, 3, 11, 1229), (95, .iconst 1, 1, 0, 0, 0), (96, .iadd, 1, 0, 0, 0), (97, .putfield 58, 3, 3, 11, 1229), (100, .goto (-47), 3, 53, 0, 0), (103, .aload_n 0, 1, 0, 0, 0), (104, .getfield 58, 3, 3, 11, 1229), (107, .aload_n 0, 1, 0, 0, 0), (108, .getfield 55, 3, 3, 10, 1228), (111, .if_icmp .le 30, 3, 141, 0, 0), (114, .aload_n 0, 1, 0, 0, 0), (115, .aload_n 0, 1, 0, 0, 0), (116, .getfield 58, 3, 3, 11, 1229), (119, .aload_n 0, 1, 0, 0, 0), (120, .getfield 55, 3, 3, 10, 1228), (123, .isub, 1, 0, 0, 0), (124, .bipush 6, 2, 0, 0, 0), (126, .if_icmp .le 7, 3, 133, 0, 0), (129, .iconst 1, 1, 0, 0, 0), (130, .goto 5, 3, 135, 0, 0), (133, .bipush 97, 2, 0, 0, 0), (135, .putfield 52, 3, 3, 9, 1227), (138, .goto 48, 3, 186, 0, 0), (141, .aload_n 0, 1, 0, 0, 0), (142, .getfield 55, 3, 3, 10, 1228), (145, .aload_n 0, 1, 0, 0, 0), (146, .getfield 49, 3, 3, 8, 1226), (149, .if_icmp .lt 11, 3, 160, 0, 0), (152, .aload_n 0, 1, 0, 0, 0), (153, .iconst 0, 1, 0, 0, 0), (154, .putfield 52, 3, 3, 9, 1227), (157, .goto 29, 3, 186, 0, 0), (160, .aload_n 0, 1, 0, 0, 0), (161, .aload_n 0, 1, 0, 0, 0), (162, .aload_n 0, 1, 0, 0, 0), (163, .aload_n 0, 1, 0, 0, 0), (164, .getfield 55, 3, 3, 10, 1228), (167, .invokevirtual 118, 3, 17, 1, 2230), (170, .invokevirtual 234, 3, 18, 1, 2234), (173, .putfield 52, 3, 3, 9, 1227), (176, .aload_n 0, 1, 0, 0, 0), (177, .aload_n 0, 1, 0, 0, 0), (178, .getfield 55, 3, 3, 10, 1228), (181, .iconst 1, 1, 0, 0, 0), (182, .iadd, 1, 0, 0, 0), (183, .putfield 58, 3, 3, 11, 1229), (186, .return_, 1, 0, 0, 0)]
/-- OverlapBench$Parser.byteAt(I)I -/
def cd_17 : List (Nat × JI) := [(0, .iload_n 1, 1, 0, 0, 0), (1, .ifCond .lt 29, 3, 30, 0, 0), (4, .iload_n 1, 1, 0, 0, 0), (5, .aload_n 0, 1, 0, 0, 0), (6, .getfield 49, 3, 3, 8, 1226), (9, .if_icmp .ge 21, 3, 30, 0, 0), (12, .iload_n 1, 1, 0, 0, 0), (13, .aload_n 0, 1, 0, 0, 0), (14, .getfield 35, 3, 3, 5, 1223), (17, .arraylength, 1, 0, 0, 0), (18, .if_icmp .ge 12, 3, 30, 0, 0), (21, .aload_n 0, 1, 0, 0, 0), (22, .getfield 35, 3, 3, 5, 1223), (25, .iload_n 1, 1, 0, 0, 0), (26, .iaload, 1, 0, 0, 0), (27, .goto 4, 3, 31, 0, 0), (30, .iconst (-1), 1, 0, 0, 0), (31, .ireturn, 1, 0, 0, 0)]
/-- OverlapBench$Parser.kindOfByte(I)I -/
def cd_18 : List (Nat × JI) := [(0, .iload_n 1, 1, 0, 0, 0), (1, .bipush 65, 2, 0, 0, 0), (3, .if_icmp .lt 12, 3, 15, 0, 0), (6, .iload_n 1, 1, 0, 0, 0), (7, .bipush 73, 2, 0, 0, 0), (9, .if_icmp .ge 6, 3, 15, 0, 0), (12, .bipush 65, 2, 0, 0, 0), (14, .ireturn, 1, 0, 0, 0), (15, .iload_n 1, 1, 0, 0, 0), (16, .bipush 48, 2, 0, 0, 0), (18, .if_icmp .lt 12, 3, 30, 0, 0), (21, .iload_n 1, 1, 0, 0, 0), (22, .bipush 57, 2, 0, 0, 0), (24, .if_icmp .gt 6, 3, 30, 0, 0), (27, .bipush 48, 2, 0, 0, 0), (29, .ireturn, 1, 0, 0, 0), (30, .iload_n 1, 1, 0, 0, 0), (31, .bipush 59, 2, 0, 0, 0), (33, .if_icmp .eq 27, 3, 60, 0, 0), (36, .iload_n 1, 1, 0, 0, 0), (37, .bipush 61, 2, 0, 0, 0), (39, .if_icmp .eq 21, 3, 60, 0, 0), (42, .iload_n 1, 1, 0, 0, 0), (43, .bipush 44, 2, 0, 0, 0), (45, .if_icmp .eq 15, 3, 60, 0, 0), (48, .iload_n 1, 1, 0, 0, 0), (49, .bipush 40, 2, 0, 0, 0), (51, .if_icmp .eq 9, 3, 60, 0, 0), (54, .iload_n 1, 1, 0, 0, 0), (55, .bipush 41, 2, 0, 0, 0), (57, .if_icmp .ne 7, 3, 64, 0, 0), (60, .iconst 1, 1, 0, 0, 0), (61, .goto 4, 3, 65, 0, 0), (64, .iconst 0, 1, 0, 0, 0), (65, .istore_n 2, 1, 0, 0, 0), (66, .iload_n 2, 1, 0, 0, 0), (67, .ifCond .eq 7, 3, 74, 0, 0), (70, .iload_n 1, 1, 0, 0, 0), (71, .goto 4, 3, 75, 0, 0), (74, .iconst 1, 1, 0, 0, 0), (75, .ireturn, 1, 0, 0, 0)]
/-- OverlapBench$Parser.isWord(Ljava/lang/String;)Z -/
def cd_19 : List (Nat × JI) := [(0, .aload_n 0, 1, 0, 0, 0), (1, .getfield 52, 3, 3, 9, 1227), (4, .bipush 97, 2, 0, 0, 0), (6, .if_icmp .ne 19, 3, 25, 0, 0), (9, .aload_n 0, 1, 0, 0, 0), (10, .getfield 58, 3, 3, 11, 1229), (13, .aload_n 0, 1, 0, 0, 0), (14, .getfield 55, 3, 3, 10, 1228), (17, .isub, 1, 0, 0, 0), (18, .aload_n 1, 1, 0, 0, 0), (19, .invokevirtual 226, 3, 20, 0, 3003), (22, .if_icmp .eq 5, 3, 27, 0, 0), (25, .iconst 0, 1, 0, 0, 0), (26, .ireturn, 1, 1, 0, 0), (27, .iconst 0, 1, 0, 0, 0), (28, .istore_n 2, 1, 0, 0, 0), (29, .iload_n 2, 1, 0, 0, 0), (30, .aload_n 1, 1, 0, 0, 0), (31, .invokevirtual 226, 3, 20, 0, 3003), (34, .if_icmp .ge 29, 3, 63, 0, 0), (37, .aload_n 0, 1, 0, 0, 0), (38, .aload_n 0, 1, 0, 0, 0), (39, .getfield 55, 3, 3, 10, 1228), (42, .iload_n 2, 1, 0, 0, 0), (43, .iadd, 1, 0, 0, 0), (44, .invokevirtual 118, 3, 17, 1, 2230), (47, .aload_n 1, 1, 0, 0, 0), (48, .iload_n 2, 1, 0, 0, 0), (49, .invokevirtual 230, 3, 22, 1, 3013), (52, .if_icmp .eq 5, 3, 57, 0, 0), (55, .iconst 0, 1, 0, 0, 0), (56, .ireturn, 1, 1, 0, 0), (57, .iinc 2 1, 3, 0, 0, 0), (60, .goto (-31), 3, 29, 0, 0), (63, .iconst 1, 1, 0, 0, 0), (64, .ireturn, 1, 1, 0, 0)]
/-- java/lang/String.length()I -/
def cd_20 : List (Nat × JI) := [(0, .aload_n 0, 1, 0, 0, 0), (1, .getfield 9, 3, 15, 0, 7063), (4, .arraylength, 1, 0, 0, 0), (5, .aload_n 0, 1, 0, 0, 0), (6, .invokevirtual 335, 3, 21, 0, 3007), (9, .ishr, 1, 0, 0, 0), (10, .ireturn, 1, 0, 0, 0)]
/-- java/lang/String.coder()B -/
def cd_21 : List (Nat × JI) := [(0, .getstatic 38, 3, 0, 0, 3011), (3, .ifCond .eq 10, 3, 13, 0, 0), (6, .aload_n 0, 1, 0, 0, 0), (7, .getfield 15, 3, 15, 1, 7064), (10, .goto 4, 3, 14, 0, 0), (13, .iconst 1, 1, 0, 0, 0), (14, .ireturn, 1, 2, 0, 0)]
/-- java/lang/String.charAt(I)C -/
def cd_22 : List (Nat × JI) := [(0, .aload_n 0, 1, 0, 0, 0), (1, .invokevirtual 492, 3, 23, 0, 3017), (4, .ifCond .eq 12, 3, 16, 0, 0), (7, .aload_n 0, 1, 0, 0, 0), (8, .getfield 9, 3, 15, 0, 7063), (11, .iload_n 1, 1, 0, 0, 0), (12, .invokestatic 495, 3, 24, 2, 3021), (15, .ireturn, 1, 3, 0, 0), (16, .aload_n 0, 1, 0, 0, 0), (17, .getfield 9, 3, 15, 0, 7063), (20, .iload_n 1, 1, 0, 0, 0), (21, .invokestatic 498, 3, 9998, 2, 3032), (24, .ireturn, 1, 3, 0, 0)]
/-- java/lang/String.isLatin1()Z -/
def cd_23 : List (Nat × JI) := [(0, .getstatic 38, 3, 0, 0, 3011), (3, .ifCond .eq 14, 3, 17, 0, 0), (6, .aload_n 0, 1, 0, 0, 0), (7, .getfield 15, 3, 15, 1, 7064), (10, .ifCond .ne 7, 3, 17, 0, 0), (13, .iconst 1, 1, 0, 0, 0), (14, .goto 4, 3, 18, 0, 0), (17, .iconst 0, 1, 0, 0, 0), (18, .ireturn, 1, 1, 0, 0)]
/-- java/lang/StringLatin1.charAt([BI)C -/
def cd_24 : List (Nat × JI) := [(0, .iload_n 1, 1, 0, 0, 0), (1, .aload_n 0, 1, 0, 0, 0), (2, .arraylength, 1, 0, 0, 0), (3, .invokestatic 9, 3, 25, 2, 3024), (6, .aload_n 0, 1, 0, 0, 0), (7, .iload_n 1, 1, 0, 0, 0), (8, .baload, 1, 0, 0, 0), (9, .sipush 255, 3, 0, 0, 0), (12, .iand, 1, 0, 0, 0), (13, .i2c, 1, 0, 0, 0), (14, .ireturn, 1, 3, 0, 0)]
/-- java/lang/String.checkIndex(II)V -/
def cd_25 : List (Nat × JI) := [(0, .nop, 1, 0, 0, 99999999)]
/-- jdk/internal/util/Preconditions.checkIndex(IILjava/util/function/BiFunction;)I -/
def cd_26 : List (Nat × JI) := [(0, .iload_n 0, 1, 0, 0, 0), (1, .ifCond .lt 8, 3, 9, 0, 0), (4, .iload_n 0, 1, 0, 0, 0), (5, .iload_n 1, 1, 0, 0, 0), (6, .if_icmp .lt 10, 3, 16, 0, 0), (9, .aload_n 2, 1, 0, 0, 0), (10, .iload_n 0, 1, 0, 0, 0), (11, .iload_n 1, 1, 0, 0, 0), (12, .invokestatic 95, 3, 9998, 3, 99999999), (15, .athrow, 1, 0, 0, 0), (16, .iload_n 0, 1, 0, 0, 0), (17, .ireturn, 1, 0, 0, 0)]
/-- OverlapBench$Parser.fail(I)Z -/
def cd_27 : List (Nat × JI) := [(0, .aload_n 0, 1, 0, 0, 0), (1, .iload_n 1, 1, 0, 0, 0), (2, .putfield 9, 3, 3, 0, 1215), (5, .aload_n 0, 1, 0, 0, 0), (6, .aload_n 0, 1, 0, 0, 0), (7, .getfield 55, 3, 3, 10, 1228), (10, .putfield 15, 3, 3, 1, 1216), (13, .iconst 0, 1, 0, 0, 0), (14, .ireturn, 1, 1, 0, 0)]
/-- OverlapBench$Parser.readSymbol()Z -/
def cd_28 : List (Nat × JI) := [(0, .aload_n 0, 1, 0, 0, 0), (1, .getfield 21, 3, 3, 2, 1217), (4, .getfield 61, 3, 6, 0, 1054), (7, .bipush 8, 2, 0, 0, 0), (9, .if_icmp .lt 9, 3, 18, 0, 0), (12, .aload_n 0, 1, 0, 0, 0), (13, .iconst 5, 1, 0, 0, 0), (14, .invokevirtual 76, 3, 27, 1, 3051), (17, .ireturn, 1, 1, 0, 0), (18, .aload_n 0, 1, 0, 0, 0), (19, .invokevirtual 67, 3, 16, 0, 2226), (22, .aload_n 0, 1, 0, 0, 0), (23, .getfield 52, 3, 3, 9, 1227), (26, .bipush 97, 2, 0, 0, 0), (28, .if_icmp .eq 9, 3, 37, 0, 0), (31, .aload_n 0, 1, 0, 0, 0), (32, .iconst 1, 1, 0, 0, 0), (33, .invokevirtual 76, 3, 27, 1, 3051), (36, .ireturn, 1, 1, 0, 0), (37, .aload_n 0, 1, 0, 0, 0), (38, .invokevirtual 111, 3, 29, 0, 3060), (41, .iconst (-1), 1, 0, 0, 0), (42, .if_icmp .eq 9, 3, 51, 0, 0), (45, .aload_n 0, 1, 0, 0, 0), (46, .iconst 3, 1, 0, 0, 0), (47, .invokevirtual 76, 3, 27, 1, 3051), (50, .ireturn, 1, 1, 0, 0), (51, .aload_n 0, 1, 0, 0, 0), (52, .getfield 21, 3, 3, 2, 1217), (55, .invokevirtual 115, 3, 33, 0, 3076), (58, .aload_n 0, 1, 0, 0, 0), (59, .getfield 55, 3, 3, 10, 1228), (62, .istore_n 1, 1, 0, 0, 0), (63, .iload_n 1, 1, 0, 0, 0), (64, .aload_n 0, 1, 0, 0, 0), (65, .getfield 58, 3, 3, 11, 1229), (68, .if_icmp .ge 21, 3, 89, 0, 0), (71, .aload_n 0, 1, 0, 0, 0), (72, .getfield 21, 3, 3, 2, 1217), (75, .aload_n 0, 1, 0, 0, 0), (76, .iload_n 1, 1, 0, 0, 0), (77, .invokevirtual 118, 3, 17, 1, 2230), (80, .invokevirtual 122, 3, 34, 1, 3080), (83, .iinc 1 1, 3, 0, 0, 0), (86, .goto (-23), 3, 63, 0, 0), (89, .aload_n 0, 1, 0, 0, 0), (90, .invokevirtual 67, 3, 16, 0, 2226), (93, .aload_n 0, 1, 0, 0, 0), (94, .iconst 4, 1, 0, 0, 0), (95, .invokevirtual 126, 3, 35, 1, 3085), (98, .ifCond .ne 5, 3, 103, 0, 0), (101, .iconst 0, 1, 0, 0, 0), (102, .ireturn, 1, 1, 0, 0), (103, .aload_n 0, 1, 0, 0, 0), (104, .getfield 21, 3, 3, 2, 1217), (107, .aload_n 0, 1, 0, 0, 0), (108, .invokevirtual 129, 3, 36, 0, 3089), (111, .invokevirtual 132, 3, 37, 1, 3093), (114, .aload_n 0, 1, 0, 0, 0), (115, .invokevirtual 67, 3, 16, 0, 2226), (118, .iconst 1, 1, 0, 0, 0), (119, .ireturn, 1, 1, 0, 0)]
/-- OverlapBench$Parser.symbolOfWord()I -/
def cd_29 : List (Nat × JI) := [(0, .iconst 0, 1, 0, 0, 0), (1, .istore_n 1, 1, 0, 0, 0), (2, .iload_n 1, 1, 0, 0, 0), (3, .aload_n 0, 1, 0, 0, 0), (4, .getfield 21, 3, 3, 2, 1217), (7, .getfield 61, 3, 6, 0, 1054), (10, .if_icmp .ge 19, 3, 29, 0, 0), (13, .aload_n 0, 1, 0, 0, 0), (14, .iload_n 1, 1, 0, 0, 0), (15, .invokevirtual 217, 3, 30, 1, 3064), (18, .ifCond .eq 5, 3, 23, 0, 0), (21, .iload_n 1, 1, 0, 0, 0), (22, .ireturn, 1, 0, 0, 0), (23, .iinc 1 1, 3, 0, 0, 0), (26, .goto (-24), 3, 2, 0, 0), (29, .iconst (-1), 1, 0, 0, 0), (30, .ireturn, 1, 0, 0, 0)]
/-- OverlapBench$Parser.isNamed(I)Z -/
def cd_30 : List (Nat × JI) := [(0, .aload_n 0, 1, 0, 0, 0), (1, .getfield 58, 3, 3, 11, 1229), (4, .aload_n 0, 1, 0, 0, 0), (5, .getfield 55, 3, 3, 10, 1228), (8, .isub, 1, 0, 0, 0), (9, .aload_n 0, 1, 0, 0, 0), (10, .getfield 21, 3, 3, 2, 1217), (13, .iload_n 1, 1, 0, 0, 0), (14, .invokevirtual 220, 3, 31, 1, 3068), (17, .if_icmp .eq 5, 3, 22, 0, 0), (20, .iconst 0, 1, 0, 0, 0), (21, .ireturn, 1, 1, 0, 0), (22, .aload_n 0, 1, 0, 0, 0), (23, .getfield 55, 3, 3, 10, 1228), (26, .istore_n 2, 1, 0, 0, 0), (27, .iload_n 2, 1, 0, 0, 0), (28, .aload_n 0, 1, 0, 0, 0), (29, .getfield 58, 3, 3, 11, 1229), (32, .if_icmp .ge 33, 3, 65, 0, 0), (35, .aload_n 0, 1, 0, 0, 0), (36, .iload_n 2, 1, 0, 0, 0), (37, .invokevirtual 118, 3, 17, 1, 2230), (40, .aload_n 0, 1, 0, 0, 0), (41, .getfield 21, 3, 3, 2, 1217), (44, .iload_n 1, 1, 0, 0, 0), (45, .iload_n 2, 1, 0, 0, 0), (46, .aload_n 0, 1, 0, 0, 0), (47, .getfield 55, 3, 3, 10, 1228), (50, .isub, 1, 0, 0, 0), (51, .invokevirtual 223, 3, 32, 2, 3072), (54, .if_icmp .eq 5, 3, 59, 0, 0), (57, .iconst 0, 1, 0, 0, 0), (58, .ireturn, 1, 1, 0, 0), (59, .iinc 2 1, 3, 0, 0, 0), (62, .goto (-35), 3, 27, 0, 0), (65, .iconst 1, 1, 0, 0, 0), (66, .ireturn, 1, 1, 0, 0)]
/-- OverlapBench$Signature.nameLength(I)I -/
def cd_31 : List (Nat × JI) := [(0, .iload_n 1, 1, 0, 0, 0), (1, .ifCond .lt 18, 3, 19, 0, 0), (4, .iload_n 1, 1, 0, 0, 0), (5, .bipush 8, 2, 0, 0, 0), (7, .if_icmp .ge 12, 3, 19, 0, 0), (10, .aload_n 0, 1, 0, 0, 0), (11, .getfield 19, 3, 6, 2, 1056), (14, .iload_n 1, 1, 0, 0, 0), (15, .iaload, 1, 0, 0, 0), (16, .goto 4, 3, 20, 0, 0), (19, .iconst 0, 1, 0, 0, 0), (20, .ireturn, 1, 0, 0, 0)]
/-- OverlapBench$Signature.letter(II)I -/
def cd_32 : List (Nat × JI) := [(0, .iload_n 1, 1, 0, 0, 0), (1, .ifCond .lt 23, 3, 24, 0, 0), (4, .iload_n 1, 1, 0, 0, 0), (5, .bipush 8, 2, 0, 0, 0), (7, .if_icmp .ge 17, 3, 24, 0, 0), (10, .iload_n 2, 1, 0, 0, 0), (11, .ifCond .lt 13, 3, 24, 0, 0), (14, .iload_n 2, 1, 0, 0, 0), (15, .bipush 6, 2, 0, 0, 0), (17, .if_icmp .ge 7, 3, 24, 0, 0), (20, .iconst 1, 1, 0, 0, 0), (21, .goto 4, 3, 25, 0, 0), (24, .iconst 0, 1, 0, 0, 0), (25, .istore_n 3, 1, 0, 0, 0), (26, .iload_n 3, 1, 0, 0, 0), (27, .ifCond .eq 27, 3, 54, 0, 0), (30, .iload_n 2, 1, 0, 0, 0), (31, .aload_n 0, 1, 0, 0, 0), (32, .getfield 19, 3, 6, 2, 1056), (35, .iload_n 1, 1, 0, 0, 0), (36, .iaload, 1, 0, 0, 0), (37, .if_icmp .ge 17, 3, 54, 0, 0), (40, .aload_n 0, 1, 0, 0, 0), (41, .getfield 22, 3, 6, 3, 1057), (44, .iload_n 1, 1, 0, 0, 0), (45, .bipush 6, 2, 0, 0, 0), (47, .imul, 1, 0, 0, 0), (48, .iload_n 2, 1, 0, 0, 0), (49, .iadd, 1, 0, 0, 0), (50, .iaload, 1, 0, 0, 0), (51, .goto 4, 3, 55, 0, 0), (54, .iconst (-1), 1, 0, 0, 0), (55, .ireturn, 1, 0, 0, 0)]
/-- OverlapBench$Signature.begin()V -/
def cd_33 : List (Nat × JI) := [(0, .aload_n 0, 1, 0, 0, 0), (1, .getfield 9, 3, 6, 0, 1053), (4, .ifCond .lt 22, 3, 26, 0, 0), (7, .aload_n 0, 1, 0, 0, 0), (8, .getfield 9, 3, 6, 0, 1053), (11, .bipush 8, 2, 0, 0, 0), (13, .if_icmp .ge 13, 3, 26, 0, 0), (16, .aload_n 0, 1, 0, 0, 0), (17, .getfield 19, 3, 6, 2, 1056), (20, .aload_n 0, 1, 0, 0, 0), (21, .getfield 9, 3, 6, 0, 1053), (24, .iconst 0, 1, 0, 0, 0), (25, .iastore, 1, 0, 0, 0), (26, .return_, 1, 0, 0, 0)]
/-- OverlapBench$Signature.addLetter(I)V -/
def cd_34 : List (Nat × JI) := [(0, .aload_n 0, 1, 0, 0, 0), (1, .aload_n 0, 1, 0, 0, 0), (2, .getfield 9, 3, 6, 0, 1053), (5, .invokevirtual 25, 3, 31, 1, 3084), (8, .istore_n 2, 1, 0, 0, 0), (9, .aload_n 0, 1, 0, 0, 0), (10, .getfield 9, 3, 6, 0, 1053), (13, .ifCond .lt 49, 3, 62, 0, 0), (16, .aload_n 0, 1, 0, 0, 0), (17, .getfield 9, 3, 6, 0, 1053), (20, .bipush 8, 2, 0, 0, 0), (22, .if_icmp .ge 40, 3, 62, 0, 0), (25, .iload_n 2, 1, 0, 0, 0), (26, .ifCond .lt 36, 3, 62, 0, 0), (29, .iload_n 2, 1, 0, 0, 0), (30, .bipush 6, 2, 0, 0, 0), (32, .if_icmp .ge 30, 3, 62, 0, 0), (35, .aload_n 0, 1, 0, 0, 0), (36, .getfield 22, 3, 6, 3, 1057), (39, .aload_n 0, 1, 0, 0, 0), (40, .getfield 9, 3, 6, 0, 1053), (43, .bipush 6, 2, 0, 0, 0), (45, .imul, 1, 0, 0, 0), (46, .iload_n 2, 1, 0, 0, 0), (47, .iadd, 1, 0, 0, 0), (48, .iload_n 1, 1, 0, 0, 0), (49, .iastore, 1, 0, 0, 0), (50, .aload_n 0, 1, 0, 0, 0), (51, .getfield 19, 3, 6, 2, 1056), (54, .aload_n 0, 1, 0, 0, 0), (55, .getfield 9, 3, 6, 0, 1053), (58, .iload_n 2, 1, 0, 0, 0), (59, .iconst 1, 1, 0, 0, 0), (60, .iadd, 1, 0, 0, 0), (61, .iastore, 1, 0, 0, 0), (62, .return_, 1, 0, 0, 0)]
/-- OverlapBench$Parser.readDigit(I)Z -/
def cd_35 : List (Nat × JI) := [(0, .aload_n 0, 1, 0, 0, 0), (1, .getfield 52, 3, 3, 9, 1227), (4, .bipush 48, 2, 0, 0, 0), (6, .if_icmp .eq 9, 3, 15, 0, 0), (9, .aload_n 0, 1, 0, 0, 0), (10, .iconst 1, 1, 0, 0, 0), (11, .invokevirtual 76, 3, 27, 1, 3051), (14, .ireturn, 1, 1, 0, 0), (15, .aload_n 0, 1, 0, 0, 0), (16, .invokevirtual 129, 3, 36, 0, 3089), (19, .iload_n 1, 1, 0, 0, 0), (20, .if_icmp .lt 11, 3, 31, 0, 0), (23, .aload_n 0, 1, 0, 0, 0), (24, .iconst 2, 1, 0, 0, 0), (25, .invokevirtual 76, 3, 27, 1, 3051), (28, .ifCond .eq 7, 3, 35, 0, 0), (31, .iconst 1, 1, 0, 0, 0), (32, .goto 4, 3, 36, 0, 0), (35, .iconst 0, 1, 0, 0, 0), (36, .ireturn, 1, 1, 0, 0)]
/-- OverlapBench$Parser.digit()I -/
def cd_36 : List (Nat × JI) := [(0, .aload_n 0, 1, 0, 0, 0), (1, .aload_n 0, 1, 0, 0, 0), (2, .getfield 55, 3, 3, 10, 1228), (5, .invokevirtual 118, 3, 17, 1, 2230), (8, .bipush 48, 2, 0, 0, 0), (10, .isub, 1, 0, 0, 0), (11, .ireturn, 1, 0, 0, 0)]
/-- OverlapBench$Signature.finish(I)V -/
def cd_37 : List (Nat × JI) := [(0, .aload_n 0, 1, 0, 0, 0), (1, .getfield 9, 3, 6, 0, 1053), (4, .ifCond .lt 32, 3, 36, 0, 0), (7, .aload_n 0, 1, 0, 0, 0), (8, .getfield 9, 3, 6, 0, 1053), (11, .bipush 8, 2, 0, 0, 0), (13, .if_icmp .ge 23, 3, 36, 0, 0), (16, .aload_n 0, 1, 0, 0, 0), (17, .getfield 15, 3, 6, 1, 1055), (20, .aload_n 0, 1, 0, 0, 0), (21, .getfield 9, 3, 6, 0, 1053), (24, .iload_n 1, 1, 0, 0, 0), (25, .iastore, 1, 0, 0, 0), (26, .aload_n 0, 1, 0, 0, 0), (27, .dup, 1, 0, 0, 0), (28, .getfield 9, 3, 6, 0, 1053), (31, .iconst 1, 1, 0, 0, 0), (32, .iadd, 1, 0, 0, 0), (33, .putfield 9, 3, 6, 0, 1053), (36, .return_, 1, 0, 0, 0)]
/-- OverlapBench$Parser.readRule()Z -/
def cd_38 : List (Nat × JI) := [(0, .aload_n 0, 1, 0, 0, 0), (1, .getfield 28, 3, 3, 3, 1219), (4, .getfield 135, 3, 7, 0, 1125), (7, .bipush 6, 2, 0, 0, 0), (9, .if_icmp .lt 9, 3, 18, 0, 0), (12, .aload_n 0, 1, 0, 0, 0), (13, .iconst 5, 1, 0, 0, 0), (14, .invokevirtual 76, 3, 27, 1, 3051), (17, .ireturn, 1, 1, 0, 0), (18, .aload_n 0, 1, 0, 0, 0), (19, .invokevirtual 67, 3, 16, 0, 2226), (22, .aload_n 0, 1, 0, 0, 0), (23, .getfield 28, 3, 3, 3, 1219), (26, .aload_n 0, 1, 0, 0, 0), (27, .getfield 28, 3, 3, 3, 1219), (30, .getfield 135, 3, 7, 0, 1125), (33, .invokevirtual 138, 3, 39, 1, 3102), (36, .astore_n 1, 1, 0, 0, 0), (37, .aload_n 0, 1, 0, 0, 0), (38, .aload_n 1, 1, 0, 0, 0), (39, .getfield 141, 3, 5, 0, 1108), (42, .bipush 12, 2, 0, 0, 0), (44, .iconst 1, 1, 0, 0, 0), (45, .invokevirtual 147, 3, 40, 3, 3106), (48, .ifCond .ne 5, 3, 53, 0, 0), (51, .iconst 0, 1, 0, 0, 0), (52, .ireturn, 1, 1, 0, 0), (53, .aload_n 0, 1, 0, 0, 0), (54, .getfield 52, 3, 3, 9, 1227), (57, .bipush 61, 2, 0, 0, 0), (59, .if_icmp .eq 9, 3, 68, 0, 0), (62, .aload_n 0, 1, 0, 0, 0), (63, .iconst 1, 1, 0, 0, 0), (64, .invokevirtual 76, 3, 27, 1, 3051), (67, .ireturn, 1, 1, 0, 0), (68, .aload_n 0, 1, 0, 0, 0), (69, .invokevirtual 67, 3, 16, 0, 2226), (72, .aload_n 0, 1, 0, 0, 0), (73, .aload_n 1, 1, 0, 0, 0), (74, .getfield 151, 3, 5, 1, 1113), (77, .bipush 12, 2, 0, 0, 0), (79, .iconst 2, 1, 0, 0, 0), (80, .invokevirtual 147, 3, 40, 3, 3106), (83, .ifCond .ne 5, 3, 88, 0, 0), (86, .iconst 0, 1, 0, 0, 0), (87, .ireturn, 1, 1, 0, 0), (88, .aload_n 0, 1, 0, 0, 0), (89, .getfield 28, 3, 3, 3, 1219), (92, .dup, 1, 0, 0, 0), (93, .getfield 135, 3, 7, 0, 1125), (96, .iconst 1, 1, 0, 0, 0), (97, .iadd, 1, 0, 0, 0), (98, .putfield 135, 3, 7, 0, 1125), (101, .iconst 1, 1, 0, 0, 0), (102, .ireturn, 1, 1, 0, 0)]
/-- OverlapBench$State.rule(I)LOverlapBench$Rule; -/
def cd_39 : List (Nat × JI) := [(0, .iload_n 1, 1, 0, 0, 0), (1, .ifCond .lt 12, 3, 13, 0, 0), (4, .iload_n 1, 1, 0, 0, 0), (5, .aload_n 0, 1, 0, 0, 0), (6, .getfield 20, 3, 7, 2, 1130), (9, .arraylength, 1, 0, 0, 0), (10, .if_icmp .lt 8, 3, 18, 0, 0), (13, .aload_n 0, 1, 0, 0, 0), (14, .getfield 31, 3, 7, 4, 1132), (17, .areturn, 1, 0, 0, 0), (18, .aload_n 0, 1, 0, 0, 0), (19, .getfield 20, 3, 7, 2, 1130), (22, .iload_n 1, 1, 0, 0, 0), (23, .aaload, 1, 0, 0, 0), (24, .astore_n 2, 1, 0, 0, 0), (25, .aload_n 2, 1, 0, 0, 0), (26, .ifnonnull 10, 3, 36, 0, 0), (29, .aload_n 0, 1, 0, 0, 0), (30, .getfield 31, 3, 7, 4, 1132), (33, .goto 4, 3, 37, 0, 0), (36, .aload_n 2, 1, 0, 0, 0), (37, .areturn, 1, 0, 0, 0)]
/-- OverlapBench$Parser.readTerm(LOverlapBench$Term;II)Z -/
def cd_40 : List (Nat × JI) := [(0, .aload_n 1, 1, 0, 0, 0), (1, .invokevirtual 185, 3, 41, 0, 3110), (4, .iconst 0, 1, 0, 0, 0), (5, .istore 4, 2, 0, 0, 0), (7, .iconst 0, 1, 0, 0, 0), (8, .istore 5, 2, 0, 0, 0), (10, .iload 5, 2, 0, 0, 0), (12, .iload_n 2, 1, 0, 0, 0), (13, .if_icmp .gt 126, 3, 139, 0, 0), (16, .aload_n 0, 1, 0, 0, 0), (17, .aload_n 1, 1, 0, 0, 0), (18, .iload_n 2, 1, 0, 0, 0), (19, .iload_n 3, 1, 0, 0, 0), (20, .invokevirtual 186, 3, 42, 3, 3114), (23, .istore 6, 2, 0, 0, 0), (25, .iload 6, 2, 0, 0, 0), (27, .ifCond .eq 10, 3, 37, 0, 0), (30, .aload_n 0, 1, 0, 0, 0), (31, .iload 6, 2, 0, 0, 0), (33, .invokevirtual 76, 3, 27, 1, 3051), (36, .ireturn, 1, 1, 0, 0), (37, .aload_n 0, 1, 0, 0, 0), (38, .invokevirtual 190, 3, 47, 0, 3134), (41, .istore 7, 2, 0, 0, 0), (43, .aload_n 1, 1, 0, 0, 0), (44, .iload 7, 2, 0, 0, 0), (46, .invokevirtual 193, 3, 50, 1, 3145), (49, .pop, 1, 0, 0, 0), (50, .aload_n 0, 1, 0, 0, 0), (51, .invokevirtual 67, 3, 16, 0, 2226), (54, .iload 7, 2, 0, 0, 0), (56, .invokestatic 196, 3, 51, 1, 3149), (59, .ifCond .le 50, 3, 109, 0, 0), (62, .aload_n 0, 1, 0, 0, 0), (63, .getfield 52, 3, 3, 9, 1227), (66, .bipush 40, 2, 0, 0, 0), (68, .if_icmp .ne 13, 3, 81, 0, 0), (71, .iload 4, 2, 0, 0, 0), (73, .aload_n 0, 1, 0, 0, 0), (74, .getfield 46, 3, 3, 7, 1225), (77, .arraylength, 1, 0, 0, 0), (78, .if_icmp .lt 9, 3, 87, 0, 0), (81, .aload_n 0, 1, 0, 0, 0), (82, .iconst 1, 1, 0, 0, 0), (83, .invokevirtual 76, 3, 27, 1, 3051), (86, .ireturn, 1, 1, 0, 0), (87, .aload_n 0, 1, 0, 0, 0), (88, .invokevirtual 67, 3, 16, 0, 2226), (91, .aload_n 0, 1, 0, 0, 0), (92, .getfield 46, 3, 3, 7, 1225), (95, .iload 4, 2, 0, 0, 0), (97, .iload 7, 2, 0, 0, 0), (99, .invokestatic 196, 3, 51, 1, 3149), (102, .iastore, 1, 0, 0, 0), (103, .iinc 4 1, 3, 0, 0, 0), (106, .goto 27, 3, 133, 0, 0), (109, .aload_n 0, 1, 0, 0, 0), (110, .iload 4, 2, 0, 0, 0), (112, .invokevirtual 199, 3, 52, 1, 3152), (115, .istore 4, 2, 0, 0, 0), (117, .iload 4, 2, 0, 0, 0), (119, .ifCond .gt 14, 3, 133, 0, 0), (122, .iload 4, 2, 0, 0, 0), (124, .ifCond .ne 7, 3, 131, 0, 0), (127, .iconst 1, 1, 0, 0, 0), (128, .goto 4, 3, 132, 0, 0), (131, .iconst 0, 1, 0, 0, 0), (132, .ireturn, 1, 1, 0, 0), (133, .iinc 5 1, 3, 0, 0, 0), (136, .goto (-126), 3, 10, 0, 0), (139, .aload_n 0, 1, 0, 0, 0), (140, .iconst 5, 1, 0, 0, 0), (141, .invokevirtual 76, 3, 27, 1, 3051), (144, .ireturn, 1, 1, 0, 0)]
/-- OverlapBench$Term.clear()V -/
def cd_41 : List (Nat × JI) := [(0, .aload_n 0, 1, 0, 0, 0), (1, .iconst 0, 1, 0, 0, 0), (2, .putfield 9, 3, 8, 1, 1093), (5, .return_, 1, 0, 0, 0)]
/-- OverlapBench$Parser.faultOfNode(LOverlapBench$Term;II)I -/
def cd_42 : List (Nat × JI) := [(0, .aload_n 0, 1, 0, 0, 0), (1, .getfield 52, 3, 3, 9, 1227), (4, .bipush 97, 2, 0, 0, 0), (6, .if_icmp .eq 14, 3, 20, 0, 0), (9, .aload_n 0, 1, 0, 0, 0), (10, .getfield 52, 3, 3, 9, 1227), (13, .bipush 65, 2, 0, 0, 0), (15, .if_icmp .eq 5, 3, 20, 0, 0), (18, .iconst 1, 1, 0, 0, 0), (19, .ireturn, 1, 0, 0, 0), (20, .aload_n 0, 1, 0, 0, 0), (21, .getfield 52, 3, 3, 9, 1227), (24, .bipush 97, 2, 0, 0, 0), (26, .if_icmp .ne 13, 3, 39, 0, 0), (29, .aload_n 0, 1, 0, 0, 0), (30, .invokevirtual 111, 3, 29, 0, 3060), (33, .iconst (-1), 1, 0, 0, 0), (34, .if_icmp .ne 5, 3, 39, 0, 0), (37, .iconst 3, 1, 0, 0, 0), (38, .ireturn, 1, 0, 0, 0), (39, .aload_n 0, 1, 0, 0, 0), (40, .getfield 52, 3, 3, 9, 1227), (43, .bipush 65, 2, 0, 0, 0), (45, .if_icmp .ne 17, 3, 62, 0, 0), (48, .iload_n 3, 1, 0, 0, 0), (49, .iconst 1, 1, 0, 0, 0), (50, .if_icmp .ne 12, 3, 62, 0, 0), (53, .aload_n 1, 1, 0, 0, 0), (54, .getfield 160, 3, 8, 1, 1098), (57, .ifCond .ne 5, 3, 62, 0, 0), (60, .iconst 4, 1, 0, 0, 0), (61, .ireturn, 1, 0, 0, 0), (62, .aload_n 0, 1, 0, 0, 0), (63, .getfield 52, 3, 3, 9, 1227), (66, .bipush 65, 2, 0, 0, 0), (68, .if_icmp .ne 37, 3, 105, 0, 0), (71, .iload_n 3, 1, 0, 0, 0), (72, .iconst 2, 1, 0, 0, 0), (73, .if_icmp .ne 32, 3, 105, 0, 0), (76, .aload_n 0, 1, 0, 0, 0), (77, .getfield 28, 3, 3, 3, 1219), (80, .aload_n 0, 1, 0, 0, 0), (81, .getfield 28, 3, 3, 3, 1219), (84, .getfield 135, 3, 7, 0, 1125), (87, .invokevirtual 138, 3, 39, 1, 3102), (90, .getfield 141, 3, 5, 0, 1108), (93, .aload_n 0, 1, 0, 0, 0), (94, .invokevirtual 202, 3, 43, 0, 3118), (97, .invokevirtual 205, 3, 45, 1, 3125), (100, .ifCond .ne 5, 3, 105, 0, 0), (103, .iconst 4, 1, 0, 0, 0), (104, .ireturn, 1, 0, 0, 0), (105, .aload_n 1, 1, 0, 0, 0), (106, .getfield 160, 3, 8, 1, 1098), (109, .iload_n 2, 1, 0, 0, 0), (110, .if_icmp .lt 7, 3, 117, 0, 0), (113, .iconst 5, 1, 0, 0, 0), (114, .goto 4, 3, 118, 0, 0), (117, .iconst 0, 1, 0, 0, 0), (118, .ireturn, 1, 0, 0, 0)]
/-- OverlapBench$Parser.variableOfToken()I -/
def cd_43 : List (Nat × JI) := [(0, .aload_n 0, 1, 0, 0, 0), (1, .aload_n 0, 1, 0, 0, 0), (2, .getfield 55, 3, 3, 10, 1228), (5, .invokevirtual 118, 3, 17, 1, 2230), (8, .bipush 65, 2, 0, 0, 0), (10, .isub, 1, 0, 0, 0), (11, .invokestatic 207, 3, 44, 1, 3122), (14, .ireturn, 1, 0, 0, 0)]
/-- OverlapBench$Term.variableNode(I)I -/
def cd_44 : List (Nat × JI) := [(0, .iconst (-1), 1, 0, 0, 0), (1, .iload_n 0, 1, 0, 0, 0), (2, .isub, 1, 0, 0, 0), (3, .ireturn, 1, 0, 0, 0)]
/-- OverlapBench$Term.count(I)I -/
def cd_45 : List (Nat × JI) := [(0, .iconst 0, 1, 0, 0, 0), (1, .istore_n 2, 1, 0, 0, 0), (2, .iconst 0, 1, 0, 0, 0), (3, .istore_n 3, 1, 0, 0, 0), (4, .iload_n 3, 1, 0, 0, 0), (5, .aload_n 0, 1, 0, 0, 0), (6, .getfield 9, 3, 8, 1, 1093), (9, .if_icmp .ge 21, 3, 30, 0, 0), (12, .aload_n 0, 1, 0, 0, 0), (13, .iload_n 3, 1, 0, 0, 0), (14, .invokevirtual 26, 3, 46, 1, 3129), (17, .iload_n 1, 1, 0, 0, 0), (18, .if_icmp .ne 6, 3, 24, 0, 0), (21, .iinc 2 1, 3, 0, 0, 0), (24, .iinc 3 1, 3, 0, 0, 0), (27, .goto (-23), 3, 4, 0, 0), (30, .iload_n 2, 1, 0, 0, 0), (31, .ireturn, 1, 0, 0, 0)]
/-- OverlapBench$Term.get(I)I -/
def cd_46 : List (Nat × JI) := [(0, .iload_n 1, 1, 0, 0, 0), (1, .ifCond .lt 29, 3, 30, 0, 0), (4, .iload_n 1, 1, 0, 0, 0), (5, .aload_n 0, 1, 0, 0, 0), (6, .getfield 9, 3, 8, 1, 1093), (9, .if_icmp .ge 21, 3, 30, 0, 0), (12, .iload_n 1, 1, 0, 0, 0), (13, .aload_n 0, 1, 0, 0, 0), (14, .getfield 21, 3, 8, 0, 1092), (17, .arraylength, 1, 0, 0, 0), (18, .if_icmp .ge 12, 3, 30, 0, 0), (21, .aload_n 0, 1, 0, 0, 0), (22, .getfield 21, 3, 8, 0, 1092), (25, .iload_n 1, 1, 0, 0, 0), (26, .iaload, 1, 0, 0, 0), (27, .goto 5, 3, 32, 0, 0), (30, .ldc 25, 2, 0, 0, 3133), (32, .ireturn, 1, 0, 0, 0)]
/-- OverlapBench$Parser.nodeOfToken()I -/
def cd_47 : List (Nat × JI) := [(0, .aload_n 0, 1, 0, 0, 0), (1, .getfield 52, 3, 3, 9, 1227), (4, .bipush 65, 2, 0, 0, 0), (6, .if_icmp .ne 8, 3, 14, 0, 0), (9, .aload_n 0, 1, 0, 0, 0), (10, .invokevirtual 202, 3, 43, 0, 3118), (13, .ireturn, 1, 0, 0, 0), (14, .aload_n 0, 1, 0, 0, 0), (15, .invokevirtual 111, 3, 29, 0, 3060), (18, .istore_n 1, 1, 0, 0, 0), (19, .iload_n 1, 1, 0, 0, 0), (20, .aload_n 0, 1, 0, 0, 0), (21, .getfield 21, 3, 3, 2, 1217), (24, .iload_n 1, 1, 0, 0, 0), (25, .invokevirtual 210, 3, 48, 1, 3138), (28, .invokestatic 213, 3, 49, 2, 3142), (31, .ireturn, 1, 0, 0, 0)]
/-- OverlapBench$Signature.arity(I)I -/
def cd_48 : List (Nat × JI) := [(0, .iload_n 1, 1, 0, 0, 0), (1, .ifCond .lt 18, 3, 19, 0, 0), (4, .iload_n 1, 1, 0, 0, 0), (5, .bipush 8, 2, 0, 0, 0), (7, .if_icmp .ge 12, 3, 19, 0, 0), (10, .aload_n 0, 1, 0, 0, 0), (11, .getfield 15, 3, 6, 1, 1055), (14, .iload_n 1, 1, 0, 0, 0), (15, .iaload, 1, 0, 0, 0), (16, .goto 4, 3, 20, 0, 0), (19, .iconst 0, 1, 0, 0, 0), (20, .ireturn, 1, 0, 0, 0)]
/-- OverlapBench$Term.symbolNode(II)I -/
def cd_49 : List (Nat × JI) := [(0, .iconst 4, 1, 0, 0, 0), (1, .iload_n 0, 1, 0, 0, 0), (2, .imul, 1, 0, 0, 0), (3, .iload_n 1, 1, 0, 0, 0), (4, .iadd, 1, 0, 0, 0), (5, .ireturn, 1, 0, 0, 0)]
/-- OverlapBench$Term.add(I)Z -/
def cd_50 : List (Nat × JI) := [(0, .aload_n 0, 1, 0, 0, 0), (1, .getfield 9, 3, 8, 1, 1093), (4, .ifCond .lt 15, 3, 19, 0, 0), (7, .aload_n 0, 1, 0, 0, 0), (8, .getfield 9, 3, 8, 1, 1093), (11, .aload_n 0, 1, 0, 0, 0), (12, .getfield 21, 3, 8, 0, 1092), (15, .arraylength, 1, 0, 0, 0), (16, .if_icmp .lt 5, 3, 21, 0, 0), (19, .iconst 0, 1, 0, 0, 0), (20, .ireturn, 1, 1, 0, 0), (21, .aload_n 0, 1, 0, 0, 0), (22, .getfield 21, 3, 8, 0, 1092), (25, .aload_n 0, 1, 0, 0, 0), (26, .getfield 9, 3, 8, 1, 1093), (29, .iload_n 1, 1, 0, 0, 0), (30, .iastore, 1, 0, 0, 0), (31, .aload_n 0, 1, 0, 0, 0), (32, .dup, 1, 0, 0, 0), (33, .getfield 9, 3, 8, 1, 1093), (36, .iconst 1, 1, 0, 0, 0), (37, .iadd, 1, 0, 0, 0), (38, .putfield 9, 3, 8, 1, 1093), (41, .iconst 1, 1, 0, 0, 0), (42, .ireturn, 1, 1, 0, 0)]
/-- OverlapBench$Term.arityOf(I)I -/
def cd_51 : List (Nat × JI) := [(0, .iload_n 0, 1, 0, 0, 0), (1, .ifCond .ge 7, 3, 8, 0, 0), (4, .iconst 0, 1, 0, 0, 0), (5, .goto 6, 3, 11, 0, 0), (8, .iload_n 0, 1, 0, 0, 0), (9, .iconst 3, 1, 0, 0, 0), (10, .iand, 1, 0, 0, 0), (11, .ireturn, 1, 0, 0, 0)]
/-- OverlapBench$Parser.closeBrackets(I)I -/
def cd_52 : List (Nat × JI) := [(0, .iload_n 1, 1, 0, 0, 0), (1, .iconst 1, 1, 0, 0, 0), (2, .isub, 1, 0, 0, 0), (3, .istore_n 2, 1, 0, 0, 0), (4, .iload_n 2, 1, 0, 0, 0), (5, .ifCond .lt 81, 3, 86, 0, 0), (8, .iload_n 2, 1, 0, 0, 0), (9, .aload_n 0, 1, 0, 0, 0), (10, .getfield 46, 3, 3, 7, 1225), (13, .arraylength, 1, 0, 0, 0), (14, .if_icmp .ge 72, 3, 86, 0, 0), (17, .aload_n 0, 1, 0, 0, 0), (18, .getfield 46, 3, 3, 7, 1225), (21, .iload_n 2, 1, 0, 0, 0), (22, .dup2, 1, 0, 0, 0), (23, .iaload, 1, 0, 0, 0), (24, .iconst 1, 1, 0, 0, 0), (25, .isub, 1, 0, 0, 0), (26, .iastore, 1, 0, 0, 0), (27, .aload_n 0, 1, 0, 0, 0), (28, .getfield 46, 3, 3, 7, 1225), (31, .iload_n 2, 1, 0, 0, 0), (32, .iaload, 1, 0, 0, 0), (33, .ifCond .le 7, 3, 40, 0, 0), (36, .iconst 1, 1, 0, 0, 0), (37, .goto 4, 3, 41, 0, 0), (40, .iconst 0, 1, 0, 0, 0), (41, .istore_n 3, 1, 0, 0, 0), (42, .aload_n 0, 1, 0, 0, 0), (43, .getfield 52, 3, 3, 9, 1227), (46, .iload_n 3, 1, 0, 0, 0), (47, .ifCond .eq 8, 3, 55, 0, 0), (50, .bipush 44, 2, 0, 0, 0), (52, .goto 5, 3, 57, 0, 0), (55, .bipush 41, 2, 0, 0, 0), (57, .if_icmp .eq 11, 3, 68, 0, 0), (60, .aload_n 0, 1, 0, 0, 0), (61, .iconst 1, 1, 0, 0, 0), (62, .invokevirtual 76, 3, 27, 1, 3051), (65, .pop, 1, 0, 0, 0), (66, .iconst (-1), 1, 0, 0, 0), (67, .ireturn, 1, 0, 0, 0), (68, .aload_n 0, 1, 0, 0, 0), (69, .invokevirtual 67, 3, 16, 0, 2226), (72, .iload_n 3, 1, 0, 0, 0), (73, .ifCond .eq 7, 3, 80, 0, 0), (76, .iload_n 2, 1, 0, 0, 0), (77, .iconst 1, 1, 0, 0, 0), (78, .iadd, 1, 0, 0, 0), (79, .ireturn, 1, 0, 0, 0), (80, .iinc 2 (-1), 3, 0, 0, 0), (83, .goto (-79), 3, 4, 0, 0), (86, .iconst 0, 1, 0, 0, 0), (87, .ireturn, 1, 0, 0, 0)]
/-- OverlapBench$Parser.readPlainTerm()Z -/
def cd_53 : List (Nat × JI) := [(0, .aload_n 0, 1, 0, 0, 0), (1, .getfield 28, 3, 3, 3, 1219), (4, .getfield 154, 3, 7, 1, 1128), (7, .bipush 6, 2, 0, 0, 0), (9, .if_icmp .lt 9, 3, 18, 0, 0), (12, .aload_n 0, 1, 0, 0, 0), (13, .iconst 5, 1, 0, 0, 0), (14, .invokevirtual 76, 3, 27, 1, 3051), (17, .ireturn, 1, 1, 0, 0), (18, .aload_n 0, 1, 0, 0, 0), (19, .invokevirtual 67, 3, 16, 0, 2226), (22, .aload_n 0, 1, 0, 0, 0), (23, .aload_n 0, 1, 0, 0, 0), (24, .getfield 28, 3, 3, 3, 1219), (27, .aload_n 0, 1, 0, 0, 0), (28, .getfield 28, 3, 3, 3, 1219), (31, .getfield 154, 3, 7, 1, 1128), (34, .invokevirtual 157, 3, 54, 1, 3161), (37, .bipush 40, 2, 0, 0, 0), (39, .iconst 0, 1, 0, 0, 0), (40, .invokevirtual 147, 3, 40, 3, 3106), (43, .ifCond .ne 5, 3, 48, 0, 0), (46, .iconst 0, 1, 0, 0, 0), (47, .ireturn, 1, 1, 0, 0), (48, .aload_n 0, 1, 0, 0, 0), (49, .getfield 28, 3, 3, 3, 1219), (52, .dup, 1, 0, 0, 0), (53, .getfield 154, 3, 7, 1, 1128), (56, .iconst 1, 1, 0, 0, 0), (57, .iadd, 1, 0, 0, 0), (58, .putfield 154, 3, 7, 1, 1128), (61, .iconst 1, 1, 0, 0, 0), (62, .ireturn, 1, 1, 0, 0)]
/-- OverlapBench$State.term(I)LOverlapBench$Term; -/
def cd_54 : List (Nat × JI) := [(0, .iload_n 1, 1, 0, 0, 0), (1, .ifCond .lt 12, 3, 13, 0, 0), (4, .iload_n 1, 1, 0, 0, 0), (5, .aload_n 0, 1, 0, 0, 0), (6, .getfield 26, 3, 7, 3, 1131), (9, .arraylength, 1, 0, 0, 0), (10, .if_icmp .lt 8, 3, 18, 0, 0), (13, .aload_n 0, 1, 0, 0, 0), (14, .getfield 38, 3, 7, 5, 1133), (17, .areturn, 1, 0, 0, 0), (18, .aload_n 0, 1, 0, 0, 0), (19, .getfield 26, 3, 7, 3, 1131), (22, .iload_n 1, 1, 0, 0, 0), (23, .aaload, 1, 0, 0, 0), (24, .astore_n 2, 1, 0, 0, 0), (25, .aload_n 2, 1, 0, 0, 0), (26, .ifnonnull 10, 3, 36, 0, 0), (29, .aload_n 0, 1, 0, 0, 0), (30, .getfield 38, 3, 7, 5, 1133), (33, .goto 4, 3, 37, 0, 0), (36, .aload_n 2, 1, 0, 0, 0), (37, .areturn, 1, 0, 0, 0)]
/-- OverlapBench$Parser.readCopy()Z -/
def cd_55 : List (Nat × JI) := [(0, .aload_n 0, 1, 0, 0, 0), (1, .getfield 28, 3, 3, 3, 1219), (4, .getfield 154, 3, 7, 1, 1128), (7, .bipush 6, 2, 0, 0, 0), (9, .if_icmp .lt 9, 3, 18, 0, 0), (12, .aload_n 0, 1, 0, 0, 0), (13, .iconst 5, 1, 0, 0, 0), (14, .invokevirtual 76, 3, 27, 1, 3051), (17, .ireturn, 1, 1, 0, 0), (18, .aload_n 0, 1, 0, 0, 0), (19, .invokevirtual 67, 3, 16, 0, 2226), (22, .aload_n 0, 1, 0, 0, 0), (23, .aload_n 0, 1, 0, 0, 0), (24, .getfield 28, 3, 3, 3, 1219), (27, .getfield 154, 3, 7, 1, 1128), (30, .invokevirtual 126, 3, 35, 1, 3085), (33, .ifCond .ne 5, 3, 38, 0, 0), (36, .iconst 0, 1, 0, 0, 0), (37, .ireturn, 1, 1, 0, 0), (38, .aload_n 0, 1, 0, 0, 0), (39, .getfield 28, 3, 3, 3, 1219), (42, .aload_n 0, 1, 0, 0, 0), (43, .invokevirtual 129, 3, 36, 0, 3089), (46, .invokevirtual 157, 3, 54, 1, 3161), (49, .astore_n 1, 1, 0, 0, 0), (50, .aload_n 0, 1, 0, 0, 0), (51, .getfield 28, 3, 3, 3, 1219), (54, .aload_n 1, 1, 0, 0, 0), (55, .iconst 0, 1, 0, 0, 0), (56, .aload_n 1, 1, 0, 0, 0), (57, .getfield 160, 3, 8, 1, 1098), (60, .invokevirtual 165, 3, 56, 3, 3170), (63, .aload_n 0, 1, 0, 0, 0), (64, .invokevirtual 67, 3, 16, 0, 2226), (67, .iconst 1, 1, 0, 0, 0), (68, .ireturn, 1, 1, 0, 0)]
/-- OverlapBench$State.addTerm(LOverlapBench$Term;II)V -/
def cd_56 : List (Nat × JI) := [(0, .aload_n 0, 1, 0, 0, 0), (1, .getfield 15, 3, 7, 1, 1127), (4, .bipush 6, 2, 0, 0, 0), (6, .if_icmp .ge 37, 3, 43, 0, 0), (9, .aload_n 0, 1, 0, 0, 0), (10, .aload_n 0, 1, 0, 0, 0), (11, .getfield 15, 3, 7, 1, 1127), (14, .invokevirtual 50, 3, 54, 1, 3174), (17, .astore 4, 2, 0, 0, 0), (19, .aload 4, 2, 0, 0, 0), (21, .invokevirtual 57, 3, 41, 0, 3175), (24, .aload 4, 2, 0, 0, 0), (26, .aload_n 1, 1, 0, 0, 0), (27, .iload_n 2, 1, 0, 0, 0), (28, .iload_n 3, 1, 0, 0, 0), (29, .invokevirtual 60, 3, 57, 3, 3176), (32, .pop, 1, 0, 0, 0), (33, .aload_n 0, 1, 0, 0, 0), (34, .dup, 1, 0, 0, 0), (35, .getfield 15, 3, 7, 1, 1127), (38, .iconst 1, 1, 0, 0, 0), (39, .iadd, 1, 0, 0, 0), (40, .putfield 15, 3, 7, 1, 1127), (43, .return_, 1, 0, 0, 0)]
/-- OverlapBench$Term.addPart(LOverlapBench$Term;II)Z -/
def cd_57 : List (Nat × JI) := [(0, .iload_n 2, 1, 0, 0, 0), (1, .istore 4, 2, 0, 0, 0), (3, .iload 4, 2, 0, 0, 0), (5, .iload_n 3, 1, 0, 0, 0), (6, .if_icmp .ge 24, 3, 30, 0, 0), (9, .aload_n 0, 1, 0, 0, 0), (10, .aload_n 1, 1, 0, 0, 0), (11, .iload 4, 2, 0, 0, 0), (13, .invokevirtual 26, 3, 46, 1, 3129), (16, .invokevirtual 30, 3, 50, 1, 3180), (19, .ifCond .ne 5, 3, 24, 0, 0), (22, .iconst 0, 1, 0, 0, 0), (23, .ireturn, 1, 1, 0, 0), (24, .iinc 4 1, 3, 0, 0, 0), (27, .goto (-24), 3, 3, 0, 0), (30, .iconst 1, 1, 0, 0, 0), (31, .ireturn, 1, 1, 0, 0)]
/-- OverlapBench$Parser.readFlip()Z -/
def cd_58 : List (Nat × JI) := [(0, .aload_n 0, 1, 0, 0, 0), (1, .invokevirtual 67, 3, 16, 0, 2226), (4, .aload_n 0, 1, 0, 0, 0), (5, .aload_n 0, 1, 0, 0, 0), (6, .getfield 28, 3, 3, 3, 1219), (9, .getfield 135, 3, 7, 0, 1125), (12, .invokevirtual 126, 3, 35, 1, 3085), (15, .ifCond .ne 5, 3, 20, 0, 0), (18, .iconst 0, 1, 0, 0, 0), (19, .ireturn, 1, 1, 0, 0), (20, .aload_n 0, 1, 0, 0, 0), (21, .getfield 28, 3, 3, 3, 1219), (24, .aload_n 0, 1, 0, 0, 0), (25, .invokevirtual 129, 3, 36, 0, 3089), (28, .invokevirtual 138, 3, 39, 1, 3102), (31, .astore_n 1, 1, 0, 0, 0), (32, .aload_n 1, 1, 0, 0, 0), (33, .invokevirtual 169, 3, 59, 0, 3186), (36, .ifCond .ne 9, 3, 45, 0, 0), (39, .aload_n 0, 1, 0, 0, 0), (40, .iconst 4, 1, 0, 0, 0), (41, .invokevirtual 76, 3, 27, 1, 3051), (44, .ireturn, 1, 1, 0, 0), (45, .aload_n 1, 1, 0, 0, 0), (46, .invokevirtual 172, 3, 60, 0, 3192), (49, .aload_n 0, 1, 0, 0, 0), (50, .invokevirtual 67, 3, 16, 0, 2226), (53, .iconst 1, 1, 0, 0, 0), (54, .ireturn, 1, 1, 0, 0)]
/-- OverlapBench$Rule.canTurn()Z -/
def cd_59 : List (Nat × JI) := [(0, .aload_n 0, 1, 0, 0, 0), (1, .getfield 20, 3, 5, 1, 1111), (4, .iconst 0, 1, 0, 0, 0), (5, .invokevirtual 27, 3, 46, 1, 3190), (8, .ifCond .ge 5, 3, 13, 0, 0), (11, .iconst 0, 1, 0, 0, 0), (12, .ireturn, 1, 1, 0, 0), (13, .iconst 0, 1, 0, 0, 0), (14, .istore_n 1, 1, 0, 0, 0), (15, .iload_n 1, 1, 0, 0, 0), (16, .aload_n 0, 1, 0, 0, 0), (17, .getfield 14, 3, 5, 0, 1106), (20, .getfield 31, 3, 8, 1, 1097), (23, .if_icmp .ge 35, 3, 58, 0, 0), (26, .aload_n 0, 1, 0, 0, 0), (27, .getfield 14, 3, 5, 0, 1106), (30, .iload_n 1, 1, 0, 0, 0), (31, .invokevirtual 27, 3, 46, 1, 3190), (34, .istore_n 2, 1, 0, 0, 0), (35, .iload_n 2, 1, 0, 0, 0), (36, .ifCond .ge 16, 3, 52, 0, 0), (39, .aload_n 0, 1, 0, 0, 0), (40, .getfield 20, 3, 5, 1, 1111), (43, .iload_n 2, 1, 0, 0, 0), (44, .invokevirtual 35, 3, 45, 1, 3191), (47, .ifCond .ne 5, 3, 52, 0, 0), (50, .iconst 0, 1, 0, 0, 0), (51, .ireturn, 1, 1, 0, 0), (52, .iinc 1 1, 3, 0, 0, 0), (55, .goto (-40), 3, 15, 0, 0), (58, .iconst 1, 1, 0, 0, 0), (59, .ireturn, 1, 1, 0, 0)]
/-- OverlapBench$Rule.turn()V -/
def cd_60 : List (Nat × JI) := [(0, .aload_n 0, 1, 0, 0, 0), (1, .getfield 14, 3, 5, 0, 1106), (4, .astore_n 1, 1, 0, 0, 0), (5, .aload_n 0, 1, 0, 0, 0), (6, .aload_n 0, 1, 0, 0, 0), (7, .getfield 20, 3, 5, 1, 1111), (10, .putfield 14, 3, 205, 0, 1106), (13, .aload_n 0, 1, 0, 0, 0), (14, .aload_n 1, 1, 0, 0, 0), (15, .putfield 20, 3, 205, 1, 1111), (18, .return_, 1, 0, 0, 0)]
/-- OverlapBench$Parser.readStep()Z -/
def cd_61 : List (Nat × JI) := [(0, .aload_n 0, 1, 0, 0, 0), (1, .invokevirtual 67, 3, 16, 0, 2226), (4, .aload_n 0, 1, 0, 0, 0), (5, .aload_n 0, 1, 0, 0, 0), (6, .getfield 28, 3, 3, 3, 1219), (9, .getfield 154, 3, 7, 1, 1128), (12, .invokevirtual 126, 3, 35, 1, 3085), (15, .ifCond .ne 5, 3, 20, 0, 0), (18, .iconst 0, 1, 0, 0, 0), (19, .ireturn, 1, 1, 0, 0), (20, .aload_n 0, 1, 0, 0, 0), (21, .getfield 28, 3, 3, 3, 1219), (24, .aload_n 0, 1, 0, 0, 0), (25, .invokevirtual 129, 3, 36, 0, 3089), (28, .invokevirtual 157, 3, 54, 1, 3161), (31, .astore_n 1, 1, 0, 0, 0), (32, .aload_n 0, 1, 0, 0, 0), (33, .getfield 42, 3, 3, 6, 1224), (36, .aload_n 0, 1, 0, 0, 0), (37, .getfield 28, 3, 3, 3, 1219), (40, .aload_n 1, 1, 0, 0, 0), (41, .iconst 1, 1, 0, 0, 0), (42, .invokevirtual 175, 3, 62, 3, 3201), (45, .iconst (-1), 1, 0, 0, 0), (46, .if_icmp .ne 9, 3, 55, 0, 0), (49, .aload_n 0, 1, 0, 0, 0), (50, .iconst 4, 1, 0, 0, 0), (51, .invokevirtual 76, 3, 27, 1, 3051), (54, .ireturn, 1, 1, 0, 0), (55, .aload_n 1, 1, 0, 0, 0), (56, .aload_n 0, 1, 0, 0, 0), (57, .getfield 42, 3, 3, 6, 1224), (60, .getfield 178, 3, 4, 0, 1156), (63, .invokevirtual 181, 3, 71, 1, 4001), (66, .aload_n 0, 1, 0, 0, 0), (67, .invokevirtual 67, 3, 16, 0, 2226), (70, .iconst 1, 1, 0, 0, 0), (71, .ireturn, 1, 1, 0, 0)]
/-- OverlapBench$Rewriter.step(LOverlapBench$State;LOverlapBench$Term;Z)I -/
def cd_62 : List (Nat × JI) := [(0, .aload_n 0, 1, 0, 0, 0), (1, .aload_n 1, 1, 0, 0, 0), (2, .aload_n 2, 1, 0, 0, 0), (3, .iload_n 3, 1, 0, 0, 0), (4, .invokevirtual 90, 3, 63, 3, 3205), (7, .istore 4, 2, 0, 0, 0), (9, .iload 4, 2, 0, 0, 0), (11, .iconst (-1), 1, 0, 0, 0), (12, .if_icmp .eq 19, 3, 31, 0, 0), (15, .aload_n 0, 1, 0, 0, 0), (16, .aload_n 1, 1, 0, 0, 0), (17, .aload_n 2, 1, 0, 0, 0), (18, .iload 4, 2, 0, 0, 0), (20, .invokevirtual 94, 3, 69, 3, 3230), (23, .ifCond .eq 8, 3, 31, 0, 0), (26, .iload 4, 2, 0, 0, 0), (28, .goto 4, 3, 32, 0, 0), (31, .iconst (-1), 1, 0, 0, 0), (32, .ireturn, 1, 0, 0, 0)]
/-- OverlapBench$Rewriter.redex(LOverlapBench$State;LOverlapBench$Term;Z)I -/
def cd_63 : List (Nat × JI) := [(0, .iconst (-1), 1, 0, 0, 0), (1, .istore 4, 2, 0, 0, 0), (3, .aload_n 2, 1, 0, 0, 0), (4, .getfield 41, 3, 8, 1, 1094), (7, .istore 5, 2, 0, 0, 0), (9, .iconst 0, 1, 0, 0, 0), (10, .istore 6, 2, 0, 0, 0), (12, .iload 6, 2, 0, 0, 0), (14, .aload_n 2, 1, 0, 0, 0), (15, .getfield 41, 3, 8, 1, 1094), (18, .if_icmp .ge 47, 3, 65, 0, 0), (21, .iload 6, 2, 0, 0, 0), (23, .iload 5, 2, 0, 0, 0), (25, .if_icmp .ge 40, 3, 65, 0, 0), (28, .aload_n 0, 1, 0, 0, 0), (29, .aload_n 1, 1, 0, 0, 0), (30, .aload_n 2, 1, 0, 0, 0), (31, .iload 6, 2, 0, 0, 0), (33, .invokevirtual 83, 3, 64, 3, 3209), (36, .iconst (-1), 1, 0, 0, 0), (37, .if_icmp .eq 22, 3, 59, 0, 0), (40, .iload_n 3, 1, 0, 0, 0), (41, .ifCond .ne 6, 3, 47, 0, 0), (44, .iload 6, 2, 0, 0, 0), (46, .ireturn, 1, 0, 0, 0), (47, .iload 6, 2, 0, 0, 0), (49, .istore 4, 2, 0, 0, 0), (51, .aload_n 2, 1, 0, 0, 0), (52, .iload 6, 2, 0, 0, 0), (54, .invokevirtual 53, 3, 68, 1, 3226), (57, .istore 5, 2, 0, 0, 0), (59, .iinc 6 1, 3, 0, 0, 0), (62, .goto (-50), 3, 12, 0, 0), (65, .iload 4, 2, 0, 0, 0), (67, .ireturn, 1, 0, 0, 0)]
/-- OverlapBench$Rewriter.firstRule(LOverlapBench$State;LOverlapBench$Term;I)I -/
def cd_64 : List (Nat × JI) := [(0, .iconst 0, 1, 0, 0, 0), (1, .istore 4, 2, 0, 0, 0), (3, .iload 4, 2, 0, 0, 0), (5, .aload_n 1, 1, 0, 0, 0), (6, .getfield 74, 3, 7, 0, 1124), (9, .if_icmp .ge 27, 3, 36, 0, 0), (12, .aload_n 0, 1, 0, 0, 0), (13, .aload_n 1, 1, 0, 0, 0), (14, .iload 4, 2, 0, 0, 0), (16, .invokevirtual 79, 3, 39, 1, 3213), (19, .aload_n 2, 1, 0, 0, 0), (20, .iload_n 3, 1, 0, 0, 0), (21, .invokevirtual 56, 3, 65, 3, 3214), (24, .ifCond .eq 6, 3, 30, 0, 0), (27, .iload 4, 2, 0, 0, 0), (29, .ireturn, 1, 0, 0, 0), (30, .iinc 4 1, 3, 0, 0, 0), (33, .goto (-30), 3, 3, 0, 0), (36, .iconst (-1), 1, 0, 0, 0), (37, .ireturn, 1, 0, 0, 0)]
/-- OverlapBench$Rewriter.match(LOverlapBench$Rule;LOverlapBench$Term;I)Z -/
def cd_65 : List (Nat × JI) := [(0, .aload_n 0, 1, 0, 0, 0), (1, .getfield 26, 3, 4, 3, 1161), (4, .iconst (-1), 1, 0, 0, 0), (5, .invokestatic 30, 3, 66, 2, 3218), (8, .aload_n 1, 1, 0, 0, 0), (9, .getfield 36, 3, 5, 0, 1107), (12, .astore 4, 2, 0, 0, 0), (14, .iload_n 3, 1, 0, 0, 0), (15, .istore 5, 2, 0, 0, 0), (17, .iconst 0, 1, 0, 0, 0), (18, .istore 6, 2, 0, 0, 0), (20, .iload 6, 2, 0, 0, 0), (22, .aload 4, 2, 0, 0, 0), (24, .getfield 41, 3, 8, 1, 1094), (27, .if_icmp .ge 114, 3, 141, 0, 0), (30, .aload 4, 2, 0, 0, 0), (32, .iload 6, 2, 0, 0, 0), (34, .invokevirtual 45, 3, 46, 1, 3221), (37, .istore 7, 2, 0, 0, 0), (39, .iload 7, 2, 0, 0, 0), (41, .ifCond .lt 22, 3, 63, 0, 0), (44, .aload_n 2, 1, 0, 0, 0), (45, .iload 5, 2, 0, 0, 0), (47, .invokevirtual 45, 3, 46, 1, 3221), (50, .iload 7, 2, 0, 0, 0), (52, .if_icmp .eq 5, 3, 57, 0, 0), (55, .iconst 0, 1, 0, 0, 0), (56, .ireturn, 1, 1, 0, 0), (57, .iinc 5 1, 3, 0, 0, 0), (60, .goto 75, 3, 135, 0, 0), (63, .iconst (-1), 1, 0, 0, 0), (64, .iload 7, 2, 0, 0, 0), (66, .isub, 1, 0, 0, 0), (67, .istore 8, 2, 0, 0, 0), (69, .iload 8, 2, 0, 0, 0), (71, .ifCond .lt 13, 3, 84, 0, 0), (74, .iload 8, 2, 0, 0, 0), (76, .aload_n 0, 1, 0, 0, 0), (77, .getfield 26, 3, 4, 3, 1161), (80, .arraylength, 1, 0, 0, 0), (81, .if_icmp .lt 5, 3, 86, 0, 0), (84, .iconst 0, 1, 0, 0, 0), (85, .ireturn, 1, 1, 0, 0), (86, .aload_n 0, 1, 0, 0, 0), (87, .getfield 26, 3, 4, 3, 1161), (90, .iload 8, 2, 0, 0, 0), (92, .iaload, 1, 0, 0, 0), (93, .iconst (-1), 1, 0, 0, 0), (94, .if_icmp .ne 15, 3, 109, 0, 0), (97, .aload_n 0, 1, 0, 0, 0), (98, .getfield 26, 3, 4, 3, 1161), (101, .iload 8, 2, 0, 0, 0), (103, .iload 5, 2, 0, 0, 0), (105, .iastore, 1, 0, 0, 0), (106, .goto 21, 3, 127, 0, 0), (109, .aload_n 2, 1, 0, 0, 0), (110, .aload_n 0, 1, 0, 0, 0), (111, .getfield 26, 3, 4, 3, 1161), (114, .iload 8, 2, 0, 0, 0), (116, .iaload, 1, 0, 0, 0), (117, .iload 5, 2, 0, 0, 0), (119, .invokevirtual 49, 3, 67, 2, 3222), (122, .ifCond .ne 5, 3, 127, 0, 0), (125, .iconst 0, 1, 0, 0, 0), (126, .ireturn, 1, 1, 0, 0), (127, .aload_n 2, 1, 0, 0, 0), (128, .iload 5, 2, 0, 0, 0), (130, .invokevirtual 53, 3, 68, 1, 3226), (133, .istore 5, 2, 0, 0, 0), (135, .iinc 6 1, 3, 0, 0, 0), (138, .goto (-118), 3, 20, 0, 0), (141, .iconst 1, 1, 0, 0, 0), (142, .ireturn, 1, 1, 0, 0)]
/-- java/util/Arrays.fill([II)V -/
def cd_66 : List (Nat × JI) := [(0, .iconst 0, 1, 0, 0, 0), (1, .istore_n 2, 1, 0, 0, 0), (2, .aload_n 0, 1, 0, 0, 0), (3, .arraylength, 1, 0, 0, 0), (4, .istore_n 3, 1, 0, 0, 0), (5, .iload_n 2, 1, 0, 0, 0), (6, .iload_n 3, 1, 0, 0, 0), (7, .if_icmp .ge 13, 3, 20, 0, 0), (10, .aload_n 0, 1, 0, 0, 0), (11, .iload_n 2, 1, 0, 0, 0), (12, .iload_n 1, 1, 0, 0, 0), (13, .iastore, 1, 0, 0, 0), (14, .iinc 2 1, 3, 0, 0, 0), (17, .goto (-12), 3, 5, 0, 0), (20, .return_, 1, 0, 0, 0)]
/-- OverlapBench$Term.sameParts(II)Z -/
def cd_67 : List (Nat × JI) := [(0, .iconst 1, 1, 0, 0, 0), (1, .istore_n 3, 1, 0, 0, 0), (2, .iload_n 2, 1, 0, 0, 0), (3, .istore 4, 2, 0, 0, 0), (5, .iload_n 1, 1, 0, 0, 0), (6, .istore 5, 2, 0, 0, 0), (8, .iload 5, 2, 0, 0, 0), (10, .ifCond .lt 108, 3, 118, 0, 0), (13, .iload 5, 2, 0, 0, 0), (15, .aload_n 0, 1, 0, 0, 0), (16, .getfield 9, 3, 8, 1, 1093), (19, .if_icmp .ge 99, 3, 118, 0, 0), (22, .iload 5, 2, 0, 0, 0), (24, .aload_n 0, 1, 0, 0, 0), (25, .getfield 21, 3, 8, 0, 1092), (28, .arraylength, 1, 0, 0, 0), (29, .if_icmp .ge 89, 3, 118, 0, 0), (32, .iload 4, 2, 0, 0, 0), (34, .ifCond .lt 39, 3, 73, 0, 0), (37, .iload 4, 2, 0, 0, 0), (39, .aload_n 0, 1, 0, 0, 0), (40, .getfield 9, 3, 8, 1, 1093), (43, .if_icmp .ge 30, 3, 73, 0, 0), (46, .iload 4, 2, 0, 0, 0), (48, .aload_n 0, 1, 0, 0, 0), (49, .getfield 21, 3, 8, 0, 1092), (52, .arraylength, 1, 0, 0, 0), (53, .if_icmp .ge 20, 3, 73, 0, 0), (56, .aload_n 0, 1, 0, 0, 0), (57, .getfield 21, 3, 8, 0, 1092), (60, .iload 5, 2, 0, 0, 0), (62, .iaload, 1, 0, 0, 0), (63, .aload_n 0, 1, 0, 0, 0), (64, .getfield 21, 3, 8, 0, 1092), (67, .iload 4, 2, 0, 0, 0), (69, .iaload, 1, 0, 0, 0), (70, .if_icmp .eq 5, 3, 75, 0, 0), (73, .iconst 0, 1, 0, 0, 0), (74, .ireturn, 1, 1, 0, 0), (75, .iload_n 3, 1, 0, 0, 0), (76, .aload_n 0, 1, 0, 0, 0), (77, .getfield 21, 3, 8, 0, 1092), (80, .iload 5, 2, 0, 0, 0), (82, .iaload, 1, 0, 0, 0), (83, .ifCond .ge 7, 3, 90, 0, 0), (86, .iconst (-1), 1, 0, 0, 0), (87, .goto 14, 3, 101, 0, 0), (90, .aload_n 0, 1, 0, 0, 0), (91, .getfield 21, 3, 8, 0, 1092), (94, .iload 5, 2, 0, 0, 0), (96, .iaload, 1, 0, 0, 0), (97, .iconst 3, 1, 0, 0, 0), (98, .iand, 1, 0, 0, 0), (99, .iconst 1, 1, 0, 0, 0), (100, .isub, 1, 0, 0, 0), (101, .iadd, 1, 0, 0, 0), (102, .istore_n 3, 1, 0, 0, 0), (103, .iload_n 3, 1, 0, 0, 0), (104, .ifCond .ne 5, 3, 109, 0, 0), (107, .iconst 1, 1, 0, 0, 0), (108, .ireturn, 1, 1, 0, 0), (109, .iinc 4 1, 3, 0, 0, 0), (112, .iinc 5 1, 3, 0, 0, 0), (115, .goto (-107), 3, 8, 0, 0), (118, .iconst 0, 1, 0, 0, 0), (119, .ireturn, 1, 1, 0, 0)]
/-- OverlapBench$Term.end(I)I -/
def cd_68 : List (Nat × JI) := [(0, .iconst 1, 1, 0, 0, 0), (1, .istore_n 2, 1, 0, 0, 0), (2, .iload_n 1, 1, 0, 0, 0), (3, .istore_n 3, 1, 0, 0, 0), (4, .iload_n 3, 1, 0, 0, 0), (5, .ifCond .lt 60, 3, 65, 0, 0), (8, .iload_n 3, 1, 0, 0, 0), (9, .aload_n 0, 1, 0, 0, 0), (10, .getfield 9, 3, 8, 1, 1093), (13, .if_icmp .ge 52, 3, 65, 0, 0), (16, .iload_n 3, 1, 0, 0, 0), (17, .aload_n 0, 1, 0, 0, 0), (18, .getfield 21, 3, 8, 0, 1092), (21, .arraylength, 1, 0, 0, 0), (22, .if_icmp .ge 43, 3, 65, 0, 0), (25, .aload_n 0, 1, 0, 0, 0), (26, .getfield 21, 3, 8, 0, 1092), (29, .iload_n 3, 1, 0, 0, 0), (30, .iaload, 1, 0, 0, 0), (31, .istore 4, 2, 0, 0, 0), (33, .iload_n 2, 1, 0, 0, 0), (34, .iload 4, 2, 0, 0, 0), (36, .ifCond .ge 7, 3, 43, 0, 0), (39, .iconst (-1), 1, 0, 0, 0), (40, .goto 9, 3, 49, 0, 0), (43, .iload 4, 2, 0, 0, 0), (45, .iconst 3, 1, 0, 0, 0), (46, .iand, 1, 0, 0, 0), (47, .iconst 1, 1, 0, 0, 0), (48, .isub, 1, 0, 0, 0), (49, .iadd, 1, 0, 0, 0), (50, .istore_n 2, 1, 0, 0, 0), (51, .iload_n 2, 1, 0, 0, 0), (52, .ifCond .ne 7, 3, 59, 0, 0), (55, .iload_n 3, 1, 0, 0, 0), (56, .iconst 1, 1, 0, 0, 0), (57, .iadd, 1, 0, 0, 0), (58, .ireturn, 1, 0, 0, 0), (59, .iinc 3 1, 3, 0, 0, 0), (62, .goto (-58), 3, 4, 0, 0), (65, .aload_n 0, 1, 0, 0, 0), (66, .getfield 9, 3, 8, 1, 1093), (69, .ireturn, 1, 0, 0, 0)]
/-- OverlapBench$Rewriter.buildFirst(LOverlapBench$State;LOverlapBench$Term;I)Z -/
def cd_69 : List (Nat × JI) := [(0, .aload_n 0, 1, 0, 0, 0), (1, .aload_n 1, 1, 0, 0, 0), (2, .aload_n 2, 1, 0, 0, 0), (3, .iload_n 3, 1, 0, 0, 0), (4, .invokevirtual 83, 3, 64, 3, 3209), (7, .istore 4, 2, 0, 0, 0), (9, .iload 4, 2, 0, 0, 0), (11, .iconst (-1), 1, 0, 0, 0), (12, .if_icmp .eq 22, 3, 34, 0, 0), (15, .aload_n 0, 1, 0, 0, 0), (16, .aload_n 1, 1, 0, 0, 0), (17, .iload 4, 2, 0, 0, 0), (19, .invokevirtual 79, 3, 39, 1, 3213), (22, .aload_n 2, 1, 0, 0, 0), (23, .iload_n 3, 1, 0, 0, 0), (24, .invokevirtual 87, 3, 70, 3, 3234), (27, .ifCond .eq 7, 3, 34, 0, 0), (30, .iconst 1, 1, 0, 0, 0), (31, .goto 4, 3, 35, 0, 0), (34, .iconst 0, 1, 0, 0, 0), (35, .ireturn, 1, 1, 0, 0)]
/-- OverlapBench$Rewriter.build(LOverlapBench$Rule;LOverlapBench$Term;I)Z -/
def cd_70 : List (Nat × JI) := [(0, .aload_n 0, 1, 0, 0, 0), (1, .aload_n 1, 1, 0, 0, 0), (2, .aload_n 2, 1, 0, 0, 0), (3, .iload_n 3, 1, 0, 0, 0), (4, .invokevirtual 56, 3, 65, 3, 3214), (7, .ifCond .ne 5, 3, 12, 0, 0), (10, .iconst 0, 1, 0, 0, 0), (11, .ireturn, 1, 1, 0, 0), (12, .aload_n 0, 1, 0, 0, 0), (13, .getfield 14, 3, 4, 0, 1155), (16, .invokevirtual 60, 3, 41, 0, 3238), (19, .aload_n 0, 1, 0, 0, 0), (20, .getfield 14, 3, 4, 0, 1155), (23, .aload_n 2, 1, 0, 0, 0), (24, .iconst 0, 1, 0, 0, 0), (25, .iload_n 3, 1, 0, 0, 0), (26, .invokevirtual 63, 3, 57, 3, 3239), (29, .istore 4, 2, 0, 0, 0), (31, .iconst 0, 1, 0, 0, 0), (32, .istore 5, 2, 0, 0, 0), (34, .iload 4, 2, 0, 0, 0), (36, .ifCond .eq 117, 3, 153, 0, 0), (39, .iload 5, 2, 0, 0, 0), (41, .aload_n 1, 1, 0, 0, 0), (42, .getfield 67, 3, 5, 1, 1112), (45, .getfield 41, 3, 8, 1, 1094), (48, .if_icmp .ge 105, 3, 153, 0, 0), (51, .aload_n 1, 1, 0, 0, 0), (52, .getfield 67, 3, 5, 1, 1112), (55, .iload 5, 2, 0, 0, 0), (57, .invokevirtual 45, 3, 46, 1, 3221), (60, .istore 6, 2, 0, 0, 0), (62, .iload 6, 2, 0, 0, 0), (64, .ifCond .lt 17, 3, 81, 0, 0), (67, .aload_n 0, 1, 0, 0, 0), (68, .getfield 14, 3, 4, 0, 1155), (71, .iload 6, 2, 0, 0, 0), (73, .invokevirtual 70, 3, 50, 1, 4000), (76, .istore 4, 2, 0, 0, 0), (78, .goto 69, 3, 147, 0, 0), (81, .iconst (-1), 1, 0, 0, 0), (82, .iload 6, 2, 0, 0, 0), (84, .isub, 1, 0, 0, 0), (85, .istore 7, 2, 0, 0, 0), (87, .iload 7, 2, 0, 0, 0), (89, .ifCond .lt 23, 3, 112, 0, 0), (92, .iload 7, 2, 0, 0, 0), (94, .aload_n 0, 1, 0, 0, 0), (95, .getfield 26, 3, 4, 3, 1161), (98, .arraylength, 1, 0, 0, 0), (99, .if_icmp .ge 13, 3, 112, 0, 0), (102, .aload_n 0, 1, 0, 0, 0), (103, .getfield 26, 3, 4, 3, 1161), (106, .iload 7, 2, 0, 0, 0), (108, .iaload, 1, 0, 0, 0), (109, .goto 4, 3, 113, 0, 0), (112, .iconst (-1), 1, 0, 0, 0), (113, .istore 8, 2, 0, 0, 0), (115, .iload 8, 2, 0, 0, 0), (117, .iconst (-1), 1, 0, 0, 0), (118, .if_icmp .eq 26, 3, 144, 0, 0), (121, .aload_n 0, 1, 0, 0, 0), (122, .getfield 14, 3, 4, 0, 1155), (125, .aload_n 2, 1, 0, 0, 0), (126, .iload 8, 2, 0, 0, 0), (128, .aload_n 2, 1, 0, 0, 0), (129, .iload 8, 2, 0, 0, 0), (131, .invokevirtual 53, 3, 68, 1, 3226), (134, .invokevirtual 63, 3, 57, 3, 3239), (137, .ifCond .eq 7, 3, 144, 0, 0), (140, .iconst 1, 1, 0, 0, 0), (141, .goto 4, 3, 145, 0, 0), (144, .iconst 0, 1, 0, 0, 0), (145, .istore 4, 2, 0, 0, 0), (147, .iinc 5 1, 3, 0, 0, 0), (150, .goto (-116), 3, 34, 0, 0), (153, .iload 4, 2, 0, 0, 0), (155, .ifCond .eq 27, 3, 182, 0, 0), (158, .aload_n 0, 1, 0, 0, 0), (159, .getfield 14, 3, 4, 0, 1155), (162, .aload_n 2, 1, 0, 0, 0), (163, .aload_n 2, 1, 0, 0, 0), (164, .iload_n 3, 1, 0, 0, 0), (165, .invokevirtual 53, 3, 68, 1, 3226), (168, .aload_n 2, 1, 0, 0, 0), (169, .getfield 41, 3, 8, 1, 1094), (172, .invokevirtual 63, 3, 57, 3, 3239), (175, .ifCond .eq 7, 3, 182, 0, 0), (178, .iconst 1, 1, 0, 0, 0), (179, .goto 4, 3, 183, 0, 0), (182, .iconst 0, 1, 0, 0, 0), (183, .ireturn, 1, 1, 0, 0)]
/-- OverlapBench$Term.copyFrom(LOverlapBench$Term;)V -/
def cd_71 : List (Nat × JI) := [(0, .aload_n 1, 1, 0, 0, 0), (1, .getfield 9, 3, 8, 1, 1093), (4, .aload_n 0, 1, 0, 0, 0), (5, .getfield 21, 3, 8, 0, 1092), (8, .arraylength, 1, 0, 0, 0), (9, .invokestatic 34, 3, 72, 2, 4005), (12, .istore_n 2, 1, 0, 0, 0), (13, .iconst 0, 1, 0, 0, 0), (14, .istore_n 3, 1, 0, 0, 0), (15, .iload_n 3, 1, 0, 0, 0), (16, .iload_n 2, 1, 0, 0, 0), (17, .if_icmp .ge 20, 3, 37, 0, 0), (20, .aload_n 0, 1, 0, 0, 0), (21, .getfield 21, 3, 8, 0, 1092), (24, .iload_n 3, 1, 0, 0, 0), (25, .aload_n 1, 1, 0, 0, 0), (26, .iload_n 3, 1, 0, 0, 0), (27, .invokevirtual 26, 3, 46, 1, 3129), (30, .iastore, 1, 0, 0, 0), (31, .iinc 3 1, 3, 0, 0, 0), (34, .goto (-19), 3, 15, 0, 0), (37, .aload_n 0, 1, 0, 0, 0), (38, .iload_n 2, 1, 0, 0, 0), (39, .putfield 9, 3, 8, 1, 1093), (42, .return_, 1, 0, 0, 0)]
/-- java/lang/Math.min(II)I -/
def cd_72 : List (Nat × JI) := [(0, .iload_n 0, 1, 0, 0, 0), (1, .iload_n 1, 1, 0, 0, 0), (2, .if_icmp .gt 7, 3, 9, 0, 0), (5, .iload_n 0, 1, 0, 0, 0), (6, .goto 4, 3, 10, 0, 0), (9, .iload_n 1, 1, 0, 0, 0), (10, .ireturn, 1, 0, 0, 0)]
/-- OverlapBench$Signature.copyFrom(LOverlapBench$Signature;)V -/
def cd_73 : List (Nat × JI) := [(0, .aload_n 0, 1, 0, 0, 0), (1, .aload_n 1, 1, 0, 0, 0), (2, .getfield 9, 3, 6, 0, 1053), (5, .putfield 9, 3, 6, 0, 1053), (8, .iconst 0, 1, 0, 0, 0), (9, .istore_n 2, 1, 0, 0, 0), (10, .iload_n 2, 1, 0, 0, 0), (11, .bipush 8, 2, 0, 0, 0), (13, .if_icmp .ge 33, 3, 46, 0, 0), (16, .aload_n 0, 1, 0, 0, 0), (17, .getfield 15, 3, 6, 1, 1055), (20, .iload_n 2, 1, 0, 0, 0), (21, .aload_n 1, 1, 0, 0, 0), (22, .getfield 15, 3, 6, 1, 1055), (25, .iload_n 2, 1, 0, 0, 0), (26, .iaload, 1, 0, 0, 0), (27, .iastore, 1, 0, 0, 0), (28, .aload_n 0, 1, 0, 0, 0), (29, .getfield 19, 3, 6, 2, 1056), (32, .iload_n 2, 1, 0, 0, 0), (33, .aload_n 1, 1, 0, 0, 0), (34, .getfield 19, 3, 6, 2, 1056), (37, .iload_n 2, 1, 0, 0, 0), (38, .iaload, 1, 0, 0, 0), (39, .iastore, 1, 0, 0, 0), (40, .iinc 2 1, 3, 0, 0, 0), (43, .goto (-33), 3, 10, 0, 0), (46, .iconst 0, 1, 0, 0, 0), (47, .istore_n 2, 1, 0, 0, 0), (48, .iload_n 2, 1, 0, 0, 0), (49, .aload_n 0, 1, 0, 0, 0), (50, .getfield 22, 3, 6, 3, 1057), (53, .arraylength, 1, 0, 0, 0), (54, .if_icmp .ge 30, 3, 84, 0, 0), (57, .iload_n 2, 1, 0, 0, 0), (58, .aload_n 1, 1, 0, 0, 0), (59, .getfield 22, 3, 6, 3, 1057), (62, .arraylength, 1, 0, 0, 0), (63, .if_icmp .ge 21, 3, 84, 0, 0), (66, .aload_n 0, 1, 0, 0, 0), (67, .getfield 22, 3, 6, 3, 1057), (70, .iload_n 2, 1, 0, 0, 0), (71, .aload_n 1, 1, 0, 0, 0), (72, .getfield 22, 3, 6, 3, 1057), (75, .iload_n 2, 1, 0, 0, 0), (76, .iaload, 1, 0, 0, 0), (77, .iastore, 1, 0, 0, 0), (78, .iinc 2 1, 3, 0, 0, 0), (81, .goto (-33), 3, 48, 0, 0), (84, .return_, 1, 0, 0, 0)]
/-- OverlapBench.adopt(LOverlapBench$State;)V -/
def cd_74 : List (Nat × JI) := [(0, .aload_n 0, 1, 0, 0, 0), (1, .getfield 23, 3, 10, 2, 2107), (4, .aload_n 1, 1, 0, 0, 0), (5, .invokevirtual 340, 3, 75, 1, 4032), (8, .aload_n 0, 1, 0, 0, 0), (9, .getfield 65, 3, 10, 8, 2113), (12, .iconst 0, 1, 0, 0, 0), (13, .putfield 330, 3, 0, 0, 2093), (16, .aload_n 0, 1, 0, 0, 0), (17, .getfield 51, 3, 10, 6, 2111), (20, .iconst 1, 1, 0, 0, 0), (21, .putfield 337, 3, 102, 0, 2028), (24, .return_, 1, 0, 0, 0)]
/-- OverlapBench$State.copyFrom(LOverlapBench$State;)V -/
def cd_75 : List (Nat × JI) := [(0, .aload_n 0, 1, 0, 0, 0), (1, .aload_n 1, 1, 0, 0, 0), (2, .getfield 9, 3, 7, 0, 1122), (5, .putfield 9, 3, 7, 0, 1122), (8, .aload_n 0, 1, 0, 0, 0), (9, .aload_n 1, 1, 0, 0, 0), (10, .getfield 15, 3, 7, 1, 1127), (13, .putfield 15, 3, 7, 1, 1127), (16, .iconst 0, 1, 0, 0, 0), (17, .istore_n 2, 1, 0, 0, 0), (18, .iload_n 2, 1, 0, 0, 0), (19, .aload_n 0, 1, 0, 0, 0), (20, .getfield 9, 3, 7, 0, 1122), (23, .if_icmp .ge 22, 3, 45, 0, 0), (26, .aload_n 0, 1, 0, 0, 0), (27, .iload_n 2, 1, 0, 0, 0), (28, .invokevirtual 42, 3, 39, 1, 4036), (31, .aload_n 1, 1, 0, 0, 0), (32, .iload_n 2, 1, 0, 0, 0), (33, .invokevirtual 42, 3, 39, 1, 4036), (36, .invokevirtual 46, 3, 76, 1, 4037), (39, .iinc 2 1, 3, 0, 0, 0), (42, .goto (-24), 3, 18, 0, 0), (45, .iconst 0, 1, 0, 0, 0), (46, .istore_n 2, 1, 0, 0, 0), (47, .iload_n 2, 1, 0, 0, 0), (48, .aload_n 0, 1, 0, 0, 0), (49, .getfield 15, 3, 7, 1, 1127), (52, .if_icmp .ge 22, 3, 74, 0, 0), (55, .aload_n 0, 1, 0, 0, 0), (56, .iload_n 2, 1, 0, 0, 0), (57, .invokevirtual 50, 3, 54, 1, 3174), (60, .aload_n 1, 1, 0, 0, 0), (61, .iload_n 2, 1, 0, 0, 0), (62, .invokevirtual 50, 3, 54, 1, 3174), (65, .invokevirtual 54, 3, 71, 1, 4042), (68, .iinc 2 1, 3, 0, 0, 0), (71, .goto (-24), 3, 47, 0, 0), (74, .return_, 1, 0, 0, 0)]
/-- OverlapBench$Rule.copyFrom(LOverlapBench$Rule;)V -/
def cd_76 : List (Nat × JI) := [(0, .aload_n 0, 1, 0, 0, 0), (1, .getfield 14, 3, 5, 0, 1106), (4, .aload_n 1, 1, 0, 0, 0), (5, .getfield 14, 3, 5, 0, 1106), (8, .invokevirtual 23, 3, 71, 1, 4041), (11, .aload_n 0, 1, 0, 0, 0), (12, .getfield 20, 3, 5, 1, 1111), (15, .aload_n 1, 1, 0, 0, 0), (16, .getfield 20, 3, 5, 1, 1111), (19, .invokevirtual 23, 3, 71, 1, 4041), (22, .return_, 1, 0, 0, 0)]
/-- OverlapBench.ruleCount()I -/
def cd_77 : List (Nat × JI) := [(0, .aload_n 0, 1, 0, 0, 0), (1, .invokevirtual 132, 3, 78, 0, 4047), (4, .aload_n 0, 1, 0, 0, 0), (5, .getfield 23, 3, 10, 2, 2107), (8, .getfield 123, 3, 7, 0, 1123), (11, .ireturn, 1, 0, 0, 0)]
/-- OverlapBench.requireSystem()V -/
def cd_78 : List (Nat × JI) := [(0, .aload_n 0, 1, 0, 0, 0), (1, .getfield 7, 3, 10, 0, 2105), (4, .ifCond .ne 11, 3, 15, 0, 0), (7, .new 331, 3, 100, 333, 4051), (10, .dup, 1, 0, 0, 0), (11, .invokespecial 333, 3, 9999, 0, 4060), (14, .athrow, 1, 0, 0, 0), (15, .return_, 1, 0, 0, 0)]
/-- OverlapBench.termCount()I -/
def cd_79 : List (Nat × JI) := [(0, .aload_n 0, 1, 0, 0, 0), (1, .invokevirtual 132, 3, 78, 0, 4047), (4, .aload_n 0, 1, 0, 0, 0), (5, .getfield 23, 3, 10, 2, 2107), (8, .getfield 183, 3, 7, 1, 1129), (11, .ireturn, 1, 0, 0, 0)]
/-- OverlapBench.termSize(I)I -/
def cd_80 : List (Nat × JI) := [(0, .aload_n 0, 1, 0, 0, 0), (1, .iload_n 1, 1, 0, 0, 0), (2, .invokevirtual 186, 3, 81, 1, 4074), (5, .getfield 170, 3, 8, 1, 1100), (8, .ireturn, 1, 0, 0, 0)]
/-- OverlapBench.requireTerm(I)LOverlapBench$Term; -/
def cd_81 : List (Nat × JI) := [(0, .aload_n 0, 1, 0, 0, 0), (1, .invokevirtual 132, 3, 78, 0, 4047), (4, .aload_n 0, 1, 0, 0, 0), (5, .iload_n 1, 1, 0, 0, 0), (6, .aload_n 0, 1, 0, 0, 0), (7, .getfield 23, 3, 10, 2, 2107), (10, .getfield 183, 3, 7, 1, 1129), (13, .invokevirtual 138, 3, 82, 2, 4078), (16, .aload_n 0, 1, 0, 0, 0), (17, .getfield 23, 3, 10, 2, 2107), (20, .iload_n 1, 1, 0, 0, 0), (21, .invokevirtual 211, 3, 54, 1, 4082), (24, .areturn, 1, 0, 0, 0)]
/-- OverlapBench.requireIndex(II)V -/
def cd_82 : List (Nat × JI) := [(0, .iload_n 1, 1, 0, 0, 0), (1, .ifCond .lt 8, 3, 9, 0, 0), (4, .iload_n 1, 1, 0, 0, 0), (5, .iload_n 2, 1, 0, 0, 0), (6, .if_icmp .lt 11, 3, 17, 0, 0), (9, .new 101, 3, 101, 103, 2155), (12, .dup, 1, 0, 0, 0), (13, .invokespecial 103, 3, 9999, 0, 2196), (16, .athrow, 1, 0, 0, 0), (17, .return_, 1, 0, 0, 0)]
/-- OverlapBench.subtermSize(II)I -/
def cd_83 : List (Nat × JI) := [(0, .aload_n 0, 1, 0, 0, 0), (1, .iload_n 1, 1, 0, 0, 0), (2, .iload_n 2, 1, 0, 0, 0), (3, .invokevirtual 194, 3, 84, 2, 4087), (6, .iload_n 2, 1, 0, 0, 0), (7, .invokevirtual 204, 3, 68, 1, 4091), (10, .iload_n 2, 1, 0, 0, 0), (11, .isub, 1, 0, 0, 0), (12, .ireturn, 1, 0, 0, 0)]
/-- OverlapBench.requireNode(II)LOverlapBench$Term; -/
def cd_84 : List (Nat × JI) := [(0, .aload_n 0, 1, 0, 0, 0), (1, .iload_n 1, 1, 0, 0, 0), (2, .invokevirtual 186, 3, 81, 1, 4074), (5, .astore_n 3, 1, 0, 0, 0), (6, .aload_n 0, 1, 0, 0, 0), (7, .iload_n 2, 1, 0, 0, 0), (8, .aload_n 3, 1, 0, 0, 0), (9, .getfield 170, 3, 8, 1, 1100), (12, .invokevirtual 138, 3, 82, 2, 4078), (15, .aload_n 3, 1, 0, 0, 0), (16, .areturn, 1, 0, 0, 0)]
/-- OverlapBench.matches(III)Z -/
def cd_85 : List (Nat × JI) := [(0, .aload_n 0, 1, 0, 0, 0), (1, .iload_n 1, 1, 0, 0, 0), (2, .invokevirtual 167, 3, 86, 1, 4096), (5, .astore 4, 2, 0, 0, 0), (7, .aload_n 0, 1, 0, 0, 0), (8, .getfield 30, 3, 10, 3, 2108), (11, .aload 4, 2, 0, 0, 0), (13, .aload_n 0, 1, 0, 0, 0), (14, .iload_n 2, 1, 0, 0, 0), (15, .iload_n 3, 1, 0, 0, 0), (16, .invokevirtual 194, 3, 84, 2, 4087), (19, .iload_n 3, 1, 0, 0, 0), (20, .invokevirtual 214, 3, 65, 3, 4101), (23, .ireturn, 1, 1, 0, 0)]
/-- OverlapBench.requireRule(I)LOverlapBench$Rule; -/
def cd_86 : List (Nat × JI) := [(0, .aload_n 0, 1, 0, 0, 0), (1, .invokevirtual 132, 3, 78, 0, 4047), (4, .aload_n 0, 1, 0, 0, 0), (5, .iload_n 1, 1, 0, 0, 0), (6, .aload_n 0, 1, 0, 0, 0), (7, .getfield 23, 3, 10, 2, 2107), (10, .getfield 123, 3, 7, 0, 1123), (13, .invokevirtual 138, 3, 82, 2, 4078), (16, .aload_n 0, 1, 0, 0, 0), (17, .getfield 23, 3, 10, 2, 2107), (20, .iload_n 1, 1, 0, 0, 0), (21, .invokevirtual 153, 3, 39, 1, 4100), (24, .areturn, 1, 0, 0, 0)]
/-- OverlapBench.ruleAt(II)I -/
def cd_87 : List (Nat × JI) := [(0, .aload_n 0, 1, 0, 0, 0), (1, .getfield 30, 3, 10, 3, 2108), (4, .aload_n 0, 1, 0, 0, 0), (5, .getfield 23, 3, 10, 2, 2107), (8, .aload_n 0, 1, 0, 0, 0), (9, .iload_n 1, 1, 0, 0, 0), (10, .iload_n 2, 1, 0, 0, 0), (11, .invokevirtual 194, 3, 84, 2, 4087), (14, .iload_n 2, 1, 0, 0, 0), (15, .invokevirtual 218, 3, 64, 3, 4106), (18, .ireturn, 1, 0, 0, 0)]
/-- OverlapBench.redexCount(I)I -/
def cd_88 : List (Nat × JI) := [(0, .aload_n 0, 1, 0, 0, 0), (1, .getfield 30, 3, 10, 3, 2108), (4, .aload_n 0, 1, 0, 0, 0), (5, .getfield 23, 3, 10, 2, 2107), (8, .aload_n 0, 1, 0, 0, 0), (9, .iload_n 1, 1, 0, 0, 0), (10, .invokevirtual 186, 3, 81, 1, 4074), (13, .invokevirtual 222, 3, 89, 2, 4111), (16, .ireturn, 1, 0, 0, 0)]
/-- OverlapBench$Rewriter.countRedexes(LOverlapBench$State;LOverlapBench$Term;)I -/
def cd_89 : List (Nat × JI) := [(0, .iconst 0, 1, 0, 0, 0), (1, .istore_n 3, 1, 0, 0, 0), (2, .iconst 0, 1, 0, 0, 0), (3, .istore 4, 2, 0, 0, 0), (5, .iload 4, 2, 0, 0, 0), (7, .aload_n 2, 1, 0, 0, 0), (8, .getfield 41, 3, 8, 1, 1094), (11, .if_icmp .ge 24, 3, 35, 0, 0), (14, .aload_n 0, 1, 0, 0, 0), (15, .aload_n 1, 1, 0, 0, 0), (16, .aload_n 2, 1, 0, 0, 0), (17, .iload 4, 2, 0, 0, 0), (19, .invokevirtual 83, 3, 64, 3, 3209), (22, .iconst (-1), 1, 0, 0, 0), (23, .if_icmp .eq 6, 3, 29, 0, 0), (26, .iinc 3 1, 3, 0, 0, 0), (29, .iinc 4 1, 3, 0, 0, 0), (32, .goto (-27), 3, 5, 0, 0), (35, .iload_n 3, 1, 0, 0, 0), (36, .ireturn, 1, 0, 0, 0)]
/-- OverlapBench.innermostRedex(I)I -/
def cd_90 : List (Nat × JI) := [(0, .aload_n 0, 1, 0, 0, 0), (1, .getfield 30, 3, 10, 3, 2108), (4, .aload_n 0, 1, 0, 0, 0), (5, .getfield 23, 3, 10, 2, 2107), (8, .aload_n 0, 1, 0, 0, 0), (9, .iload_n 1, 1, 0, 0, 0), (10, .invokevirtual 186, 3, 81, 1, 4074), (13, .iconst 1, 1, 0, 0, 0), (14, .invokevirtual 226, 3, 63, 3, 4119), (17, .ireturn, 1, 0, 0, 0)]
/-- OverlapBench.outermostRedex(I)I -/
def cd_91 : List (Nat × JI) := [(0, .aload_n 0, 1, 0, 0, 0), (1, .getfield 30, 3, 10, 3, 2108), (4, .aload_n 0, 1, 0, 0, 0), (5, .getfield 23, 3, 10, 2, 2107), (8, .aload_n 0, 1, 0, 0, 0), (9, .iload_n 1, 1, 0, 0, 0), (10, .invokevirtual 186, 3, 81, 1, 4074), (13, .iconst 0, 1, 0, 0, 0), (14, .invokevirtual 226, 3, 63, 3, 4119), (17, .ireturn, 1, 0, 0, 0)]
/-- OverlapBench.isNormalForm(I)Z -/
def cd_92 : List (Nat × JI) := [(0, .aload_n 0, 1, 0, 0, 0), (1, .getfield 30, 3, 10, 3, 2108), (4, .aload_n 0, 1, 0, 0, 0), (5, .getfield 23, 3, 10, 2, 2107), (8, .aload_n 0, 1, 0, 0, 0), (9, .iload_n 1, 1, 0, 0, 0), (10, .invokevirtual 186, 3, 81, 1, 4074), (13, .iconst 0, 1, 0, 0, 0), (14, .invokevirtual 226, 3, 63, 3, 4119), (17, .iconst (-1), 1, 0, 0, 0), (18, .if_icmp .ne 7, 3, 25, 0, 0), (21, .iconst 1, 1, 0, 0, 0), (22, .goto 4, 3, 26, 0, 0), (25, .iconst 0, 1, 0, 0, 0), (26, .ireturn, 1, 1, 0, 0)]
/-- OverlapBench.stepsInnermost(I)I -/
def cd_93 : List (Nat × JI) := [(0, .aload_n 0, 1, 0, 0, 0), (1, .getfield 30, 3, 10, 3, 2108), (4, .aload_n 0, 1, 0, 0, 0), (5, .getfield 23, 3, 10, 2, 2107), (8, .aload_n 0, 1, 0, 0, 0), (9, .iload_n 1, 1, 0, 0, 0), (10, .invokevirtual 186, 3, 81, 1, 4074), (13, .iconst 1, 1, 0, 0, 0), (14, .sipush 200, 3, 0, 0, 0), (17, .invokevirtual 230, 3, 94, 4, 4132), (20, .ireturn, 1, 0, 0, 0)]
/-- OverlapBench$Rewriter.reduce(LOverlapBench$State;LOverlapBench$Term;ZI)I -/
def cd_94 : List (Nat × JI) := [(0, .aload_n 0, 1, 0, 0, 0), (1, .getfield 20, 3, 4, 1, 1158), (4, .aload_n 2, 1, 0, 0, 0), (5, .invokevirtual 98, 3, 71, 1, 4136), (8, .iconst 0, 1, 0, 0, 0), (9, .istore 5, 2, 0, 0, 0), (11, .iload 5, 2, 0, 0, 0), (13, .iload 4, 2, 0, 0, 0), (15, .if_icmp .gt 64, 3, 79, 0, 0), (18, .aload_n 0, 1, 0, 0, 0), (19, .aload_n 1, 1, 0, 0, 0), (20, .aload_n 0, 1, 0, 0, 0), (21, .getfield 20, 3, 4, 1, 1158), (24, .iload_n 3, 1, 0, 0, 0), (25, .invokevirtual 90, 3, 63, 3, 3205), (28, .istore 6, 2, 0, 0, 0), (30, .iload 6, 2, 0, 0, 0), (32, .iconst (-1), 1, 0, 0, 0), (33, .if_icmp .ne 6, 3, 39, 0, 0), (36, .iload 5, 2, 0, 0, 0), (38, .ireturn, 1, 0, 0, 0), (39, .iload 5, 2, 0, 0, 0), (41, .iload 4, 2, 0, 0, 0), (43, .if_icmp .eq 17, 3, 60, 0, 0), (46, .aload_n 0, 1, 0, 0, 0), (47, .aload_n 1, 1, 0, 0, 0), (48, .aload_n 0, 1, 0, 0, 0), (49, .getfield 20, 3, 4, 1, 1158), (52, .iload 6, 2, 0, 0, 0), (54, .invokevirtual 94, 3, 69, 3, 3230), (57, .ifCond .ne 5, 3, 62, 0, 0), (60, .iconst (-1), 1, 0, 0, 0), (61, .ireturn, 1, 0, 0, 0), (62, .aload_n 0, 1, 0, 0, 0), (63, .getfield 20, 3, 4, 1, 1158), (66, .aload_n 0, 1, 0, 0, 0), (67, .getfield 14, 3, 4, 0, 1155), (70, .invokevirtual 98, 3, 71, 1, 4136), (73, .iinc 5 1, 3, 0, 0, 0), (76, .goto (-65), 3, 11, 0, 0), (79, .iconst (-1), 1, 0, 0, 0), (80, .ireturn, 1, 0, 0, 0)]
/-- OverlapBench.stepsOutermost(I)I -/
def cd_95 : List (Nat × JI) := [(0, .aload_n 0, 1, 0, 0, 0), (1, .getfield 30, 3, 10, 3, 2108), (4, .aload_n 0, 1, 0, 0, 0), (5, .getfield 23, 3, 10, 2, 2107), (8, .aload_n 0, 1, 0, 0, 0), (9, .iload_n 1, 1, 0, 0, 0), (10, .invokevirtual 186, 3, 81, 1, 4074), (13, .iconst 0, 1, 0, 0, 0), (14, .sipush 200, 3, 0, 0, 0), (17, .invokevirtual 230, 3, 94, 4, 4132), (20, .ireturn, 1, 0, 0, 0)]
/-- OverlapBench.normalFormSize(I)I -/
def cd_96 : List (Nat × JI) := [(0, .aload_n 0, 1, 0, 0, 0), (1, .getfield 30, 3, 10, 3, 2108), (4, .aload_n 0, 1, 0, 0, 0), (5, .getfield 23, 3, 10, 2, 2107), (8, .aload_n 0, 1, 0, 0, 0), (9, .iload_n 1, 1, 0, 0, 0), (10, .invokevirtual 186, 3, 81, 1, 4074), (13, .iconst 1, 1, 0, 0, 0), (14, .sipush 200, 3, 0, 0, 0), (17, .invokevirtual 230, 3, 94, 4, 4132), (20, .istore_n 2, 1, 0, 0, 0), (21, .iload_n 2, 1, 0, 0, 0), (22, .iconst (-1), 1, 0, 0, 0), (23, .if_icmp .ne 7, 3, 30, 0, 0), (26, .iconst (-1), 1, 0, 0, 0), (27, .goto 13, 3, 40, 0, 0), (30, .aload_n 0, 1, 0, 0, 0), (31, .getfield 30, 3, 10, 3, 2108), (34, .getfield 234, 3, 4, 1, 1159), (37, .getfield 170, 3, 8, 1, 1100), (40, .ireturn, 1, 0, 0, 0)]
/-- OverlapBench.criticalPairCount()I -/
def cd_97 : List (Nat × JI) := [(0, .aload_n 0, 1, 0, 0, 0), (1, .invokevirtual 132, 3, 78, 0, 4047), (4, .aload_n 0, 1, 0, 0, 0), (5, .getfield 51, 3, 10, 6, 2111), (8, .aload_n 0, 1, 0, 0, 0), (9, .getfield 23, 3, 10, 2, 2107), (12, .invokevirtual 252, 3, 98, 1, 4149), (15, .aload_n 0, 1, 0, 0, 0), (16, .getfield 51, 3, 10, 6, 2111), (19, .getfield 255, 3, 2, 1, 2030), (22, .ireturn, 1, 0, 0, 0)]
/-- OverlapBench$PairList.refresh(LOverlapBench$State;)V -/
def cd_98 : List (Nat × JI) := [(0, .aload_n 0, 1, 0, 0, 0), (1, .getfield 9, 3, 2, 0, 2027), (4, .ifCond .ne 4, 3, 8, 0, 0), (7, .return_, 1, 0, 0, 0), (8, .aload_n 0, 1, 0, 0, 0), (9, .iconst 0, 1, 0, 0, 0), (10, .putfield 9, 3, 102, 0, 2027), (13, .aload_n 0, 1, 0, 0, 0), (14, .iconst 0, 1, 0, 0, 0), (15, .putfield 15, 3, 2, 1, 2029), (18, .iconst 0, 1, 0, 0, 0), (19, .istore_n 2, 1, 0, 0, 0), (20, .iload_n 2, 1, 0, 0, 0), (21, .aload_n 1, 1, 0, 0, 0), (22, .getfield 69, 3, 7, 0, 1126), (25, .if_icmp .ge 125, 3, 150, 0, 0), (28, .aload_n 1, 1, 0, 0, 0), (29, .iload_n 2, 1, 0, 0, 0), (30, .invokevirtual 74, 3, 39, 1, 4153), (33, .astore_n 3, 1, 0, 0, 0), (34, .iconst 0, 1, 0, 0, 0), (35, .istore 4, 2, 0, 0, 0), (37, .iload 4, 2, 0, 0, 0), (39, .aload_n 1, 1, 0, 0, 0), (40, .getfield 69, 3, 7, 0, 1126), (43, .if_icmp .ge 101, 3, 144, 0, 0), (46, .aload_n 1, 1, 0, 0, 0), (47, .iload 4, 2, 0, 0, 0), (49, .invokevirtual 74, 3, 39, 1, 4153), (52, .astore 5, 2, 0, 0, 0), (54, .iload_n 2, 1, 0, 0, 0), (55, .iload 4, 2, 0, 0, 0), (57, .if_icmp .ne 7, 3, 64, 0, 0), (60, .iconst 1, 1, 0, 0, 0), (61, .goto 4, 3, 65, 0, 0), (64, .iconst 0, 1, 0, 0, 0), (65, .istore 6, 2, 0, 0, 0), (67, .iload 6, 2, 0, 0, 0), (69, .aload_n 3, 1, 0, 0, 0), (70, .getfield 78, 3, 5, 0, 1109), (73, .getfield 83, 3, 8, 1, 1099), (76, .if_icmp .ge 62, 3, 138, 0, 0), (79, .aload_n 3, 1, 0, 0, 0), (80, .getfield 78, 3, 5, 0, 1109), (83, .iload 6, 2, 0, 0, 0), (85, .invokevirtual 86, 3, 46, 1, 4154), (88, .aload 5, 2, 0, 0, 0), (90, .getfield 78, 3, 5, 0, 1109), (93, .iconst 0, 1, 0, 0, 0), (94, .invokevirtual 86, 3, 46, 1, 4154), (97, .if_icmp .ne 35, 3, 132, 0, 0), (100, .aload_n 0, 1, 0, 0, 0), (101, .aload_n 0, 1, 0, 0, 0), (102, .getfield 15, 3, 2, 1, 2029), (105, .invokevirtual 65, 3, 99, 1, 4155), (108, .ifCond .eq 24, 3, 132, 0, 0), (111, .aload_n 0, 1, 0, 0, 0), (112, .aload_n 3, 1, 0, 0, 0), (113, .aload 5, 2, 0, 0, 0), (115, .iload 6, 2, 0, 0, 0), (117, .invokevirtual 90, 3, 100, 3, 4159), (120, .ifCond .eq 12, 3, 132, 0, 0), (123, .aload_n 0, 1, 0, 0, 0), (124, .iload_n 2, 1, 0, 0, 0), (125, .iload 4, 2, 0, 0, 0), (127, .iload 6, 2, 0, 0, 0), (129, .invokevirtual 94, 3, 124, 3, 5026), (132, .iinc 6 1, 3, 0, 0, 0), (135, .goto (-68), 3, 67, 0, 0), (138, .iinc 4 1, 3, 0, 0, 0), (141, .goto (-104), 3, 37, 0, 0), (144, .iinc 2 1, 3, 0, 0, 0), (147, .goto (-127), 3, 20, 0, 0), (150, .return_, 1, 0, 0, 0)]
/-- OverlapBench$PairList.has(I)Z -/
def cd_99 : List (Nat × JI) := [(0, .iload_n 1, 1, 0, 0, 0), (1, .ifCond .lt 13, 3, 14, 0, 0), (4, .iload_n 1, 1, 0, 0, 0), (5, .bipush 20, 2, 0, 0, 0), (7, .if_icmp .ge 7, 3, 14, 0, 0), (10, .iconst 1, 1, 0, 0, 0), (11, .goto 4, 3, 15, 0, 0), (14, .iconst 0, 1, 0, 0, 0), (15, .ireturn, 1, 1, 0, 0)]
/-- OverlapBench$PairList.buildPair(LOverlapBench$Rule;LOverlapBench$Rule;I)Z -/
def cd_100 : List (Nat × JI) := [(0, .aload_n 0, 1, 0, 0, 0), (1, .getfield 22, 3, 2, 2, 2031), (4, .invokevirtual 98, 3, 101, 0, 4163), (7, .aload_n 0, 1, 0, 0, 0), (8, .getfield 22, 3, 2, 2, 2031), (11, .aload_n 1, 1, 0, 0, 0), (12, .getfield 78, 3, 5, 0, 1109), (15, .iconst 0, 1, 0, 0, 0), (16, .invokevirtual 101, 3, 102, 2, 4168), (19, .istore 4, 2, 0, 0, 0), (21, .aload_n 0, 1, 0, 0, 0), (22, .getfield 22, 3, 2, 2, 2031), (25, .aload_n 2, 1, 0, 0, 0), (26, .getfield 78, 3, 5, 0, 1109), (29, .bipush 8, 2, 0, 0, 0), (31, .invokevirtual 101, 3, 102, 2, 4168), (34, .istore 5, 2, 0, 0, 0), (36, .aload_n 0, 1, 0, 0, 0), (37, .getfield 22, 3, 2, 2, 2031), (40, .aload_n 1, 1, 0, 0, 0), (41, .getfield 105, 3, 5, 1, 1114), (44, .iconst 0, 1, 0, 0, 0), (45, .invokevirtual 101, 3, 102, 2, 4168), (48, .istore 6, 2, 0, 0, 0), (50, .aload_n 0, 1, 0, 0, 0), (51, .getfield 22, 3, 2, 2, 2031), (54, .aload_n 2, 1, 0, 0, 0), (55, .getfield 105, 3, 5, 1, 1114), (58, .bipush 8, 2, 0, 0, 0), (60, .invokevirtual 101, 3, 102, 2, 4168), (63, .istore 7, 2, 0, 0, 0), (65, .aload_n 0, 1, 0, 0, 0), (66, .getfield 22, 3, 2, 2, 2031), (69, .iload 4, 2, 0, 0, 0), (71, .iload_n 3, 1, 0, 0, 0), (72, .iadd, 1, 0, 0, 0), (73, .iload 5, 2, 0, 0, 0), (75, .invokevirtual 108, 3, 104, 2, 4178), (78, .ifCond .ne 5, 3, 83, 0, 0), (81, .iconst 0, 1, 0, 0, 0), (82, .ireturn, 1, 1, 0, 0), (83, .aload_n 0, 1, 0, 0, 0), (84, .aload_n 0, 1, 0, 0, 0), (85, .getfield 15, 3, 2, 1, 2029), (88, .invokevirtual 112, 3, 117, 1, 4232), (91, .astore 8, 2, 0, 0, 0), (93, .aload_n 0, 1, 0, 0, 0), (94, .aload_n 0, 1, 0, 0, 0), (95, .getfield 15, 3, 2, 1, 2029), (98, .invokevirtual 116, 3, 118, 1, 4236), (101, .astore 9, 2, 0, 0, 0), (103, .aload 8, 2, 0, 0, 0), (105, .invokevirtual 119, 3, 41, 0, 5000), (108, .aload 9, 2, 0, 0, 0), (110, .invokevirtual 119, 3, 41, 0, 5000), (113, .aload_n 0, 1, 0, 0, 0), (114, .getfield 22, 3, 2, 2, 2031), (117, .iload 6, 2, 0, 0, 0), (119, .aload 8, 2, 0, 0, 0), (121, .invokevirtual 120, 3, 119, 2, 5001), (124, .istore 10, 2, 0, 0, 0), (126, .iconst 0, 1, 0, 0, 0), (127, .istore 11, 2, 0, 0, 0), (129, .iload 10, 2, 0, 0, 0), (131, .ifCond .eq 103, 3, 234, 0, 0), (134, .iload 11, 2, 0, 0, 0), (136, .aload_n 1, 1, 0, 0, 0), (137, .getfield 78, 3, 5, 0, 1109), (140, .getfield 83, 3, 8, 1, 1099), (143, .if_icmp .ge 91, 3, 234, 0, 0), (146, .iload 11, 2, 0, 0, 0), (148, .iload_n 3, 1, 0, 0, 0), (149, .if_icmp .ne 37, 3, 186, 0, 0), (152, .aload_n 0, 1, 0, 0, 0), (153, .getfield 22, 3, 2, 2, 2031), (156, .iload 7, 2, 0, 0, 0), (158, .aload 9, 2, 0, 0, 0), (160, .invokevirtual 120, 3, 119, 2, 5001), (163, .istore 10, 2, 0, 0, 0), (165, .iload 11, 2, 0, 0, 0), (167, .aload_n 1, 1, 0, 0, 0), (168, .getfield 78, 3, 5, 0, 1109), (171, .iload 11, 2, 0, 0, 0), (173, .invokevirtual 124, 3, 68, 1, 5010), (176, .iconst 1, 1, 0, 0, 0), (177, .isub, 1, 0, 0, 0), (178, .invokestatic 127, 3, 6, 2, 5011), (181, .istore 11, 2, 0, 0, 0), (183, .goto 45, 3, 228, 0, 0), (186, .aload_n 1, 1, 0, 0, 0), (187, .getfield 78, 3, 5, 0, 1109), (190, .iload 11, 2, 0, 0, 0), (192, .invokevirtual 86, 3, 46, 1, 4154), (195, .istore 12, 2, 0, 0, 0), (197, .iload 12, 2, 0, 0, 0), (199, .ifCond .ge 20, 3, 219, 0, 0), (202, .aload_n 0, 1, 0, 0, 0), (203, .getfield 22, 3, 2, 2, 2031), (206, .iload 4, 2, 0, 0, 0), (208, .iload 11, 2, 0, 0, 0), (210, .iadd, 1, 0, 0, 0), (211, .aload 9, 2, 0, 0, 0), (213, .invokevirtual 120, 3, 119, 2, 5001), (216, .goto 10, 3, 226, 0, 0), (219, .aload 9, 2, 0, 0, 0), (221, .iload 12, 2, 0, 0, 0), (223, .invokevirtual 133, 3, 50, 1, 5012), (226, .istore 10, 2, 0, 0, 0), (228, .iinc 11 1, 3, 0, 0, 0), (231, .goto (-102), 3, 129, 0, 0), (234, .aload_n 0, 1, 0, 0, 0), (235, .getfield 62, 3, 2, 11, 2040), (238, .iconst (-1), 1, 0, 0, 0), (239, .invokestatic 136, 3, 66, 2, 5013), (242, .iload 10, 2, 0, 0, 0), (244, .ifCond .eq 23, 3, 267, 0, 0), (247, .aload_n 0, 1, 0, 0, 0), (248, .aload 9, 2, 0, 0, 0), (250, .aload_n 0, 1, 0, 0, 0), (251, .aload 8, 2, 0, 0, 0), (253, .iconst 0, 1, 0, 0, 0), (254, .invokevirtual 142, 3, 121, 2, 5014), (257, .invokevirtual 142, 3, 121, 2, 5014), (260, .ifCond .lt 7, 3, 267, 0, 0), (263, .iconst 1, 1, 0, 0, 0), (264, .goto 4, 3, 268, 0, 0), (267, .iconst 0, 1, 0, 0, 0), (268, .ireturn, 1, 1, 0, 0)]
/-- OverlapBench$Unifier.clear()V -/
def cd_101 : List (Nat × JI) := [(0, .aload_n 0, 1, 0, 0, 0), (1, .iconst 0, 1, 0, 0, 0), (2, .putfield 11, 3, 9, 0, 1177), (5, .aload_n 0, 1, 0, 0, 0), (6, .getfield 29, 3, 9, 5, 1182), (9, .iconst (-1), 1, 0, 0, 0), (10, .invokestatic 38, 3, 66, 2, 4167), (13, .return_, 1, 0, 0, 0)]
/-- OverlapBench$Unifier.load(LOverlapBench$Term;I)I -/
def cd_102 : List (Nat × JI) := [(0, .aload_n 0, 1, 0, 0, 0), (1, .getfield 11, 3, 9, 0, 1177), (4, .istore_n 3, 1, 0, 0, 0), (5, .iconst 0, 1, 0, 0, 0), (6, .istore 4, 2, 0, 0, 0), (8, .iload 4, 2, 0, 0, 0), (10, .aload_n 1, 1, 0, 0, 0), (11, .getfield 44, 3, 8, 1, 1095), (14, .if_icmp .ge 112, 3, 126, 0, 0), (17, .aload_n 0, 1, 0, 0, 0), (18, .getfield 11, 3, 9, 0, 1177), (21, .ifCond .lt 105, 3, 126, 0, 0), (24, .aload_n 0, 1, 0, 0, 0), (25, .getfield 11, 3, 9, 0, 1177), (28, .sipush 160, 3, 0, 0, 0), (31, .if_icmp .ge 95, 3, 126, 0, 0), (34, .aload_n 1, 1, 0, 0, 0), (35, .iload 4, 2, 0, 0, 0), (37, .invokevirtual 47, 3, 46, 1, 4172), (40, .istore 5, 2, 0, 0, 0), (42, .aload_n 0, 1, 0, 0, 0), (43, .getfield 11, 3, 9, 0, 1177), (46, .istore 6, 2, 0, 0, 0), (48, .aload_n 0, 1, 0, 0, 0), (49, .getfield 15, 3, 9, 1, 1178), (52, .iload 6, 2, 0, 0, 0), (54, .iload 5, 2, 0, 0, 0), (56, .ifCond .ge 10, 3, 66, 0, 0), (59, .iload 5, 2, 0, 0, 0), (61, .iload_n 2, 1, 0, 0, 0), (62, .isub, 1, 0, 0, 0), (63, .goto 5, 3, 68, 0, 0), (66, .iload 5, 2, 0, 0, 0), (68, .iastore, 1, 0, 0, 0), (69, .aload_n 0, 1, 0, 0, 0), (70, .getfield 22, 3, 9, 3, 1180), (73, .iload 6, 2, 0, 0, 0), (75, .iload_n 3, 1, 0, 0, 0), (76, .aload_n 1, 1, 0, 0, 0), (77, .iload 4, 2, 0, 0, 0), (79, .invokevirtual 51, 3, 68, 1, 4173), (82, .iadd, 1, 0, 0, 0), (83, .iastore, 1, 0, 0, 0), (84, .aload_n 0, 1, 0, 0, 0), (85, .getfield 19, 3, 9, 2, 1179), (88, .iload 6, 2, 0, 0, 0), (90, .iload 6, 2, 0, 0, 0), (92, .iastore, 1, 0, 0, 0), (93, .iload 5, 2, 0, 0, 0), (95, .ifCond .ge 15, 3, 110, 0, 0), (98, .aload_n 0, 1, 0, 0, 0), (99, .iload 6, 2, 0, 0, 0), (101, .iload_n 2, 1, 0, 0, 0), (102, .iconst 1, 1, 0, 0, 0), (103, .isub, 1, 0, 0, 0), (104, .iload 5, 2, 0, 0, 0), (106, .isub, 1, 0, 0, 0), (107, .invokevirtual 54, 3, 103, 2, 4174), (110, .aload_n 0, 1, 0, 0, 0), (111, .dup, 1, 0, 0, 0), (112, .getfield 11, 3, 9, 0, 1177), (115, .iconst 1, 1, 0, 0, 0), (116, .iadd, 1, 0, 0, 0), (117, .putfield 11, 3, 9, 0, 1177), (120, .iinc 4 1, 3, 0, 0, 0), (123, .goto (-115), 3, 8, 0, 0), (126, .iload_n 3, 1, 0, 0, 0), (127, .ireturn, 1, 0, 0, 0)]
/-- OverlapBench$Unifier.shareVariable(II)V -/
def cd_103 : List (Nat × JI) := [(0, .iload_n 2, 1, 0, 0, 0), (1, .ifCond .lt 52, 3, 53, 0, 0), (4, .iload_n 2, 1, 0, 0, 0), (5, .aload_n 0, 1, 0, 0, 0), (6, .getfield 29, 3, 9, 5, 1182), (9, .arraylength, 1, 0, 0, 0), (10, .if_icmp .ge 43, 3, 53, 0, 0), (13, .iload_n 1, 1, 0, 0, 0), (14, .ifCond .lt 39, 3, 53, 0, 0), (17, .iload_n 1, 1, 0, 0, 0), (18, .sipush 160, 3, 0, 0, 0), (21, .if_icmp .ge 32, 3, 53, 0, 0), (24, .aload_n 0, 1, 0, 0, 0), (25, .getfield 29, 3, 9, 5, 1182), (28, .iload_n 2, 1, 0, 0, 0), (29, .iaload, 1, 0, 0, 0), (30, .iconst (-1), 1, 0, 0, 0), (31, .if_icmp .ne 10, 3, 41, 0, 0), (34, .aload_n 0, 1, 0, 0, 0), (35, .getfield 29, 3, 9, 5, 1182), (38, .iload_n 2, 1, 0, 0, 0), (39, .iload_n 1, 1, 0, 0, 0), (40, .iastore, 1, 0, 0, 0), (41, .aload_n 0, 1, 0, 0, 0), (42, .getfield 19, 3, 9, 2, 1179), (45, .iload_n 1, 1, 0, 0, 0), (46, .aload_n 0, 1, 0, 0, 0), (47, .getfield 29, 3, 9, 5, 1182), (50, .iload_n 2, 1, 0, 0, 0), (51, .iaload, 1, 0, 0, 0), (52, .iastore, 1, 0, 0, 0), (53, .return_, 1, 0, 0, 0)]
/-- OverlapBench$Unifier.solve(II)Z -/
def cd_104 : List (Nat × JI) := [(0, .aload_n 0, 1, 0, 0, 0), (1, .iload_n 1, 1, 0, 0, 0), (2, .iload_n 2, 1, 0, 0, 0), (3, .invokevirtual 69, 3, 105, 2, 4182), (6, .ifCond .eq 14, 3, 20, 0, 0), (9, .aload_n 0, 1, 0, 0, 0), (10, .invokevirtual 72, 3, 113, 0, 4216), (13, .ifCond .eq 7, 3, 20, 0, 0), (16, .iconst 1, 1, 0, 0, 0), (17, .goto 4, 3, 21, 0, 0), (20, .iconst 0, 1, 0, 0, 0), (21, .ireturn, 1, 1, 0, 0)]
/-- OverlapBench$Unifier.merge(II)Z -/
def cd_105 : List (Nat × JI) := [(0, .aload_n 0, 1, 0, 0, 0), (1, .iconst 0, 1, 0, 0, 0), (2, .putfield 35, 3, 9, 7, 1184), (5, .aload_n 0, 1, 0, 0, 0), (6, .iload_n 1, 1, 0, 0, 0), (7, .invokevirtual 76, 3, 106, 1, 4186), (10, .aload_n 0, 1, 0, 0, 0), (11, .iload_n 2, 1, 0, 0, 0), (12, .invokevirtual 76, 3, 106, 1, 4186), (15, .iconst 0, 1, 0, 0, 0), (16, .istore_n 3, 1, 0, 0, 0), (17, .iload_n 3, 1, 0, 0, 0), (18, .sipush 962, 3, 0, 0, 0), (21, .if_icmp .ge 121, 3, 142, 0, 0), (24, .aload_n 0, 1, 0, 0, 0), (25, .getfield 35, 3, 9, 7, 1184), (28, .iconst 1, 1, 0, 0, 0), (29, .if_icmp .le 113, 3, 142, 0, 0), (32, .aload_n 0, 1, 0, 0, 0), (33, .aload_n 0, 1, 0, 0, 0), (34, .invokevirtual 80, 3, 107, 0, 4190), (37, .invokevirtual 84, 3, 108, 1, 4194), (40, .istore 4, 2, 0, 0, 0), (42, .aload_n 0, 1, 0, 0, 0), (43, .aload_n 0, 1, 0, 0, 0), (44, .invokevirtual 80, 3, 107, 0, 4190), (47, .invokevirtual 84, 3, 108, 1, 4194), (50, .istore 5, 2, 0, 0, 0), (52, .iload 4, 2, 0, 0, 0), (54, .iload 5, 2, 0, 0, 0), (56, .if_icmp .eq 80, 3, 136, 0, 0), (59, .aload_n 0, 1, 0, 0, 0), (60, .iload 4, 2, 0, 0, 0), (62, .invokevirtual 87, 3, 109, 1, 4198), (65, .istore 6, 2, 0, 0, 0), (67, .aload_n 0, 1, 0, 0, 0), (68, .iload 5, 2, 0, 0, 0), (70, .invokevirtual 87, 3, 109, 1, 4198), (73, .istore 7, 2, 0, 0, 0), (75, .iload 6, 2, 0, 0, 0), (77, .ifCond .lt 17, 3, 94, 0, 0), (80, .iload 7, 2, 0, 0, 0), (82, .ifCond .lt 12, 3, 94, 0, 0), (85, .iload 6, 2, 0, 0, 0), (87, .iload 7, 2, 0, 0, 0), (89, .if_icmp .eq 5, 3, 94, 0, 0), (92, .iconst 0, 1, 0, 0, 0), (93, .ireturn, 1, 1, 0, 0), (94, .iload 6, 2, 0, 0, 0), (96, .ifCond .ge 14, 3, 110, 0, 0), (99, .aload_n 0, 1, 0, 0, 0), (100, .iload 4, 2, 0, 0, 0), (102, .iload 5, 2, 0, 0, 0), (104, .invokevirtual 90, 3, 110, 2, 4203), (107, .goto 11, 3, 118, 0, 0), (110, .aload_n 0, 1, 0, 0, 0), (111, .iload 5, 2, 0, 0, 0), (113, .iload 4, 2, 0, 0, 0), (115, .invokevirtual 90, 3, 110, 2, 4203), (118, .iload 6, 2, 0, 0, 0), (120, .ifCond .lt 16, 3, 136, 0, 0), (123, .iload 7, 2, 0, 0, 0), (125, .ifCond .lt 11, 3, 136, 0, 0), (128, .aload_n 0, 1, 0, 0, 0), (129, .iload 4, 2, 0, 0, 0), (131, .iload 5, 2, 0, 0, 0), (133, .invokevirtual 93, 3, 111, 2, 4207), (136, .iinc 3 1, 3, 0, 0, 0), (139, .goto (-122), 3, 17, 0, 0), (142, .iconst 1, 1, 0, 0, 0), (143, .ireturn, 1, 1, 0, 0)]
/-- OverlapBench$Unifier.push(I)V -/
def cd_106 : List (Nat × JI) := [(0, .aload_n 0, 1, 0, 0, 0), (1, .getfield 35, 3, 9, 7, 1184), (4, .ifCond .lt 33, 3, 37, 0, 0), (7, .aload_n 0, 1, 0, 0, 0), (8, .getfield 35, 3, 9, 7, 1184), (11, .sipush 962, 3, 0, 0, 0), (14, .if_icmp .ge 23, 3, 37, 0, 0), (17, .aload_n 0, 1, 0, 0, 0), (18, .getfield 32, 3, 9, 6, 1183), (21, .aload_n 0, 1, 0, 0, 0), (22, .getfield 35, 3, 9, 7, 1184), (25, .iload_n 1, 1, 0, 0, 0), (26, .iastore, 1, 0, 0, 0), (27, .aload_n 0, 1, 0, 0, 0), (28, .dup, 1, 0, 0, 0), (29, .getfield 35, 3, 9, 7, 1184), (32, .iconst 1, 1, 0, 0, 0), (33, .iadd, 1, 0, 0, 0), (34, .putfield 35, 3, 9, 7, 1184), (37, .return_, 1, 0, 0, 0)]
/-- OverlapBench$Unifier.pop()I -/
def cd_107 : List (Nat × JI) := [(0, .aload_n 0, 1, 0, 0, 0), (1, .getfield 35, 3, 9, 7, 1184), (4, .ifCond .le 13, 3, 17, 0, 0), (7, .aload_n 0, 1, 0, 0, 0), (8, .getfield 35, 3, 9, 7, 1184), (11, .sipush 962, 3, 0, 0, 0), (14, .if_icmp .le 5, 3, 19, 0, 0), (17, .iconst (-1), 1, 0, 0, 0), (18, .ireturn, 1, 0, 0, 0), (19, .aload_n 0, 1, 0, 0, 0), (20, .dup, 1, 0, 0, 0), (21, .getfield 35, 3, 9, 7, 1184), (24, .iconst 1, 1, 0, 0, 0), (25, .isub, 1, 0, 0, 0), (26, .putfield 35, 3, 9, 7, 1184), (29, .aload_n 0, 1, 0, 0, 0), (30, .getfield 32, 3, 9, 6, 1183), (33, .aload_n 0, 1, 0, 0, 0), (34, .getfield 35, 3, 9, 7, 1184), (37, .iaload, 1, 0, 0, 0), (38, .ireturn, 1, 0, 0, 0)]
/-- OverlapBench$Unifier.root(I)I -/
def cd_108 : List (Nat × JI) := [(0, .iload_n 1, 1, 0, 0, 0), (1, .istore_n 2, 1, 0, 0, 0), (2, .iconst 0, 1, 0, 0, 0), (3, .istore_n 3, 1, 0, 0, 0), (4, .iload_n 3, 1, 0, 0, 0), (5, .sipush 160, 3, 0, 0, 0), (8, .if_icmp .ge 39, 3, 47, 0, 0), (11, .iload_n 2, 1, 0, 0, 0), (12, .ifCond .lt 20, 3, 32, 0, 0), (15, .iload_n 2, 1, 0, 0, 0), (16, .sipush 160, 3, 0, 0, 0), (19, .if_icmp .ge 13, 3, 32, 0, 0), (22, .aload_n 0, 1, 0, 0, 0), (23, .getfield 19, 3, 9, 2, 1179), (26, .iload_n 2, 1, 0, 0, 0), (27, .iaload, 1, 0, 0, 0), (28, .iload_n 2, 1, 0, 0, 0), (29, .if_icmp .ne 5, 3, 34, 0, 0), (32, .iload_n 2, 1, 0, 0, 0), (33, .ireturn, 1, 0, 0, 0), (34, .aload_n 0, 1, 0, 0, 0), (35, .getfield 19, 3, 9, 2, 1179), (38, .iload_n 2, 1, 0, 0, 0), (39, .iaload, 1, 0, 0, 0), (40, .istore_n 2, 1, 0, 0, 0), (41, .iinc 3 1, 3, 0, 0, 0), (44, .goto (-40), 3, 4, 0, 0), (47, .iload_n 2, 1, 0, 0, 0), (48, .ireturn, 1, 0, 0, 0)]
/-- OverlapBench$Unifier.label(I)I -/
def cd_109 : List (Nat × JI) := [(0, .iload_n 1, 1, 0, 0, 0), (1, .ifCond .lt 19, 3, 20, 0, 0), (4, .iload_n 1, 1, 0, 0, 0), (5, .sipush 160, 3, 0, 0, 0), (8, .if_icmp .ge 12, 3, 20, 0, 0), (11, .aload_n 0, 1, 0, 0, 0), (12, .getfield 15, 3, 9, 1, 1178), (15, .iload_n 1, 1, 0, 0, 0), (16, .iaload, 1, 0, 0, 0), (17, .goto 5, 3, 22, 0, 0), (20, .ldc 116, 2, 0, 0, 4202), (22, .ireturn, 1, 0, 0, 0)]
/-- OverlapBench$Unifier.hang(II)V -/
def cd_110 : List (Nat × JI) := [(0, .iload_n 1, 1, 0, 0, 0), (1, .ifCond .lt 17, 3, 18, 0, 0), (4, .iload_n 1, 1, 0, 0, 0), (5, .sipush 160, 3, 0, 0, 0), (8, .if_icmp .ge 10, 3, 18, 0, 0), (11, .aload_n 0, 1, 0, 0, 0), (12, .getfield 19, 3, 9, 2, 1179), (15, .iload_n 1, 1, 0, 0, 0), (16, .iload_n 2, 1, 0, 0, 0), (17, .iastore, 1, 0, 0, 0), (18, .return_, 1, 0, 0, 0)]
/-- OverlapBench$Unifier.pushArguments(II)V -/
def cd_111 : List (Nat × JI) := [(0, .iload_n 1, 1, 0, 0, 0), (1, .iconst 1, 1, 0, 0, 0), (2, .iadd, 1, 0, 0, 0), (3, .istore_n 3, 1, 0, 0, 0), (4, .iload_n 2, 1, 0, 0, 0), (5, .iconst 1, 1, 0, 0, 0), (6, .iadd, 1, 0, 0, 0), (7, .istore 4, 2, 0, 0, 0), (9, .aload_n 0, 1, 0, 0, 0), (10, .iload_n 1, 1, 0, 0, 0), (11, .invokevirtual 87, 3, 109, 1, 4198), (14, .invokestatic 96, 3, 51, 1, 4211), (17, .istore 5, 2, 0, 0, 0), (19, .iload 5, 2, 0, 0, 0), (21, .ifCond .le 34, 3, 55, 0, 0), (24, .aload_n 0, 1, 0, 0, 0), (25, .iload_n 3, 1, 0, 0, 0), (26, .invokevirtual 76, 3, 106, 1, 4186), (29, .aload_n 0, 1, 0, 0, 0), (30, .iload 4, 2, 0, 0, 0), (32, .invokevirtual 76, 3, 106, 1, 4186), (35, .aload_n 0, 1, 0, 0, 0), (36, .iload_n 3, 1, 0, 0, 0), (37, .invokevirtual 99, 3, 112, 1, 4212), (40, .istore_n 3, 1, 0, 0, 0), (41, .aload_n 0, 1, 0, 0, 0), (42, .iload 4, 2, 0, 0, 0), (44, .invokevirtual 99, 3, 112, 1, 4212), (47, .istore 4, 2, 0, 0, 0), (49, .iinc 5 (-1), 3, 0, 0, 0), (52, .goto (-33), 3, 19, 0, 0), (55, .return_, 1, 0, 0, 0)]
/-- OverlapBench$Unifier.end(I)I -/
def cd_112 : List (Nat × JI) := [(0, .iload_n 1, 1, 0, 0, 0), (1, .ifCond .lt 19, 3, 20, 0, 0), (4, .iload_n 1, 1, 0, 0, 0), (5, .sipush 160, 3, 0, 0, 0), (8, .if_icmp .ge 12, 3, 20, 0, 0), (11, .aload_n 0, 1, 0, 0, 0), (12, .getfield 22, 3, 9, 3, 1180), (15, .iload_n 1, 1, 0, 0, 0), (16, .iaload, 1, 0, 0, 0), (17, .goto 6, 3, 23, 0, 0), (20, .sipush 160, 3, 0, 0, 0), (23, .ireturn, 1, 0, 0, 0)]
/-- OverlapBench$Unifier.isFinite()Z -/
def cd_113 : List (Nat × JI) := [(0, .iconst 0, 1, 0, 0, 0), (1, .istore_n 1, 1, 0, 0, 0), (2, .iload_n 1, 1, 0, 0, 0), (3, .sipush 160, 3, 0, 0, 0), (6, .if_icmp .ge 16, 3, 22, 0, 0), (9, .aload_n 0, 1, 0, 0, 0), (10, .getfield 25, 3, 9, 4, 1181), (13, .iload_n 1, 1, 0, 0, 0), (14, .iconst 0, 1, 0, 0, 0), (15, .bastore, 1, 0, 0, 0), (16, .iinc 1 1, 3, 0, 0, 0), (19, .goto (-17), 3, 2, 0, 0), (22, .aload_n 0, 1, 0, 0, 0), (23, .getfield 11, 3, 9, 0, 1177), (26, .istore_n 1, 1, 0, 0, 0), (27, .iconst 1, 1, 0, 0, 0), (28, .istore_n 2, 1, 0, 0, 0), (29, .iconst 0, 1, 0, 0, 0), (30, .istore_n 3, 1, 0, 0, 0), (31, .iload_n 3, 1, 0, 0, 0), (32, .aload_n 0, 1, 0, 0, 0), (33, .getfield 11, 3, 9, 0, 1177), (36, .if_icmp .gt 63, 3, 99, 0, 0), (39, .iload_n 2, 1, 0, 0, 0), (40, .ifCond .eq 59, 3, 99, 0, 0), (43, .iconst 0, 1, 0, 0, 0), (44, .istore_n 2, 1, 0, 0, 0), (45, .aload_n 0, 1, 0, 0, 0), (46, .getfield 11, 3, 9, 0, 1177), (49, .iconst 1, 1, 0, 0, 0), (50, .isub, 1, 0, 0, 0), (51, .istore 4, 2, 0, 0, 0), (53, .iload 4, 2, 0, 0, 0), (55, .ifCond .lt 38, 3, 93, 0, 0), (58, .aload_n 0, 1, 0, 0, 0), (59, .iload 4, 2, 0, 0, 0), (61, .invokevirtual 100, 3, 114, 1, 4220), (64, .ifCond .ne 23, 3, 87, 0, 0), (67, .aload_n 0, 1, 0, 0, 0), (68, .iload 4, 2, 0, 0, 0), (70, .invokevirtual 104, 3, 115, 1, 4224), (73, .ifCond .eq 14, 3, 87, 0, 0), (76, .aload_n 0, 1, 0, 0, 0), (77, .iload 4, 2, 0, 0, 0), (79, .invokevirtual 107, 3, 116, 1, 4228), (82, .iinc 1 (-1), 3, 0, 0, 0), (85, .iconst 1, 1, 0, 0, 0), (86, .istore_n 2, 1, 0, 0, 0), (87, .iinc 4 (-1), 3, 0, 0, 0), (90, .goto (-37), 3, 53, 0, 0), (93, .iinc 3 1, 3, 0, 0, 0), (96, .goto (-65), 3, 31, 0, 0), (99, .iload_n 1, 1, 0, 0, 0), (100, .ifCond .ne 7, 3, 107, 0, 0), (103, .iconst 1, 1, 0, 0, 0), (104, .goto 4, 3, 108, 0, 0), (107, .iconst 0, 1, 0, 0, 0), (108, .ireturn, 1, 1, 0, 0)]
/-- OverlapBench$Unifier.isSettled(I)Z -/
def cd_114 : List (Nat × JI) := [(0, .iload_n 1, 1, 0, 0, 0), (1, .ifCond .lt 23, 3, 24, 0, 0), (4, .iload_n 1, 1, 0, 0, 0), (5, .sipush 160, 3, 0, 0, 0), (8, .if_icmp .ge 16, 3, 24, 0, 0), (11, .aload_n 0, 1, 0, 0, 0), (12, .getfield 25, 3, 9, 4, 1181), (15, .iload_n 1, 1, 0, 0, 0), (16, .baload, 1, 0, 0, 0), (17, .ifCond .eq 7, 3, 24, 0, 0), (20, .iconst 1, 1, 0, 0, 0), (21, .goto 4, 3, 25, 0, 0), (24, .iconst 0, 1, 0, 0, 0), (25, .ireturn, 1, 1, 0, 0)]
/-- OverlapBench$Unifier.settles(I)Z -/
def cd_115 : List (Nat × JI) := [(0, .aload_n 0, 1, 0, 0, 0), (1, .iload_n 1, 1, 0, 0, 0), (2, .invokevirtual 84, 3, 108, 1, 4194), (5, .istore_n 2, 1, 0, 0, 0), (6, .iload_n 2, 1, 0, 0, 0), (7, .iload_n 1, 1, 0, 0, 0), (8, .if_icmp .eq 9, 3, 17, 0, 0), (11, .aload_n 0, 1, 0, 0, 0), (12, .iload_n 2, 1, 0, 0, 0), (13, .invokevirtual 100, 3, 114, 1, 4220), (16, .ireturn, 1, 1, 0, 0), (17, .iload_n 1, 1, 0, 0, 0), (18, .iconst 1, 1, 0, 0, 0), (19, .iadd, 1, 0, 0, 0), (20, .istore_n 3, 1, 0, 0, 0), (21, .aload_n 0, 1, 0, 0, 0), (22, .iload_n 1, 1, 0, 0, 0), (23, .invokevirtual 87, 3, 109, 1, 4198), (26, .invokestatic 96, 3, 51, 1, 4211), (29, .istore 4, 2, 0, 0, 0), (31, .iload 4, 2, 0, 0, 0), (33, .ifCond .le 29, 3, 62, 0, 0), (36, .aload_n 0, 1, 0, 0, 0), (37, .aload_n 0, 1, 0, 0, 0), (38, .iload_n 3, 1, 0, 0, 0), (39, .invokevirtual 84, 3, 108, 1, 4194), (42, .invokevirtual 100, 3, 114, 1, 4220), (45, .ifCond .ne 5, 3, 50, 0, 0), (48, .iconst 0, 1, 0, 0, 0), (49, .ireturn, 1, 1, 0, 0), (50, .aload_n 0, 1, 0, 0, 0), (51, .iload_n 3, 1, 0, 0, 0), (52, .invokevirtual 99, 3, 112, 1, 4212), (55, .istore_n 3, 1, 0, 0, 0), (56, .iinc 4 (-1), 3, 0, 0, 0), (59, .goto (-28), 3, 31, 0, 0), (62, .iconst 1, 1, 0, 0, 0), (63, .ireturn, 1, 1, 0, 0)]
/-- OverlapBench$Unifier.settle(I)V -/
def cd_116 : List (Nat × JI) := [(0, .iload_n 1, 1, 0, 0, 0), (1, .ifCond .lt 17, 3, 18, 0, 0), (4, .iload_n 1, 1, 0, 0, 0), (5, .sipush 160, 3, 0, 0, 0), (8, .if_icmp .ge 10, 3, 18, 0, 0), (11, .aload_n 0, 1, 0, 0, 0), (12, .getfield 25, 3, 9, 4, 1181), (15, .iload_n 1, 1, 0, 0, 0), (16, .iconst 1, 1, 0, 0, 0), (17, .bastore, 1, 0, 0, 0), (18, .return_, 1, 0, 0, 0)]
/-- OverlapBench$PairList.firstTerm(I)LOverlapBench$Term; -/
def cd_117 : List (Nat × JI) := [(0, .aload_n 0, 1, 0, 0, 0), (1, .iload_n 1, 1, 0, 0, 0), (2, .invokevirtual 65, 3, 99, 1, 4155), (5, .ifCond .eq 12, 3, 17, 0, 0), (8, .aload_n 0, 1, 0, 0, 0), (9, .getfield 48, 3, 2, 8, 2037), (12, .iload_n 1, 1, 0, 0, 0), (13, .aaload, 1, 0, 0, 0), (14, .goto 7, 3, 21, 0, 0), (17, .aload_n 0, 1, 0, 0, 0), (18, .getfield 58, 3, 2, 10, 2039), (21, .astore_n 2, 1, 0, 0, 0), (22, .aload_n 2, 1, 0, 0, 0), (23, .ifnonnull 10, 3, 33, 0, 0), (26, .aload_n 0, 1, 0, 0, 0), (27, .getfield 58, 3, 2, 10, 2039), (30, .goto 4, 3, 34, 0, 0), (33, .aload_n 2, 1, 0, 0, 0), (34, .areturn, 1, 0, 0, 0)]
/-- OverlapBench$PairList.secondTerm(I)LOverlapBench$Term; -/
def cd_118 : List (Nat × JI) := [(0, .aload_n 0, 1, 0, 0, 0), (1, .iload_n 1, 1, 0, 0, 0), (2, .invokevirtual 65, 3, 99, 1, 4155), (5, .ifCond .eq 12, 3, 17, 0, 0), (8, .aload_n 0, 1, 0, 0, 0), (9, .getfield 52, 3, 2, 9, 2038), (12, .iload_n 1, 1, 0, 0, 0), (13, .aaload, 1, 0, 0, 0), (14, .goto 7, 3, 21, 0, 0), (17, .aload_n 0, 1, 0, 0, 0), (18, .getfield 58, 3, 2, 10, 2039), (21, .astore_n 2, 1, 0, 0, 0), (22, .aload_n 2, 1, 0, 0, 0), (23, .ifnonnull 10, 3, 33, 0, 0), (26, .aload_n 0, 1, 0, 0, 0), (27, .getfield 58, 3, 2, 10, 2039), (30, .goto 4, 3, 34, 0, 0), (33, .aload_n 2, 1, 0, 0, 0), (34, .areturn, 1, 0, 0, 0)]
/-- OverlapBench$Unifier.expand(ILOverlapBench$Term;)Z -/
def cd_119 : List (Nat × JI) := [(0, .aload_n 0, 1, 0, 0, 0), (1, .iconst 0, 1, 0, 0, 0), (2, .putfield 35, 3, 9, 7, 1184), (5, .aload_n 0, 1, 0, 0, 0), (6, .iload_n 1, 1, 0, 0, 0), (7, .invokevirtual 76, 3, 106, 1, 4186), (10, .iconst 0, 1, 0, 0, 0), (11, .istore_n 3, 1, 0, 0, 0), (12, .iload_n 3, 1, 0, 0, 0), (13, .bipush 80, 2, 0, 0, 0), (15, .if_icmp .gt 47, 3, 62, 0, 0), (18, .aload_n 0, 1, 0, 0, 0), (19, .getfield 35, 3, 9, 7, 1184), (22, .ifCond .le 40, 3, 62, 0, 0), (25, .aload_n 0, 1, 0, 0, 0), (26, .aload_n 0, 1, 0, 0, 0), (27, .invokevirtual 80, 3, 107, 0, 4190), (30, .invokevirtual 84, 3, 108, 1, 4194), (33, .istore 4, 2, 0, 0, 0), (35, .aload_n 2, 1, 0, 0, 0), (36, .aload_n 0, 1, 0, 0, 0), (37, .iload 4, 2, 0, 0, 0), (39, .invokevirtual 87, 3, 109, 1, 4198), (42, .invokevirtual 110, 3, 50, 1, 5005), (45, .ifCond .ne 5, 3, 50, 0, 0), (48, .iconst 0, 1, 0, 0, 0), (49, .ireturn, 1, 1, 0, 0), (50, .aload_n 0, 1, 0, 0, 0), (51, .iload 4, 2, 0, 0, 0), (53, .invokevirtual 113, 3, 120, 1, 5006), (56, .iinc 3 1, 3, 0, 0, 0), (59, .goto (-47), 3, 12, 0, 0), (62, .aload_n 0, 1, 0, 0, 0), (63, .getfield 35, 3, 9, 7, 1184), (66, .ifCond .ne 7, 3, 73, 0, 0), (69, .iconst 1, 1, 0, 0, 0), (70, .goto 4, 3, 74, 0, 0), (73, .iconst 0, 1, 0, 0, 0), (74, .ireturn, 1, 1, 0, 0)]
/-- OverlapBench$Unifier.pushReversed(I)V -/
def cd_120 : List (Nat × JI) := [(0, .aload_n 0, 1, 0, 0, 0), (1, .iload_n 1, 1, 0, 0, 0), (2, .invokevirtual 87, 3, 109, 1, 4198), (5, .invokestatic 96, 3, 51, 1, 4211), (8, .istore_n 2, 1, 0, 0, 0), (9, .aload_n 0, 1, 0, 0, 0), (10, .iload_n 1, 1, 0, 0, 0), (11, .iconst 1, 1, 0, 0, 0), (12, .iadd, 1, 0, 0, 0), (13, .invokevirtual 99, 3, 112, 1, 4212), (16, .istore_n 3, 1, 0, 0, 0), (17, .iload_n 2, 1, 0, 0, 0), (18, .iconst 2, 1, 0, 0, 0), (19, .if_icmp .le 12, 3, 31, 0, 0), (22, .aload_n 0, 1, 0, 0, 0), (23, .aload_n 0, 1, 0, 0, 0), (24, .iload_n 3, 1, 0, 0, 0), (25, .invokevirtual 99, 3, 112, 1, 4212), (28, .invokevirtual 76, 3, 106, 1, 4186), (31, .iload_n 2, 1, 0, 0, 0), (32, .iconst 1, 1, 0, 0, 0), (33, .if_icmp .le 8, 3, 41, 0, 0), (36, .aload_n 0, 1, 0, 0, 0), (37, .iload_n 3, 1, 0, 0, 0), (38, .invokevirtual 76, 3, 106, 1, 4186), (41, .iload_n 2, 1, 0, 0, 0), (42, .ifCond .le 10, 3, 52, 0, 0), (45, .aload_n 0, 1, 0, 0, 0), (46, .iload_n 1, 1, 0, 0, 0), (47, .iconst 1, 1, 0, 0, 0), (48, .iadd, 1, 0, 0, 0), (49, .invokevirtual 76, 3, 106, 1, 4186), (52, .return_, 1, 0, 0, 0)]
/-- OverlapBench$PairList.nameVariables(LOverlapBench$Term;I)I -/
def cd_121 : List (Nat × JI) := [(0, .iload_n 2, 1, 0, 0, 0), (1, .istore_n 3, 1, 0, 0, 0), (2, .iconst 0, 1, 0, 0, 0), (3, .istore 4, 2, 0, 0, 0), (5, .iload 4, 2, 0, 0, 0), (7, .aload_n 1, 1, 0, 0, 0), (8, .getfield 83, 3, 8, 1, 1099), (11, .if_icmp .ge 73, 3, 84, 0, 0), (14, .aload_n 1, 1, 0, 0, 0), (15, .iload 4, 2, 0, 0, 0), (17, .invokevirtual 86, 3, 46, 1, 4154), (20, .invokestatic 145, 3, 122, 1, 5018), (23, .istore 5, 2, 0, 0, 0), (25, .iload 5, 2, 0, 0, 0), (27, .ifCond .lt 51, 3, 78, 0, 0), (30, .iload 5, 2, 0, 0, 0), (32, .aload_n 0, 1, 0, 0, 0), (33, .getfield 62, 3, 2, 11, 2040), (36, .arraylength, 1, 0, 0, 0), (37, .if_icmp .ge 41, 3, 78, 0, 0), (40, .aload_n 0, 1, 0, 0, 0), (41, .getfield 62, 3, 2, 11, 2040), (44, .iload 5, 2, 0, 0, 0), (46, .iaload, 1, 0, 0, 0), (47, .iconst (-1), 1, 0, 0, 0), (48, .if_icmp .ne 14, 3, 62, 0, 0), (51, .aload_n 0, 1, 0, 0, 0), (52, .getfield 62, 3, 2, 11, 2040), (55, .iload 5, 2, 0, 0, 0), (57, .iload_n 3, 1, 0, 0, 0), (58, .iastore, 1, 0, 0, 0), (59, .iinc 3 1, 3, 0, 0, 0), (62, .aload_n 1, 1, 0, 0, 0), (63, .iload 4, 2, 0, 0, 0), (65, .aload_n 0, 1, 0, 0, 0), (66, .getfield 62, 3, 2, 11, 2040), (69, .iload 5, 2, 0, 0, 0), (71, .iaload, 1, 0, 0, 0), (72, .invokestatic 148, 3, 44, 1, 5021), (75, .invokevirtual 151, 3, 123, 2, 5022), (78, .iinc 4 1, 3, 0, 0, 0), (81, .goto (-76), 3, 5, 0, 0), (84, .iload_n 3, 1, 0, 0, 0), (85, .ireturn, 1, 0, 0, 0)]
/-- OverlapBench$Term.variableOf(I)I -/
def cd_122 : List (Nat × JI) := [(0, .iload_n 0, 1, 0, 0, 0), (1, .ifCond .ge 9, 3, 10, 0, 0), (4, .iconst (-1), 1, 0, 0, 0), (5, .iload_n 0, 1, 0, 0, 0), (6, .isub, 1, 0, 0, 0), (7, .goto 4, 3, 11, 0, 0), (10, .iconst (-1), 1, 0, 0, 0), (11, .ireturn, 1, 0, 0, 0)]
/-- OverlapBench$Term.set(II)V -/
def cd_123 : List (Nat × JI) := [(0, .iload_n 1, 1, 0, 0, 0), (1, .ifCond .lt 27, 3, 28, 0, 0), (4, .iload_n 1, 1, 0, 0, 0), (5, .aload_n 0, 1, 0, 0, 0), (6, .getfield 9, 3, 8, 1, 1093), (9, .if_icmp .ge 19, 3, 28, 0, 0), (12, .iload_n 1, 1, 0, 0, 0), (13, .aload_n 0, 1, 0, 0, 0), (14, .getfield 21, 3, 8, 0, 1092), (17, .arraylength, 1, 0, 0, 0), (18, .if_icmp .ge 10, 3, 28, 0, 0), (21, .aload_n 0, 1, 0, 0, 0), (22, .getfield 21, 3, 8, 0, 1092), (25, .iload_n 1, 1, 0, 0, 0), (26, .iload_n 2, 1, 0, 0, 0), (27, .iastore, 1, 0, 0, 0), (28, .return_, 1, 0, 0, 0)]
/-- OverlapBench$PairList.keep(III)V -/
def cd_124 : List (Nat × JI) := [(0, .aload_n 0, 1, 0, 0, 0), (1, .aload_n 0, 1, 0, 0, 0), (2, .getfield 15, 3, 2, 1, 2029), (5, .invokevirtual 65, 3, 99, 1, 4155), (8, .ifCond .eq 53, 3, 61, 0, 0), (11, .aload_n 0, 1, 0, 0, 0), (12, .getfield 33, 3, 2, 4, 2033), (15, .aload_n 0, 1, 0, 0, 0), (16, .getfield 15, 3, 2, 1, 2029), (19, .iload_n 1, 1, 0, 0, 0), (20, .iastore, 1, 0, 0, 0), (21, .aload_n 0, 1, 0, 0, 0), (22, .getfield 37, 3, 2, 5, 2034), (25, .aload_n 0, 1, 0, 0, 0), (26, .getfield 15, 3, 2, 1, 2029), (29, .iload_n 2, 1, 0, 0, 0), (30, .iastore, 1, 0, 0, 0), (31, .aload_n 0, 1, 0, 0, 0), (32, .getfield 40, 3, 2, 6, 2035), (35, .aload_n 0, 1, 0, 0, 0), (36, .getfield 15, 3, 2, 1, 2029), (39, .iload_n 3, 1, 0, 0, 0), (40, .iastore, 1, 0, 0, 0), (41, .aload_n 0, 1, 0, 0, 0), (42, .getfield 43, 3, 2, 7, 2036), (45, .aload_n 0, 1, 0, 0, 0), (46, .getfield 15, 3, 2, 1, 2029), (49, .iconst 0, 1, 0, 0, 0), (50, .iastore, 1, 0, 0, 0), (51, .aload_n 0, 1, 0, 0, 0), (52, .dup, 1, 0, 0, 0), (53, .getfield 15, 3, 2, 1, 2029), (56, .iconst 1, 1, 0, 0, 0), (57, .iadd, 1, 0, 0, 0), (58, .putfield 15, 3, 2, 1, 2029), (61, .return_, 1, 0, 0, 0)]
/-- OverlapBench.unjoinedPairs()I -/
def cd_125 : List (Nat × JI) := [(0, .aload_n 0, 1, 0, 0, 0), (1, .invokevirtual 132, 3, 78, 0, 4047), (4, .aload_n 0, 1, 0, 0, 0), (5, .getfield 51, 3, 10, 6, 2111), (8, .aload_n 0, 1, 0, 0, 0), (9, .getfield 23, 3, 10, 2, 2107), (12, .invokevirtual 252, 3, 98, 1, 4149), (15, .iconst 0, 1, 0, 0, 0), (16, .istore_n 1, 1, 0, 0, 0), (17, .iconst 0, 1, 0, 0, 0), (18, .istore_n 2, 1, 0, 0, 0), (19, .iload_n 2, 1, 0, 0, 0), (20, .aload_n 0, 1, 0, 0, 0), (21, .getfield 51, 3, 10, 6, 2111), (24, .getfield 255, 3, 2, 1, 2030), (27, .if_icmp .ge 27, 3, 54, 0, 0), (30, .aload_n 0, 1, 0, 0, 0), (31, .getfield 51, 3, 10, 6, 2111), (34, .aload_n 0, 1, 0, 0, 0), (35, .getfield 23, 3, 10, 2, 2107), (38, .iload_n 2, 1, 0, 0, 0), (39, .invokevirtual 268, 3, 126, 2, 5034), (42, .ifCond .ne 6, 3, 48, 0, 0), (45, .iinc 1 1, 3, 0, 0, 0), (48, .iinc 2 1, 3, 0, 0, 0), (51, .goto (-32), 3, 19, 0, 0), (54, .iload_n 1, 1, 0, 0, 0), (55, .ireturn, 1, 0, 0, 0)]
/-- OverlapBench$PairList.joins(LOverlapBench$State;I)Z -/
def cd_126 : List (Nat × JI) := [(0, .aload_n 0, 1, 0, 0, 0), (1, .iload_n 2, 1, 0, 0, 0), (2, .invokevirtual 65, 3, 99, 1, 4155), (5, .ifCond .ne 5, 3, 10, 0, 0), (8, .iconst 0, 1, 0, 0, 0), (9, .ireturn, 1, 1, 0, 0), (10, .aload_n 0, 1, 0, 0, 0), (11, .getfield 43, 3, 2, 7, 2036), (14, .iload_n 2, 1, 0, 0, 0), (15, .iaload, 1, 0, 0, 0), (16, .ifCond .ne 39, 3, 55, 0, 0), (19, .aload_n 0, 1, 0, 0, 0), (20, .getfield 29, 3, 2, 3, 2032), (23, .aload_n 1, 1, 0, 0, 0), (24, .aload_n 0, 1, 0, 0, 0), (25, .iload_n 2, 1, 0, 0, 0), (26, .invokevirtual 112, 3, 117, 1, 4232), (29, .aload_n 0, 1, 0, 0, 0), (30, .iload_n 2, 1, 0, 0, 0), (31, .invokevirtual 116, 3, 118, 1, 4236), (34, .bipush 50, 2, 0, 0, 0), (36, .invokevirtual 155, 3, 127, 4, 5038), (39, .istore_n 3, 1, 0, 0, 0), (40, .aload_n 0, 1, 0, 0, 0), (41, .getfield 43, 3, 2, 7, 2036), (44, .iload_n 2, 1, 0, 0, 0), (45, .iload_n 3, 1, 0, 0, 0), (46, .ifCond .eq 7, 3, 53, 0, 0), (49, .iconst 1, 1, 0, 0, 0), (50, .goto 4, 3, 54, 0, 0), (53, .iconst 2, 1, 0, 0, 0), (54, .iastore, 1, 0, 0, 0), (55, .aload_n 0, 1, 0, 0, 0), (56, .getfield 43, 3, 2, 7, 2036), (59, .iload_n 2, 1, 0, 0, 0), (60, .iaload, 1, 0, 0, 0), (61, .iconst 1, 1, 0, 0, 0), (62, .if_icmp .ne 7, 3, 69, 0, 0), (65, .iconst 1, 1, 0, 0, 0), (66, .goto 4, 3, 70, 0, 0), (69, .iconst 0, 1, 0, 0, 0), (70, .ireturn, 1, 1, 0, 0)]
/-- OverlapBench$Rewriter.meet(LOverlapBench$State;LOverlapBench$Term;LOverlapBench$Term;I)Z -/
def cd_127 : List (Nat × JI) := [(0, .aload_n 0, 1, 0, 0, 0), (1, .aload_n 1, 1, 0, 0, 0), (2, .aload_n 2, 1, 0, 0, 0), (3, .iconst 1, 1, 0, 0, 0), (4, .iload 4, 2, 0, 0, 0), (6, .invokevirtual 102, 3, 94, 4, 5042), (9, .iconst (-1), 1, 0, 0, 0), (10, .if_icmp .ne 5, 3, 15, 0, 0), (13, .iconst 0, 1, 0, 0, 0), (14, .ireturn, 1, 1, 0, 0), (15, .aload_n 0, 1, 0, 0, 0), (16, .getfield 23, 3, 4, 2, 1160), (19, .aload_n 0, 1, 0, 0, 0), (20, .getfield 20, 3, 4, 1, 1158), (23, .invokevirtual 98, 3, 71, 1, 4136), (26, .aload_n 0, 1, 0, 0, 0), (27, .aload_n 1, 1, 0, 0, 0), (28, .aload_n 3, 1, 0, 0, 0), (29, .iconst 1, 1, 0, 0, 0), (30, .iload 4, 2, 0, 0, 0), (32, .invokevirtual 102, 3, 94, 4, 5042), (35, .iconst (-1), 1, 0, 0, 0), (36, .if_icmp .eq 21, 3, 57, 0, 0), (39, .aload_n 0, 1, 0, 0, 0), (40, .getfield 23, 3, 4, 2, 1160), (43, .aload_n 0, 1, 0, 0, 0), (44, .getfield 20, 3, 4, 1, 1158), (47, .invokevirtual 106, 3, 128, 1, 5043), (50, .ifCond .eq 7, 3, 57, 0, 0), (53, .iconst 1, 1, 0, 0, 0), (54, .goto 4, 3, 58, 0, 0), (57, .iconst 0, 1, 0, 0, 0), (58, .ireturn, 1, 1, 0, 0)]
/-- OverlapBench$Term.sameAs(LOverlapBench$Term;)Z -/
def cd_128 : List (Nat × JI) := [(0, .aload_n 0, 1, 0, 0, 0), (1, .getfield 9, 3, 8, 1, 1093), (4, .aload_n 1, 1, 0, 0, 0), (5, .getfield 9, 3, 8, 1, 1093), (8, .if_icmp .eq 5, 3, 13, 0, 0), (11, .iconst 0, 1, 0, 0, 0), (12, .ireturn, 1, 1, 0, 0), (13, .iconst 0, 1, 0, 0, 0), (14, .istore_n 2, 1, 0, 0, 0), (15, .iload_n 2, 1, 0, 0, 0), (16, .aload_n 0, 1, 0, 0, 0), (17, .getfield 9, 3, 8, 1, 1093), (20, .if_icmp .ge 24, 3, 44, 0, 0), (23, .aload_n 0, 1, 0, 0, 0), (24, .iload_n 2, 1, 0, 0, 0), (25, .invokevirtual 26, 3, 46, 1, 3129), (28, .aload_n 1, 1, 0, 0, 0), (29, .iload_n 2, 1, 0, 0, 0), (30, .invokevirtual 26, 3, 46, 1, 3129), (33, .if_icmp .eq 5, 3, 38, 0, 0), (36, .iconst 0, 1, 0, 0, 0), (37, .ireturn, 1, 1, 0, 0), (38, .iinc 2 1, 3, 0, 0, 0), (41, .goto (-26), 3, 15, 0, 0), (44, .iconst 1, 1, 0, 0, 0), (45, .ireturn, 1, 1, 0, 0)]
/-- OverlapBench.stepInnermost(I)I -/
def cd_129 : List (Nat × JI) := [(0, .aload_n 0, 1, 0, 0, 0), (1, .aload_n 0, 1, 0, 0, 0), (2, .iload_n 1, 1, 0, 0, 0), (3, .invokevirtual 186, 3, 81, 1, 4074), (6, .iconst 1, 1, 0, 0, 0), (7, .invokevirtual 303, 3, 130, 2, 5051), (10, .ireturn, 1, 0, 0, 0)]
/-- OverlapBench.takeStep(LOverlapBench$Term;Z)I -/
def cd_130 : List (Nat × JI) := [(0, .aload_n 0, 1, 0, 0, 0), (1, .getfield 30, 3, 10, 3, 2108), (4, .aload_n 0, 1, 0, 0, 0), (5, .getfield 23, 3, 10, 2, 2107), (8, .aload_n 1, 1, 0, 0, 0), (9, .iload_n 2, 1, 0, 0, 0), (10, .invokevirtual 342, 3, 62, 3, 5055), (13, .istore_n 3, 1, 0, 0, 0), (14, .iload_n 3, 1, 0, 0, 0), (15, .iconst (-1), 1, 0, 0, 0), (16, .if_icmp .ne 11, 3, 27, 0, 0), (19, .new 108, 3, 102, 110, 4008), (22, .dup, 1, 0, 0, 0), (23, .invokespecial 110, 3, 9999, 0, 4017), (26, .athrow, 1, 0, 0, 0), (27, .aload_n 0, 1, 0, 0, 0), (28, .invokevirtual 294, 3, 131, 0, 5056), (31, .aload_n 1, 1, 0, 0, 0), (32, .aload_n 0, 1, 0, 0, 0), (33, .getfield 30, 3, 10, 3, 2108), (36, .getfield 297, 3, 4, 0, 1157), (39, .invokevirtual 300, 3, 71, 1, 5070), (42, .iload_n 3, 1, 0, 0, 0), (43, .ireturn, 1, 0, 0, 0)]
/-- OverlapBench.remember()V -/
def cd_131 : List (Nat × JI) := [(0, .aload_n 0, 1, 0, 0, 0), (1, .getfield 65, 3, 10, 8, 2113), (4, .aload_n 0, 1, 0, 0, 0), (5, .getfield 23, 3, 10, 2, 2107), (8, .invokevirtual 345, 3, 132, 1, 5060), (11, .aload_n 0, 1, 0, 0, 0), (12, .getfield 51, 3, 10, 6, 2111), (15, .iconst 1, 1, 0, 0, 0), (16, .putfield 337, 3, 102, 0, 2028), (19, .return_, 1, 0, 0, 0)]
/-- OverlapBench$History.keep(LOverlapBench$State;)V -/
def cd_132 : List (Nat × JI) := [(0, .aload_n 0, 1, 0, 0, 0), (1, .aload_n 0, 1, 0, 0, 0), (2, .getfield 15, 3, 0, 1, 2094), (5, .iconst 1, 1, 0, 0, 0), (6, .iadd, 1, 0, 0, 0), (7, .bipush 8, 2, 0, 0, 0), (9, .if_icmp .ge 12, 3, 21, 0, 0), (12, .aload_n 0, 1, 0, 0, 0), (13, .getfield 15, 3, 0, 1, 2094), (16, .iconst 1, 1, 0, 0, 0), (17, .iadd, 1, 0, 0, 0), (18, .goto 4, 3, 22, 0, 0), (21, .iconst 0, 1, 0, 0, 0), (22, .putfield 15, 3, 0, 1, 2094), (25, .aload_n 0, 1, 0, 0, 0), (26, .aload_n 0, 1, 0, 0, 0), (27, .getfield 9, 3, 0, 0, 2092), (30, .iconst 1, 1, 0, 0, 0), (31, .iadd, 1, 0, 0, 0), (32, .bipush 8, 2, 0, 0, 0), (34, .invokestatic 25, 3, 72, 2, 5064), (37, .putfield 9, 3, 0, 0, 2092), (40, .aload_n 0, 1, 0, 0, 0), (41, .aload_n 0, 1, 0, 0, 0), (42, .getfield 15, 3, 0, 1, 2094), (45, .invokevirtual 31, 3, 133, 1, 5065), (48, .astore_n 2, 1, 0, 0, 0), (49, .aload_n 2, 1, 0, 0, 0), (50, .ifnull 8, 3, 58, 0, 0), (53, .aload_n 2, 1, 0, 0, 0), (54, .aload_n 1, 1, 0, 0, 0), (55, .invokevirtual 35, 3, 75, 1, 5069), (58, .return_, 1, 0, 0, 0)]
/-- OverlapBench$History.at(I)LOverlapBench$State; -/
def cd_133 : List (Nat × JI) := [(0, .iload_n 1, 1, 0, 0, 0), (1, .ifCond .lt 21, 3, 22, 0, 0), (4, .iload_n 1, 1, 0, 0, 0), (5, .aload_n 0, 1, 0, 0, 0), (6, .getfield 20, 3, 0, 2, 2095), (9, .arraylength, 1, 0, 0, 0), (10, .if_icmp .ge 12, 3, 22, 0, 0), (13, .aload_n 0, 1, 0, 0, 0), (14, .getfield 20, 3, 0, 2, 2095), (17, .iload_n 1, 1, 0, 0, 0), (18, .aaload, 1, 0, 0, 0), (19, .goto 4, 3, 23, 0, 0), (22, .aconst_null, 1, 0, 0, 0), (23, .areturn, 1, 0, 0, 0)]
/-- OverlapBench.stepOutermost(I)I -/
def cd_134 : List (Nat × JI) := [(0, .aload_n 0, 1, 0, 0, 0), (1, .aload_n 0, 1, 0, 0, 0), (2, .iload_n 1, 1, 0, 0, 0), (3, .invokevirtual 186, 3, 81, 1, 4074), (6, .iconst 0, 1, 0, 0, 0), (7, .invokevirtual 303, 3, 130, 2, 5051), (10, .ireturn, 1, 0, 0, 0)]
/-- OverlapBench.normalize(I)I -/
def cd_135 : List (Nat × JI) := [(0, .aload_n 0, 1, 0, 0, 0), (1, .iload_n 1, 1, 0, 0, 0), (2, .invokevirtual 186, 3, 81, 1, 4074), (5, .astore_n 2, 1, 0, 0, 0), (6, .aload_n 0, 1, 0, 0, 0), (7, .getfield 30, 3, 10, 3, 2108), (10, .aload_n 0, 1, 0, 0, 0), (11, .getfield 23, 3, 10, 2, 2107), (14, .aload_n 2, 1, 0, 0, 0), (15, .iconst 1, 1, 0, 0, 0), (16, .sipush 200, 3, 0, 0, 0), (19, .invokevirtual 230, 3, 94, 4, 4132), (22, .istore_n 3, 1, 0, 0, 0), (23, .iload_n 3, 1, 0, 0, 0), (24, .iconst (-1), 1, 0, 0, 0), (25, .if_icmp .ne 11, 3, 36, 0, 0), (28, .new 108, 3, 102, 110, 4008), (31, .dup, 1, 0, 0, 0), (32, .invokespecial 110, 3, 9999, 0, 4017), (35, .athrow, 1, 0, 0, 0), (36, .aload_n 0, 1, 0, 0, 0), (37, .invokevirtual 294, 3, 131, 0, 5056), (40, .aload_n 2, 1, 0, 0, 0), (41, .aload_n 0, 1, 0, 0, 0), (42, .getfield 30, 3, 10, 3, 2108), (45, .getfield 234, 3, 4, 1, 1159), (48, .invokevirtual 300, 3, 71, 1, 5070), (51, .iload_n 3, 1, 0, 0, 0), (52, .ireturn, 1, 0, 0, 0)]
/-- OverlapBench.copySubterm(II)I -/
def cd_136 : List (Nat × JI) := [(0, .aload_n 0, 1, 0, 0, 0), (1, .iload_n 1, 1, 0, 0, 0), (2, .iload_n 2, 1, 0, 0, 0), (3, .invokevirtual 194, 3, 84, 2, 4087), (6, .astore_n 3, 1, 0, 0, 0), (7, .aload_n 0, 1, 0, 0, 0), (8, .getfield 23, 3, 10, 2, 2107), (11, .getfield 183, 3, 7, 1, 1129), (14, .bipush 6, 2, 0, 0, 0), (16, .if_icmp .lt 11, 3, 27, 0, 0), (19, .new 108, 3, 102, 110, 4008), (22, .dup, 1, 0, 0, 0), (23, .invokespecial 110, 3, 9999, 0, 4017), (26, .athrow, 1, 0, 0, 0), (27, .aload_n 0, 1, 0, 0, 0), (28, .invokevirtual 294, 3, 131, 0, 5056), (31, .aload_n 0, 1, 0, 0, 0), (32, .getfield 23, 3, 10, 2, 2107), (35, .aload_n 3, 1, 0, 0, 0), (36, .iload_n 2, 1, 0, 0, 0), (37, .aload_n 3, 1, 0, 0, 0), (38, .iload_n 2, 1, 0, 0, 0), (39, .invokevirtual 204, 3, 68, 1, 4091), (42, .invokevirtual 307, 3, 56, 3, 5083), (45, .aload_n 0, 1, 0, 0, 0), (46, .getfield 23, 3, 10, 2, 2107), (49, .getfield 183, 3, 7, 1, 1129), (52, .iconst 1, 1, 0, 0, 0), (53, .isub, 1, 0, 0, 0), (54, .ireturn, 1, 0, 0, 0)]
/-- OverlapBench.replaceSubterm(III)I -/
def cd_137 : List (Nat × JI) := [(0, .aload_n 0, 1, 0, 0, 0), (1, .iload_n 1, 1, 0, 0, 0), (2, .iload_n 2, 1, 0, 0, 0), (3, .invokevirtual 194, 3, 84, 2, 4087), (6, .astore 4, 2, 0, 0, 0), (8, .aload_n 0, 1, 0, 0, 0), (9, .iload_n 3, 1, 0, 0, 0), (10, .invokevirtual 186, 3, 81, 1, 4074), (13, .astore 5, 2, 0, 0, 0), (15, .aload_n 0, 1, 0, 0, 0), (16, .getfield 86, 3, 10, 13, 2118), (19, .invokevirtual 245, 3, 41, 0, 5088), (22, .aload_n 0, 1, 0, 0, 0), (23, .getfield 86, 3, 10, 13, 2118), (26, .aload 4, 2, 0, 0, 0), (28, .iconst 0, 1, 0, 0, 0), (29, .iload_n 2, 1, 0, 0, 0), (30, .invokevirtual 310, 3, 57, 3, 5089), (33, .ifCond .eq 48, 3, 81, 0, 0), (36, .aload_n 0, 1, 0, 0, 0), (37, .getfield 86, 3, 10, 13, 2118), (40, .aload 5, 2, 0, 0, 0), (42, .iconst 0, 1, 0, 0, 0), (43, .aload 5, 2, 0, 0, 0), (45, .getfield 170, 3, 8, 1, 1100), (48, .invokevirtual 310, 3, 57, 3, 5089), (51, .ifCond .eq 30, 3, 81, 0, 0), (54, .aload_n 0, 1, 0, 0, 0), (55, .getfield 86, 3, 10, 13, 2118), (58, .aload 4, 2, 0, 0, 0), (60, .aload 4, 2, 0, 0, 0), (62, .iload_n 2, 1, 0, 0, 0), (63, .invokevirtual 204, 3, 68, 1, 4091), (66, .aload 4, 2, 0, 0, 0), (68, .getfield 170, 3, 8, 1, 1100), (71, .invokevirtual 310, 3, 57, 3, 5089), (74, .ifCond .eq 7, 3, 81, 0, 0), (77, .iconst 1, 1, 0, 0, 0), (78, .goto 4, 3, 82, 0, 0), (81, .iconst 0, 1, 0, 0, 0), (82, .istore 6, 2, 0, 0, 0), (84, .iload 6, 2, 0, 0, 0), (86, .ifCond .ne 11, 3, 97, 0, 0), (89, .new 108, 3, 102, 110, 4008), (92, .dup, 1, 0, 0, 0), (93, .invokespecial 110, 3, 9999, 0, 4017), (96, .athrow, 1, 0, 0, 0), (97, .aload_n 0, 1, 0, 0, 0), (98, .invokevirtual 294, 3, 131, 0, 5056), (101, .aload 4, 2, 0, 0, 0), (103, .aload_n 0, 1, 0, 0, 0), (104, .getfield 86, 3, 10, 13, 2118), (107, .invokevirtual 300, 3, 71, 1, 5070), (110, .aload 4, 2, 0, 0, 0), (112, .getfield 170, 3, 8, 1, 1100), (115, .ireturn, 1, 0, 0, 0)]
/-- OverlapBench.swapRules(II)I -/
def cd_138 : List (Nat × JI) := [(0, .aload_n 0, 1, 0, 0, 0), (1, .iload_n 1, 1, 0, 0, 0), (2, .invokevirtual 167, 3, 86, 1, 4096), (5, .astore_n 3, 1, 0, 0, 0), (6, .aload_n 0, 1, 0, 0, 0), (7, .iload_n 2, 1, 0, 0, 0), (8, .invokevirtual 167, 3, 86, 1, 4096), (11, .astore 4, 2, 0, 0, 0), (13, .aload_n 0, 1, 0, 0, 0), (14, .invokevirtual 294, 3, 131, 0, 5056), (17, .aload_n 3, 1, 0, 0, 0), (18, .aload 4, 2, 0, 0, 0), (20, .invokevirtual 314, 3, 139, 1, 5094), (23, .iconst 0, 1, 0, 0, 0), (24, .istore 5, 2, 0, 0, 0), (26, .iconst 0, 1, 0, 0, 0), (27, .istore 6, 2, 0, 0, 0), (29, .iload 6, 2, 0, 0, 0), (31, .aload_n 0, 1, 0, 0, 0), (32, .getfield 23, 3, 10, 2, 2107), (35, .getfield 183, 3, 7, 1, 1129), (38, .if_icmp .ge 34, 3, 72, 0, 0), (41, .iload 5, 2, 0, 0, 0), (43, .aload_n 0, 1, 0, 0, 0), (44, .getfield 30, 3, 10, 3, 2108), (47, .aload_n 0, 1, 0, 0, 0), (48, .getfield 23, 3, 10, 2, 2107), (51, .aload_n 0, 1, 0, 0, 0), (52, .getfield 23, 3, 10, 2, 2107), (55, .iload 6, 2, 0, 0, 0), (57, .invokevirtual 211, 3, 54, 1, 4082), (60, .invokevirtual 222, 3, 89, 2, 4111), (63, .iadd, 1, 0, 0, 0), (64, .istore 5, 2, 0, 0, 0), (66, .iinc 6 1, 3, 0, 0, 0), (69, .goto (-40), 3, 29, 0, 0), (72, .iload 5, 2, 0, 0, 0), (74, .ireturn, 1, 0, 0, 0)]
/-- OverlapBench$Rule.exchange(LOverlapBench$Rule;)V -/
def cd_139 : List (Nat × JI) := [(0, .aload_n 0, 1, 0, 0, 0), (1, .getfield 14, 3, 5, 0, 1106), (4, .astore_n 2, 1, 0, 0, 0), (5, .aload_n 0, 1, 0, 0, 0), (6, .getfield 20, 3, 5, 1, 1111), (9, .astore_n 3, 1, 0, 0, 0), (10, .aload_n 0, 1, 0, 0, 0), (11, .aload_n 1, 1, 0, 0, 0), (12, .getfield 14, 3, 5, 0, 1106), (15, .putfield 14, 3, 205, 0, 1106), (18, .aload_n 0, 1, 0, 0, 0), (19, .aload_n 1, 1, 0, 0, 0), (20, .getfield 20, 3, 5, 1, 1111), (23, .putfield 20, 3, 205, 1, 1111), (26, .aload_n 1, 1, 0, 0, 0), (27, .aload_n 2, 1, 0, 0, 0), (28, .putfield 14, 3, 205, 0, 1106), (31, .aload_n 1, 1, 0, 0, 0), (32, .aload_n 3, 1, 0, 0, 0), (33, .putfield 20, 3, 205, 1, 1111), (36, .return_, 1, 0, 0, 0)]
/-- OverlapBench.removeTerm(I)I -/
def cd_140 : List (Nat × JI) := [(0, .aload_n 0, 1, 0, 0, 0), (1, .iload_n 1, 1, 0, 0, 0), (2, .invokevirtual 186, 3, 81, 1, 4074), (5, .pop, 1, 0, 0, 0), (6, .aload_n 0, 1, 0, 0, 0), (7, .invokevirtual 294, 3, 131, 0, 5056), (10, .aload_n 0, 1, 0, 0, 0), (11, .getfield 23, 3, 10, 2, 2107), (14, .iload_n 1, 1, 0, 0, 0), (15, .invokevirtual 327, 3, 141, 1, 5102), (18, .aload_n 0, 1, 0, 0, 0), (19, .getfield 23, 3, 10, 2, 2107), (22, .getfield 183, 3, 7, 1, 1129), (25, .ireturn, 1, 0, 0, 0)]
/-- OverlapBench$State.dropTerm(I)V -/
def cd_141 : List (Nat × JI) := [(0, .iload_n 1, 1, 0, 0, 0), (1, .istore_n 2, 1, 0, 0, 0), (2, .iload_n 2, 1, 0, 0, 0), (3, .iconst 1, 1, 0, 0, 0), (4, .iadd, 1, 0, 0, 0), (5, .aload_n 0, 1, 0, 0, 0), (6, .getfield 15, 3, 7, 1, 1127), (9, .if_icmp .ge 24, 3, 33, 0, 0), (12, .aload_n 0, 1, 0, 0, 0), (13, .iload_n 2, 1, 0, 0, 0), (14, .invokevirtual 50, 3, 54, 1, 3174), (17, .aload_n 0, 1, 0, 0, 0), (18, .iload_n 2, 1, 0, 0, 0), (19, .iconst 1, 1, 0, 0, 0), (20, .iadd, 1, 0, 0, 0), (21, .invokevirtual 50, 3, 54, 1, 3174), (24, .invokevirtual 54, 3, 71, 1, 4042), (27, .iinc 2 1, 3, 0, 0, 0), (30, .goto (-28), 3, 2, 0, 0), (33, .aload_n 0, 1, 0, 0, 0), (34, .dup, 1, 0, 0, 0), (35, .getfield 15, 3, 7, 1, 1127), (38, .iconst 1, 1, 0, 0, 0), (39, .isub, 1, 0, 0, 0), (40, .putfield 15, 3, 7, 1, 1127), (43, .return_, 1, 0, 0, 0)]
/-- OverlapBench.undo()I -/
def cd_142 : List (Nat × JI) := [(0, .aload_n 0, 1, 0, 0, 0), (1, .getfield 65, 3, 10, 8, 2113), (4, .getfield 330, 3, 0, 0, 2093), (7, .ifCond .gt 11, 3, 18, 0, 0), (10, .new 331, 3, 100, 333, 4051), (13, .dup, 1, 0, 0, 0), (14, .invokespecial 333, 3, 9999, 0, 4060), (17, .athrow, 1, 0, 0, 0), (18, .aload_n 0, 1, 0, 0, 0), (19, .getfield 65, 3, 10, 8, 2113), (22, .aload_n 0, 1, 0, 0, 0), (23, .getfield 23, 3, 10, 2, 2107), (26, .invokevirtual 334, 3, 143, 1, 5110), (29, .aload_n 0, 1, 0, 0, 0), (30, .getfield 51, 3, 10, 6, 2111), (33, .iconst 1, 1, 0, 0, 0), (34, .putfield 337, 3, 102, 0, 2028), (37, .aload_n 0, 1, 0, 0, 0), (38, .getfield 65, 3, 10, 8, 2113), (41, .getfield 330, 3, 0, 0, 2093), (44, .ireturn, 1, 0, 0, 0)]
/-- OverlapBench$History.takeBack(LOverlapBench$State;)V -/
def cd_143 : List (Nat × JI) := [(0, .aload_n 0, 1, 0, 0, 0), (1, .aload_n 0, 1, 0, 0, 0), (2, .getfield 15, 3, 0, 1, 2094), (5, .invokevirtual 31, 3, 133, 1, 5065), (8, .astore_n 2, 1, 0, 0, 0), (9, .aload_n 0, 1, 0, 0, 0), (10, .getfield 9, 3, 0, 0, 2092), (13, .ifCond .le 44, 3, 57, 0, 0), (16, .aload_n 2, 1, 0, 0, 0), (17, .ifnull 40, 3, 57, 0, 0), (20, .aload_n 1, 1, 0, 0, 0), (21, .aload_n 2, 1, 0, 0, 0), (22, .invokevirtual 35, 3, 75, 1, 5069), (25, .aload_n 0, 1, 0, 0, 0), (26, .dup, 1, 0, 0, 0), (27, .getfield 9, 3, 0, 0, 2092), (30, .iconst 1, 1, 0, 0, 0), (31, .isub, 1, 0, 0, 0), (32, .putfield 9, 3, 0, 0, 2092), (35, .aload_n 0, 1, 0, 0, 0), (36, .aload_n 0, 1, 0, 0, 0), (37, .getfield 15, 3, 0, 1, 2094), (40, .ifCond .le 12, 3, 52, 0, 0), (43, .aload_n 0, 1, 0, 0, 0), (44, .getfield 15, 3, 0, 1, 2094), (47, .iconst 1, 1, 0, 0, 0), (48, .isub, 1, 0, 0, 0), (49, .goto 5, 3, 54, 0, 0), (52, .bipush 7, 2, 0, 0, 0), (54, .putfield 15, 3, 0, 1, 2094), (57, .return_, 1, 0, 0, 0)]
/-- OverlapBench.undoCount()I -/
def cd_144 : List (Nat × JI) := [(0, .aload_n 0, 1, 0, 0, 0), (1, .getfield 65, 3, 10, 8, 2113), (4, .getfield 330, 3, 0, 0, 2093), (7, .ireturn, 1, 0, 0, 0)]
/-- OverlapBench.saveState(I)I -/
def cd_145 : List (Nat × JI) := [(0, .aload_n 0, 1, 0, 0, 0), (1, .invokevirtual 132, 3, 78, 0, 4047), (4, .aload_n 0, 1, 0, 0, 0), (5, .iload_n 1, 1, 0, 0, 0), (6, .iconst 2, 1, 0, 0, 0), (7, .invokevirtual 138, 3, 82, 2, 4078), (10, .iload_n 1, 1, 0, 0, 0), (11, .ifCond .ne 22, 3, 33, 0, 0), (14, .aload_n 0, 1, 0, 0, 0), (15, .getfield 69, 3, 10, 9, 2114), (18, .aload_n 0, 1, 0, 0, 0), (19, .getfield 23, 3, 10, 2, 2107), (22, .invokevirtual 340, 3, 75, 1, 4032), (25, .aload_n 0, 1, 0, 0, 0), (26, .iconst 1, 1, 0, 0, 0), (27, .putfield 75, 3, 110, 11, 2116), (30, .goto 19, 3, 49, 0, 0), (33, .aload_n 0, 1, 0, 0, 0), (34, .getfield 72, 3, 10, 10, 2115), (37, .aload_n 0, 1, 0, 0, 0), (38, .getfield 23, 3, 10, 2, 2107), (41, .invokevirtual 340, 3, 75, 1, 4032), (44, .aload_n 0, 1, 0, 0, 0), (45, .iconst 1, 1, 0, 0, 0), (46, .putfield 78, 3, 110, 12, 2117), (49, .aload_n 0, 1, 0, 0, 0), (50, .getfield 23, 3, 10, 2, 2107), (53, .getfield 183, 3, 7, 1, 1129), (56, .ireturn, 1, 0, 0, 0)]
/-- OverlapBench.restoreState(I)I -/
def cd_146 : List (Nat × JI) := [(0, .aload_n 0, 1, 0, 0, 0), (1, .iload_n 1, 1, 0, 0, 0), (2, .iconst 2, 1, 0, 0, 0), (3, .invokevirtual 138, 3, 82, 2, 4078), (6, .iload_n 1, 1, 0, 0, 0), (7, .ifCond .ne 10, 3, 17, 0, 0), (10, .aload_n 0, 1, 0, 0, 0), (11, .getfield 75, 3, 10, 11, 2116), (14, .goto 7, 3, 21, 0, 0), (17, .aload_n 0, 1, 0, 0, 0), (18, .getfield 78, 3, 10, 12, 2117), (21, .istore_n 2, 1, 0, 0, 0), (22, .iload_n 2, 1, 0, 0, 0), (23, .ifCond .ne 11, 3, 34, 0, 0), (26, .new 331, 3, 100, 333, 4051), (29, .dup, 1, 0, 0, 0), (30, .invokespecial 333, 3, 9999, 0, 4060), (33, .athrow, 1, 0, 0, 0), (34, .aload_n 0, 1, 0, 0, 0), (35, .iload_n 1, 1, 0, 0, 0), (36, .ifCond .ne 10, 3, 46, 0, 0), (39, .aload_n 0, 1, 0, 0, 0), (40, .getfield 69, 3, 10, 9, 2114), (43, .goto 7, 3, 50, 0, 0), (46, .aload_n 0, 1, 0, 0, 0), (47, .getfield 72, 3, 10, 10, 2115), (50, .invokevirtual 119, 3, 74, 1, 4028), (53, .aload_n 0, 1, 0, 0, 0), (54, .getfield 23, 3, 10, 2, 2107), (57, .getfield 183, 3, 7, 1, 1129), (60, .ireturn, 1, 0, 0, 0)]
/-- OverlapBenchLaw.cell([II)I -/
def cd_147 : List (Nat × JI) := [(0, .iload_n 1, 1, 0, 0, 0), (1, .aload_n 0, 1, 0, 0, 0), (2, .arraylength, 1, 0, 0, 0), (3, .if_icmp .ge 9, 3, 12, 0, 0), (6, .aload_n 0, 1, 0, 0, 0), (7, .iload_n 1, 1, 0, 0, 0), (8, .iaload, 1, 0, 0, 0), (9, .goto 4, 3, 13, 0, 0), (12, .iconst 0, 1, 0, 0, 0), (13, .ireturn, 1, 0, 0, 0)]
/-- OverlapBenchLaw.sys([I)LOverlapBenchLaw$Sys; -/
def cd_148 : List (Nat × JI) := [(0, .new 106, 3, 12, 0, 5132), (3, .dup, 1, 0, 0, 0), (4, .invokespecial 108, 3, 149, 100, 5134), (7, .astore_n 1, 1, 0, 0, 0), (8, .aload_n 0, 1, 0, 0, 0), (9, .iconst 0, 1, 0, 0, 0), (10, .invokestatic 109, 3, 147, 2, 5126), (13, .istore_n 2, 1, 0, 0, 0), (14, .iconst 0, 1, 0, 0, 0), (15, .istore_n 3, 1, 0, 0, 0), (16, .iload_n 3, 1, 0, 0, 0), (17, .iload_n 2, 1, 0, 0, 0), (18, .iconst 3, 1, 0, 0, 0), (19, .iand, 1, 0, 0, 0), (20, .iconst 3, 1, 0, 0, 0), (21, .irem, 1, 0, 0, 0), (22, .if_icmp .gt 95, 3, 117, 0, 0), (25, .iconst 1, 1, 0, 0, 0), (26, .newarray .int, 2, 100, 0, 1067), (28, .dup, 1, 0, 0, 0), (29, .iconst 0, 1, 0, 0, 0), (30, .aload_n 0, 1, 0, 0, 0), (31, .iconst 1, 1, 0, 0, 0), (32, .iload_n 3, 1, 0, 0, 0), (33, .iadd, 1, 0, 0, 0), (34, .invokestatic 109, 3, 147, 2, 5126), (37, .iconst 4, 1, 0, 0, 0), (38, .ior, 1, 0, 0, 0), (39, .iastore, 1, 0, 0, 0), (40, .iconst 2, 1, 0, 0, 0), (41, .invokestatic 98, 3, 157, 2, 5183), (44, .astore 4, 2, 0, 0, 0), (46, .aload 4, 2, 0, 0, 0), (48, .getfield 47, 3, 11, 0, 5193), (51, .bipush 100, 2, 0, 0, 0), (53, .if_icmp .lt 16, 3, 69, 0, 0), (56, .new 26, 3, 11, 0, 5186), (59, .dup, 1, 0, 0, 0), (60, .iconst 1, 1, 0, 0, 0), (61, .aload 4, 2, 0, 0, 0), (63, .aconst_null, 1, 0, 0, 0), (64, .invokespecial 70, 3, 158, 3, 5188), (67, .astore 4, 2, 0, 0, 0), (69, .aload_n 1, 1, 0, 0, 0), (70, .getfield 113, 3, 12, 0, 5167), (73, .iconst 2, 1, 0, 0, 0), (74, .anewarray 26, 3, 116, 0, 5186), (77, .dup, 1, 0, 0, 0), (78, .iconst 0, 1, 0, 0, 0), (79, .aload 4, 2, 0, 0, 0), (81, .aastore, 1, 0, 0, 0), (82, .dup, 1, 0, 0, 0), (83, .iconst 1, 1, 0, 0, 0), (84, .iconst 1, 1, 0, 0, 0), (85, .newarray .int, 2, 100, 0, 1067), (87, .dup, 1, 0, 0, 0), (88, .iconst 0, 1, 0, 0, 0), (89, .aload_n 0, 1, 0, 0, 0), (90, .iconst 4, 1, 0, 0, 0), (91, .iload_n 3, 1, 0, 0, 0), (92, .iadd, 1, 0, 0, 0), (93, .invokestatic 109, 3, 147, 2, 5126), (96, .iastore, 1, 0, 0, 0), (97, .iconst 2, 1, 0, 0, 0), (98, .invokestatic 98, 3, 157, 2, 5183), (101, .aload 4, 2, 0, 0, 0), (103, .invokestatic 102, 3, 163, 2, 5207), (106, .aastore, 1, 0, 0, 0), (107, .invokevirtual 117, 3, 169, 1, 5213), (110, .pop, 1, 0, 0, 0), (111, .iinc 3 1, 3, 0, 0, 0), (114, .goto (-98), 3, 16, 0, 0), (117, .iconst 0, 1, 0, 0, 0), (118, .istore_n 3, 1, 0, 0, 0), (119, .iload_n 3, 1, 0, 0, 0), (120, .iconst 1, 1, 0, 0, 0), (121, .iload_n 2, 1, 0, 0, 0), (122, .iconst 2, 1, 0, 0, 0), (123, .iushr, 1, 0, 0, 0), (124, .iconst 1, 1, 0, 0, 0), (125, .iand, 1, 0, 0, 0), (126, .iadd, 1, 0, 0, 0), (127, .if_icmp .gt 37, 3, 164, 0, 0), (130, .aload_n 1, 1, 0, 0, 0), (131, .getfield 123, 3, 12, 1, 5169), (134, .iconst 1, 1, 0, 0, 0), (135, .newarray .int, 2, 100, 0, 1067), (137, .dup, 1, 0, 0, 0), (138, .iconst 0, 1, 0, 0, 0), (139, .aload_n 0, 1, 0, 0, 0), (140, .bipush 7, 2, 0, 0, 0), (142, .iload_n 3, 1, 0, 0, 0), (143, .iadd, 1, 0, 0, 0), (144, .invokestatic 109, 3, 147, 2, 5126), (147, .iconst 4, 1, 0, 0, 0), (148, .ior, 1, 0, 0, 0), (149, .iastore, 1, 0, 0, 0), (150, .iconst 3, 1, 0, 0, 0), (151, .invokestatic 98, 3, 157, 2, 5183), (154, .invokevirtual 117, 3, 169, 1, 5213), (157, .pop, 1, 0, 0, 0), (158, .iinc 3 1, 3, 0, 0, 0), (161, .goto (-42), 3, 119, 0, 0), (164, .aload_n 1, 1, 0, 0, 0), (165, .areturn, 1, 0, 0, 0)]
/-- OverlapBenchLaw$Sys.<init>()V -/
def cd_149 : List (Nat × JI) := [(0, .aload_n 0, 1, 0, 0, 0), (1, .invokespecial 1, 3, 1, 0, 5137), (4, .aload_n 0, 1, 0, 0, 0), (5, .new 7, 3, 13, 0, 5138), (8, .dup, 1, 0, 0, 0), (9, .invokespecial 9, 3, 150, 0, 5140), (12, .putfield 10, 3, 212, 0, 5166), (15, .aload_n 0, 1, 0, 0, 0), (16, .new 7, 3, 13, 0, 5138), (19, .dup, 1, 0, 0, 0), (20, .invokespecial 9, 3, 150, 0, 5140), (23, .putfield 16, 3, 212, 1, 5168), (26, .aload_n 0, 1, 0, 0, 0), (27, .bipush 16, 2, 0, 0, 0), (29, .anewarray 19, 3, 116, 0, 5164), (32, .putfield 21, 3, 212, 2, 5170), (35, .aload_n 0, 1, 0, 0, 0), (36, .bipush 16, 2, 0, 0, 0), (38, .anewarray 19, 3, 116, 0, 5164), (41, .putfield 25, 3, 212, 3, 5171), (44, .return_, 1, 0, 0, 0)]
/-- java/util/ArrayList.<init>()V -/
def cd_150 : List (Nat × JI) := [(0, .aload_n 0, 1, 0, 0, 0), (1, .invokespecial 1, 3, 151, 0, 5143), (4, .aload_n 0, 1, 0, 0, 0), (5, .getstatic 39, 3, 1, 0, 5150), (8, .putfield 9, 3, 213, 1, 5152), (11, .return_, 1, 0, 0, 0)]
/-- java/util/AbstractList.<init>()V -/
def cd_151 : List (Nat × JI) := [(0, .aload_n 0, 1, 0, 0, 0), (1, .invokespecial 1, 3, 152, 0, 5146), (4, .aload_n 0, 1, 0, 0, 0), (5, .iconst 0, 1, 0, 0, 0), (6, .putfield 7, 3, 13, 0, 5154), (9, .return_, 1, 0, 0, 0)]
/-- java/util/AbstractCollection.<init>()V -/
def cd_152 : List (Nat × JI) := [(0, .aload_n 0, 1, 0, 0, 0), (1, .invokespecial 1, 3, 1, 0, 5149), (4, .return_, 1, 0, 0, 0)]
/-- OverlapBenchLaw.tree([II)LOverlapBenchLaw$Node; -/
def cdf_Lw_tree (z : Nat) : List (Nat × JI) := [(0, .aload_n 0, 1, 0, 0, 0), (1, .iconst 0, 1, 0, 0, 0), (2, .iaload, 1, 0, 0, 0), (3, .bipush 7, 2, 0, 0, 0), (5, .iand, 1, 0, 0, 0), (6, .istore_n 2, 1, 0, 0, 0), (7, .aload_n 0, 1, 0, 0, 0), (8, .iconst 0, 1, 0, 0, 0), (9, .dup2, 1, 0, 0, 0), (10, .iaload, 1, 0, 0, 0), (11, .iconst 3, 1, 0, 0, 0), (12, .iushr, 1, 0, 0, 0), (13, .iastore, 1, 0, 0, 0), (14, .iload_n 1, 1, 0, 0, 0), (15, .ifCond .le 25, 3, 40, 0, 0), (18, .iload_n 2, 1, 0, 0, 0), (19, .iconst 5, 1, 0, 0, 0), (20, .if_icmp .le 20, 3, 40, 0, 0), (23, .new 26, 3, 11, 0, 5186), (26, .dup, 1, 0, 0, 0), (27, .iconst 1, 1, 0, 0, 0), (28, .aload_n 0, 1, 0, 0, 0), (29, .iload_n 1, 1, 0, 0, 0), (30, .iconst 1, 1, 0, 0, 0), (31, .isub, 1, 0, 0, 0), (32, .invokestatic 98, 3, z, 2, 5183), (35, .aconst_null, 1, 0, 0, 0), (36, .invokespecial 70, 3, 158, 3, 5188), (39, .areturn, 1, 0, 0, 0), (40, .iload_n 1, 1, 0, 0, 0), (41, .ifCond .le 33, 3, 74, 0, 0), (44, .iload_n 2, 1, 0, 0, 0), (45, .iconst 2, 1, 0, 0, 0), (46, .if_icmp .le 28, 3, 74, 0, 0), (49, .aload_n 0, 1, 0, 0, 0), (50, .iload_n 1, 1, 0, 0, 0), (51, .iconst 1, 1, 0, 0, 0), (52, .isub, 1, 0, 0, 0), (53, .invokestatic 98, 3, z, 2, 5183), (56, .astore_n 3, 1, 0, 0, 0), (57, .new 26, 3, 11, 0, 5186), (60, .dup, 1, 0, 0, 0), (61, .iconst 0, 1, 0, 0, 0), (62, .aload_n 3, 1, 0, 0, 0), (63, .aload_n 0, 1, 0, 0, 0), (64, .iload_n 1, 1, 0, 0, 0), (65, .iconst 1, 1, 0, 0, 0), (66, .isub, 1, 0, 0, 0), (67, .invokestatic 98, 3, z, 2, 5183), (70, .invokespecial 70, 3, 158, 3, 5188), (73, .areturn, 1, 0, 0, 0), (74, .iload_n 2, 1, 0, 0, 0), (75, .iconst 2, 1, 0, 0, 0), (76, .if_icmp .ge 18, 3, 94, 0, 0), (79, .new 26, 3, 11, 0, 5186), (82, .dup, 1, 0, 0, 0), (83, .iconst 2, 1, 0, 0, 0), (84, .iload_n 2, 1, 0, 0, 0), (85, .iadd, 1, 0, 0, 0), (86, .aconst_null, 1, 0, 0, 0), (87, .aconst_null, 1, 0, 0, 0), (88, .invokespecial 70, 3, 158, 3, 5188), (91, .goto 18, 3, 109, 0, 0), (94, .new 26, 3, 11, 0, 5186), (97, .dup, 1, 0, 0, 0), (98, .bipush 100, 2, 0, 0, 0), (100, .iload_n 2, 1, 0, 0, 0), (101, .iconst 1, 1, 0, 0, 0), (102, .iand, 1, 0, 0, 0), (103, .iadd, 1, 0, 0, 0), (104, .aconst_null, 1, 0, 0, 0), (105, .aconst_null, 1, 0, 0, 0), (106, .invokespecial 70, 3, 158, 3, 5188), (109, .areturn, 1, 0, 0, 0)]
abbrev cd_153 : List (Nat × JI) := cdf_Lw_tree 9998
/-- OverlapBenchLaw.tree([II)LOverlapBenchLaw$Node; -/
abbrev cd_154 : List (Nat × JI) := cdf_Lw_tree 153
/-- OverlapBenchLaw.tree([II)LOverlapBenchLaw$Node; -/
abbrev cd_155 : List (Nat × JI) := cdf_Lw_tree 154
/-- OverlapBenchLaw.tree([II)LOverlapBenchLaw$Node; -/
abbrev cd_156 : List (Nat × JI) := cdf_Lw_tree 155
/-- OverlapBenchLaw.tree([II)LOverlapBenchLaw$Node; -/
abbrev cd_157 : List (Nat × JI) := cdf_Lw_tree 156
/-- OverlapBenchLaw$Node.<init>(ILOverlapBenchLaw$Node;LOverlapBenchLaw$Node;)V -/
def cd_158 : List (Nat × JI) := [(0, .aload_n 0, 1, 0, 0, 0), (1, .invokespecial 1, 3, 1, 0, 5191), (4, .aload_n 0, 1, 0, 0, 0), (5, .iload_n 1, 1, 0, 0, 0), (6, .putfield 7, 3, 11, 0, 5192), (9, .aload_n 0, 1, 0, 0, 0), (10, .aload_n 2, 1, 0, 0, 0), (11, .putfield 13, 3, 211, 1, 5194), (14, .aload_n 0, 1, 0, 0, 0), (15, .aload_n 3, 1, 0, 0, 0), (16, .putfield 17, 3, 211, 2, 5197), (19, .return_, 1, 0, 0, 0)]
/-- OverlapBenchLaw.closed(LOverlapBenchLaw$Node;LOverlapBenchLaw$Node;)LOverlapBenchLaw$Node; -/
def cdf_Lw_closed (z : Nat) : List (Nat × JI) := [(0, .aload_n 0, 1, 0, 0, 0), (1, .ifnonnull 5, 3, 6, 0, 0), (4, .aconst_null, 1, 0, 0, 0), (5, .areturn, 1, 0, 0, 0), (6, .aload_n 0, 1, 0, 0, 0), (7, .getfield 47, 3, 11, 0, 5193), (10, .bipush 100, 2, 0, 0, 0), (12, .if_icmp .lt 25, 3, 37, 0, 0), (15, .aload_n 1, 1, 0, 0, 0), (16, .aload_n 0, 1, 0, 0, 0), (17, .getfield 47, 3, 11, 0, 5193), (20, .invokestatic 55, 3, 168, 2, 5210), (23, .ifCond .ne 14, 3, 37, 0, 0), (26, .new 26, 3, 11, 0, 5186), (29, .dup, 1, 0, 0, 0), (30, .iconst 2, 1, 0, 0, 0), (31, .aconst_null, 1, 0, 0, 0), (32, .aconst_null, 1, 0, 0, 0), (33, .invokespecial 70, 3, 158, 3, 5188), (36, .areturn, 1, 0, 0, 0), (37, .new 26, 3, 11, 0, 5186), (40, .dup, 1, 0, 0, 0), (41, .aload_n 0, 1, 0, 0, 0), (42, .getfield 47, 3, 11, 0, 5193), (45, .aload_n 0, 1, 0, 0, 0), (46, .getfield 25, 3, 11, 1, 5196), (49, .aload_n 1, 1, 0, 0, 0), (50, .invokestatic 102, 3, z, 2, 5207), (53, .aload_n 0, 1, 0, 0, 0), (54, .getfield 35, 3, 11, 2, 5199), (57, .aload_n 1, 1, 0, 0, 0), (58, .invokestatic 102, 3, z, 2, 5207), (61, .invokespecial 70, 3, 158, 3, 5188), (64, .areturn, 1, 0, 0, 0)]
abbrev cd_159 : List (Nat × JI) := cdf_Lw_closed 9998
/-- OverlapBenchLaw.closed(LOverlapBenchLaw$Node;LOverlapBenchLaw$Node;)LOverlapBenchLaw$Node; -/
abbrev cd_160 : List (Nat × JI) := cdf_Lw_closed 159
/-- OverlapBenchLaw.closed(LOverlapBenchLaw$Node;LOverlapBenchLaw$Node;)LOverlapBenchLaw$Node; -/
abbrev cd_161 : List (Nat × JI) := cdf_Lw_closed 160
/-- OverlapBenchLaw.closed(LOverlapBenchLaw$Node;LOverlapBenchLaw$Node;)LOverlapBenchLaw$Node; -/
abbrev cd_162 : List (Nat × JI) := cdf_Lw_closed 161
/-- OverlapBenchLaw.closed(LOverlapBenchLaw$Node;LOverlapBenchLaw$Node;)LOverlapBenchLaw$Node; -/
abbrev cd_163 : List (Nat × JI) := cdf_Lw_closed 162
/-- OverlapBenchLaw.uses(LOverlapBenchLaw$Node;I)I -/
def cdf_Lw_uses (z : Nat) : List (Nat × JI) := [(0, .aload_n 0, 1, 0, 0, 0), (1, .ifnonnull 7, 3, 8, 0, 0), (4, .iconst 0, 1, 0, 0, 0), (5, .goto 34, 3, 39, 0, 0), (8, .aload_n 0, 1, 0, 0, 0), (9, .getfield 47, 3, 11, 0, 5193), (12, .iload_n 1, 1, 0, 0, 0), (13, .if_icmp .ne 7, 3, 20, 0, 0), (16, .iconst 1, 1, 0, 0, 0), (17, .goto 4, 3, 21, 0, 0), (20, .iconst 0, 1, 0, 0, 0), (21, .aload_n 0, 1, 0, 0, 0), (22, .getfield 25, 3, 11, 1, 5196), (25, .iload_n 1, 1, 0, 0, 0), (26, .invokestatic 55, 3, z, 2, 5210), (29, .iadd, 1, 0, 0, 0), (30, .aload_n 0, 1, 0, 0, 0), (31, .getfield 35, 3, 11, 2, 5199), (34, .iload_n 1, 1, 0, 0, 0), (35, .invokestatic 55, 3, z, 2, 5210), (38, .iadd, 1, 0, 0, 0), (39, .ireturn, 1, 0, 0, 0)]
abbrev cd_164 : List (Nat × JI) := cdf_Lw_uses 9998
/-- OverlapBenchLaw.uses(LOverlapBenchLaw$Node;I)I -/
abbrev cd_165 : List (Nat × JI) := cdf_Lw_uses 164
/-- OverlapBenchLaw.uses(LOverlapBenchLaw$Node;I)I -/
abbrev cd_166 : List (Nat × JI) := cdf_Lw_uses 165
/-- OverlapBenchLaw.uses(LOverlapBenchLaw$Node;I)I -/
abbrev cd_167 : List (Nat × JI) := cdf_Lw_uses 166
/-- OverlapBenchLaw.uses(LOverlapBenchLaw$Node;I)I -/
abbrev cd_168 : List (Nat × JI) := cdf_Lw_uses 167
/-- java/util/ArrayList.add(Ljava/lang/Object;)Z -/
def cd_169 : List (Nat × JI) := [(0, .aload_n 0, 1, 0, 0, 0), (1, .dup, 1, 0, 0, 0), (2, .getfield 63, 3, 13, 0, 5155), (5, .iconst 1, 1, 0, 0, 0), (6, .iadd, 1, 0, 0, 0), (7, .putfield 63, 3, 13, 0, 5155), (10, .aload_n 0, 1, 0, 0, 0), (11, .aload_n 1, 1, 0, 0, 0), (12, .aload_n 0, 1, 0, 0, 0), (13, .getfield 9, 3, 13, 1, 5152), (16, .aload_n 0, 1, 0, 0, 0), (17, .getfield 48, 3, 13, 2, 5153), (20, .invokevirtual 131, 3, 170, 3, 5217), (23, .iconst 1, 1, 0, 0, 0), (24, .ireturn, 1, 1, 0, 0)]
/-- java/util/ArrayList.add(Ljava/lang/Object;[Ljava/lang/Object;I)V -/
def cd_170 : List (Nat × JI) := [(0, .iload_n 3, 1, 0, 0, 0), (1, .aload_n 2, 1, 0, 0, 0), (2, .arraylength, 1, 0, 0, 0), (3, .if_icmp .ne 8, 3, 11, 0, 0), (6, .aload_n 0, 1, 0, 0, 0), (7, .invokevirtual 129, 3, 171, 0, 5221), (10, .astore_n 2, 1, 0, 0, 0), (11, .aload_n 2, 1, 0, 0, 0), (12, .iload_n 3, 1, 0, 0, 0), (13, .aload_n 1, 1, 0, 0, 0), (14, .aastore, 1, 0, 0, 0), (15, .aload_n 0, 1, 0, 0, 0), (16, .iload_n 3, 1, 0, 0, 0), (17, .iconst 1, 1, 0, 0, 0), (18, .iadd, 1, 0, 0, 0), (19, .putfield 48, 3, 13, 2, 5153), (22, .return_, 1, 0, 0, 0)]
/-- java/util/ArrayList.grow()[Ljava/lang/Object; -/
def cd_171 : List (Nat × JI) := [(0, .aload_n 0, 1, 0, 0, 0), (1, .aload_n 0, 1, 0, 0, 0), (2, .getfield 48, 3, 13, 2, 5153), (5, .iconst 1, 1, 0, 0, 0), (6, .iadd, 1, 0, 0, 0), (7, .invokevirtual 69, 3, 172, 1, 5225), (10, .areturn, 1, 0, 0, 0)]
/-- java/util/ArrayList.grow(I)[Ljava/lang/Object; -/
def cd_172 : List (Nat × JI) := [(0, .aload_n 0, 1, 0, 0, 0), (1, .getfield 9, 3, 13, 1, 5152), (4, .arraylength, 1, 0, 0, 0), (5, .istore_n 2, 1, 0, 0, 0), (6, .iload_n 2, 1, 0, 0, 0), (7, .ifCond .gt 13, 3, 20, 0, 0), (10, .aload_n 0, 1, 0, 0, 0), (11, .getfield 9, 3, 13, 1, 5152), (14, .getstatic 39, 3, 1, 0, 5150), (17, .if_acmp .eq 28, 3, 45, 0, 0), (20, .iload_n 2, 1, 0, 0, 0), (21, .iload_n 1, 1, 0, 0, 0), (22, .iload_n 2, 1, 0, 0, 0), (23, .isub, 1, 0, 0, 0), (24, .iload_n 2, 1, 0, 0, 0), (25, .iconst 1, 1, 0, 0, 0), (26, .ishr, 1, 0, 0, 0), (27, .invokestatic 73, 3, 173, 3, 5229), (30, .istore_n 3, 1, 0, 0, 0), (31, .aload_n 0, 1, 0, 0, 0), (32, .aload_n 0, 1, 0, 0, 0), (33, .getfield 9, 3, 13, 1, 5152), (36, .iload_n 3, 1, 0, 0, 0), (37, .invokestatic 66, 3, 9998, 2, 5237), (40, .dup_x1, 1, 0, 0, 0), (41, .putfield 9, 3, 213, 1, 5152), (44, .areturn, 1, 0, 0, 0), (45, .aload_n 0, 1, 0, 0, 0), (46, .bipush 10, 2, 0, 0, 0), (48, .iload_n 1, 1, 0, 0, 0), (49, .invokestatic 79, 3, 6, 2, 6034), (52, .anewarray 7, 3, 199, 0, 6035), (55, .dup_x1, 1, 0, 0, 0), (56, .putfield 9, 3, 213, 1, 5152), (59, .areturn, 1, 0, 0, 0)]
/-- jdk/internal/util/ArraysSupport.newLength(III)I -/
def cd_173 : List (Nat × JI) := [(0, .iload_n 0, 1, 0, 0, 0), (1, .iload_n 1, 1, 0, 0, 0), (2, .iload_n 2, 1, 0, 0, 0), (3, .invokestatic 194, 3, 6, 2, 5232), (6, .iadd, 1, 0, 0, 0), (7, .istore_n 3, 1, 0, 0, 0), (8, .iconst 0, 1, 0, 0, 0), (9, .iload_n 3, 1, 0, 0, 0), (10, .if_icmp .ge 11, 3, 21, 0, 0), (13, .iload_n 3, 1, 0, 0, 0), (14, .ldc 200, 2, 4294967287, 0, 5233), (16, .if_icmp .gt 5, 3, 21, 0, 0), (19, .iload_n 3, 1, 0, 0, 0), (20, .ireturn, 1, 0, 0, 0), (21, .iload_n 0, 1, 0, 0, 0), (22, .iload_n 1, 1, 0, 0, 0), (23, .invokestatic 201, 3, 9998, 2, 5234), (26, .ireturn, 1, 0, 0, 0)]
/-- OverlapBenchLaw.text(LOverlapBenchLaw$Sys;I)Ljava/lang/String; -/
def cd_174 : List (Nat × JI) := [(0, .new 74, 3, 14, 0, 6039), (3, .dup, 1, 0, 0, 0), (4, .ldc 126, 2, 7, 1, 6041), (6, .invokespecial 128, 3, 175, 1, 6042), (9, .astore_n 2, 1, 0, 0, 0), (10, .iconst 0, 1, 0, 0, 0), (11, .istore_n 3, 1, 0, 0, 0), (12, .iload_n 3, 1, 0, 0, 0), (13, .aload_n 0, 1, 0, 0, 0), (14, .getfield 113, 3, 12, 0, 5167), (17, .invokevirtual 131, 3, 187, 0, 6162), (20, .if_icmp .ge 57, 3, 77, 0, 0), (23, .aload_n 2, 1, 0, 0, 0), (24, .ldc 134, 2, 8, 1, 6166), (26, .invokevirtual 136, 3, 178, 1, 6167), (29, .pop, 1, 0, 0, 0), (30, .aload_n 0, 1, 0, 0, 0), (31, .getfield 113, 3, 12, 0, 5167), (34, .iload_n 3, 1, 0, 0, 0), (35, .invokevirtual 139, 3, 188, 1, 6168), (38, .checkcast 143, 3, 116, 0, 6180), (41, .iconst 0, 1, 0, 0, 0), (42, .aaload, 1, 0, 0, 0), (43, .aload_n 2, 1, 0, 0, 0), (44, .invokestatic 86, 3, 195, 2, 6181), (47, .aload_n 2, 1, 0, 0, 0), (48, .ldc 145, 2, 10, 1, 6199), (50, .invokevirtual 136, 3, 178, 1, 6167), (53, .pop, 1, 0, 0, 0), (54, .aload_n 0, 1, 0, 0, 0), (55, .getfield 113, 3, 12, 0, 5167), (58, .iload_n 3, 1, 0, 0, 0), (59, .invokevirtual 139, 3, 188, 1, 6168), (62, .checkcast 143, 3, 116, 0, 6180), (65, .iconst 1, 1, 0, 0, 0), (66, .aaload, 1, 0, 0, 0), (67, .aload_n 2, 1, 0, 0, 0), (68, .invokestatic 86, 3, 195, 2, 6181), (71, .iinc 3 1, 3, 0, 0, 0), (74, .goto (-62), 3, 12, 0, 0), (77, .iconst 0, 1, 0, 0, 0), (78, .istore_n 3, 1, 0, 0, 0), (79, .iload_n 3, 1, 0, 0, 0), (80, .aload_n 0, 1, 0, 0, 0), (81, .getfield 123, 3, 12, 1, 5169), (84, .invokevirtual 131, 3, 187, 0, 6162), (87, .if_icmp .ge 31, 3, 118, 0, 0), (90, .aload_n 2, 1, 0, 0, 0), (91, .ldc 147, 2, 11, 1, 6200), (93, .invokevirtual 136, 3, 178, 1, 6167), (96, .pop, 1, 0, 0, 0), (97, .aload_n 0, 1, 0, 0, 0), (98, .getfield 123, 3, 12, 1, 5169), (101, .iload_n 3, 1, 0, 0, 0), (102, .invokevirtual 139, 3, 188, 1, 6168), (105, .checkcast 26, 3, 11, 0, 5186), (108, .aload_n 2, 1, 0, 0, 0), (109, .invokestatic 86, 3, 195, 2, 6181), (112, .iinc 3 1, 3, 0, 0, 0), (115, .goto (-36), 3, 79, 0, 0), (118, .aload_n 2, 1, 0, 0, 0), (119, .ldc 149, 2, 12, 1, 6201), (121, .invokevirtual 136, 3, 178, 1, 6167), (124, .pop, 1, 0, 0, 0), (125, .aload_n 0, 1, 0, 0, 0), (126, .getfield 123, 3, 12, 1, 5169), (129, .aload_n 0, 1, 0, 0, 0), (130, .getfield 123, 3, 12, 1, 5169), (133, .iconst 1, 1, 0, 0, 0), (134, .invokevirtual 139, 3, 188, 1, 6168), (137, .checkcast 26, 3, 11, 0, 5186), (140, .invokevirtual 117, 3, 169, 1, 5213), (143, .pop, 1, 0, 0, 0), (144, .aload_n 0, 1, 0, 0, 0), (145, .aload_n 0, 1, 0, 0, 0), (146, .getfield 123, 3, 12, 1, 5169), (149, .iconst 0, 1, 0, 0, 0), (150, .invokevirtual 139, 3, 188, 1, 6168), (153, .checkcast 26, 3, 11, 0, 5186), (156, .aload_n 0, 1, 0, 0, 0), (157, .aload_n 0, 1, 0, 0, 0), (158, .getfield 123, 3, 12, 1, 5169), (161, .iconst 0, 1, 0, 0, 0), (162, .invokevirtual 139, 3, 188, 1, 6168), (165, .checkcast 26, 3, 11, 0, 5186), (168, .invokevirtual 151, 3, 203, 1, 6202), (171, .invokevirtual 154, 3, 225, 2, 6232), (174, .astore_n 3, 1, 0, 0, 0), (175, .iload_n 1, 1, 0, 0, 0), (176, .iconst 1, 1, 0, 0, 0), (177, .iand, 1, 0, 0, 0), (178, .ifCond .ne 28, 3, 206, 0, 0), (181, .aload_n 3, 1, 0, 0, 0), (182, .ifnull 24, 3, 206, 0, 0), (185, .aload_n 2, 1, 0, 0, 0), (186, .ldc 157, 2, 13, 1, 7012), (188, .invokevirtual 136, 3, 178, 1, 6167), (191, .pop, 1, 0, 0, 0), (192, .aload_n 0, 1, 0, 0, 0), (193, .getfield 123, 3, 12, 1, 5169), (196, .iconst 0, 1, 0, 0, 0), (197, .aload_n 3, 1, 0, 0, 0), (198, .invokevirtual 159, 3, 242, 2, 7013), (201, .checkcast 26, 3, 11, 0, 5186), (204, .astore 4, 2, 0, 0, 0), (206, .aload_n 2, 1, 0, 0, 0), (207, .invokevirtual 163, 3, 243, 0, 7017), (210, .areturn, 1, 0, 0, 0)]
/-- java/lang/StringBuilder.<init>(Ljava/lang/String;)V -/
def cd_175 : List (Nat × JI) := [(0, .aload_n 0, 1, 0, 0, 0), (1, .aload_n 1, 1, 0, 0, 0), (2, .invokespecial 7, 3, 176, 1, 6045), (5, .return_, 1, 0, 0, 0)]
/-- java/lang/AbstractStringBuilder.<init>(Ljava/lang/String;)V -/
def cd_176 : List (Nat × JI) := [(0, .aload_n 0, 1, 0, 0, 0), (1, .invokespecial 3, 3, 1, 0, 6048), (4, .aload_n 1, 1, 0, 0, 0), (5, .invokevirtual 32, 3, 20, 0, 6049), (8, .istore_n 2, 1, 0, 0, 0), (9, .iload_n 2, 1, 0, 0, 0), (10, .ldc 38, 2, 4294967279, 0, 6050), (12, .if_icmp .ge 10, 3, 22, 0, 0), (15, .iload_n 2, 1, 0, 0, 0), (16, .bipush 16, 2, 0, 0, 0), (18, .iadd, 1, 0, 0, 0), (19, .goto 5, 3, 24, 0, 0), (22, .ldc 39, 2, 4294967295, 0, 6051), (24, .istore_n 3, 1, 0, 0, 0), (25, .aload_n 1, 1, 0, 0, 0), (26, .invokevirtual 40, 3, 21, 0, 6052), (29, .istore 4, 2, 0, 0, 0), (31, .aload_n 0, 1, 0, 0, 0), (32, .iload 4, 2, 0, 0, 0), (34, .putfield 22, 3, 314, 1, 6151), (37, .aload_n 0, 1, 0, 0, 0), (38, .iload 4, 2, 0, 0, 0), (40, .ifCond .ne 9, 3, 49, 0, 0), (43, .iload_n 3, 1, 0, 0, 0), (44, .newarray .byte, 2, 101, 0, 4023), (46, .goto 7, 3, 53, 0, 0), (49, .iload_n 3, 1, 0, 0, 0), (50, .invokestatic 26, 3, 9998, 1, 6053), (53, .putfield 15, 3, 214, 0, 6150), (56, .aload_n 0, 1, 0, 0, 0), (57, .aload_n 1, 1, 0, 0, 0), (58, .invokevirtual 43, 3, 177, 1, 6060), (61, .pop, 1, 0, 0, 0), (62, .return_, 1, 0, 0, 0)]
/-- java/lang/StringBuilder.append(Ljava/lang/String;)Ljava/lang/AbstractStringBuilder; -/
def cd_177 : List (Nat × JI) := [(0, .aload_n 0, 1, 0, 0, 0), (1, .aload_n 1, 1, 0, 0, 0), (2, .invokevirtual 23, 3, 178, 1, 6066), (5, .areturn, 1, 0, 0, 0)]
/-- java/lang/StringBuilder.append(Ljava/lang/String;)Ljava/lang/StringBuilder; -/
def cd_178 : List (Nat × JI) := [(0, .aload_n 0, 1, 0, 0, 0), (1, .aload_n 1, 1, 0, 0, 0), (2, .invokespecial 29, 3, 179, 1, 6070), (5, .pop, 1, 0, 0, 0), (6, .aload_n 0, 1, 0, 0, 0), (7, .areturn, 1, 0, 0, 0)]
/-- java/lang/AbstractStringBuilder.append(Ljava/lang/String;)Ljava/lang/AbstractStringBuilder; -/
def cd_179 : List (Nat × JI) := [(0, .aload_n 1, 1, 0, 0, 0), (1, .ifnonnull 8, 3, 9, 0, 0), (4, .aload_n 0, 1, 0, 0, 0), (5, .invokevirtual 204, 3, 9998, 0, 6073), (8, .areturn, 1, 0, 0, 0), (9, .aload_n 1, 1, 0, 0, 0), (10, .invokevirtual 32, 3, 20, 0, 6049), (13, .istore_n 2, 1, 0, 0, 0), (14, .aload_n 0, 1, 0, 0, 0), (15, .aload_n 0, 1, 0, 0, 0), (16, .getfield 79, 3, 14, 3, 6153), (19, .iload_n 2, 1, 0, 0, 0), (20, .iadd, 1, 0, 0, 0), (21, .invokevirtual 100, 3, 180, 1, 6077), (24, .aload_n 0, 1, 0, 0, 0), (25, .aload_n 0, 1, 0, 0, 0), (26, .getfield 79, 3, 14, 3, 6153), (29, .aload_n 1, 1, 0, 0, 0), (30, .invokevirtual 208, 3, 184, 2, 6117), (33, .aload_n 0, 1, 0, 0, 0), (34, .dup, 1, 0, 0, 0), (35, .getfield 79, 3, 14, 3, 6153), (38, .iload_n 2, 1, 0, 0, 0), (39, .iadd, 1, 0, 0, 0), (40, .putfield 79, 3, 14, 3, 6153), (43, .aload_n 0, 1, 0, 0, 0), (44, .areturn, 1, 0, 0, 0)]
/-- java/lang/AbstractStringBuilder.ensureCapacityInternal(I)V -/
def cd_180 : List (Nat × JI) := [(0, .aload_n 0, 1, 0, 0, 0), (1, .getfield 15, 3, 14, 0, 6150), (4, .arraylength, 1, 0, 0, 0), (5, .aload_n 0, 1, 0, 0, 0), (6, .getfield 22, 3, 14, 1, 6151), (9, .ishr, 1, 0, 0, 0), (10, .istore_n 2, 1, 0, 0, 0), (11, .iload_n 1, 1, 0, 0, 0), (12, .iload_n 2, 1, 0, 0, 0), (13, .isub, 1, 0, 0, 0), (14, .ifCond .le 24, 3, 38, 0, 0), (17, .aload_n 0, 1, 0, 0, 0), (18, .aload_n 0, 1, 0, 0, 0), (19, .getfield 15, 3, 14, 0, 6150), (22, .aload_n 0, 1, 0, 0, 0), (23, .iload_n 1, 1, 0, 0, 0), (24, .invokevirtual 104, 3, 181, 1, 6081), (27, .aload_n 0, 1, 0, 0, 0), (28, .getfield 22, 3, 14, 1, 6151), (31, .ishl, 1, 0, 0, 0), (32, .invokestatic 108, 3, 182, 2, 6086), (35, .putfield 15, 3, 214, 0, 6150), (38, .return_, 1, 0, 0, 0)]
/-- java/lang/AbstractStringBuilder.newCapacity(I)I -/
def cd_181 : List (Nat × JI) := [(0, .aload_n 0, 1, 0, 0, 0), (1, .getfield 15, 3, 14, 0, 6150), (4, .arraylength, 1, 0, 0, 0), (5, .istore_n 2, 1, 0, 0, 0), (6, .iload_n 1, 1, 0, 0, 0), (7, .aload_n 0, 1, 0, 0, 0), (8, .getfield 22, 3, 14, 1, 6151), (11, .ishl, 1, 0, 0, 0), (12, .istore_n 3, 1, 0, 0, 0), (13, .iload_n 3, 1, 0, 0, 0), (14, .iload_n 2, 1, 0, 0, 0), (15, .isub, 1, 0, 0, 0), (16, .istore 4, 2, 0, 0, 0), (18, .iload_n 2, 1, 0, 0, 0), (19, .iload 4, 2, 0, 0, 0), (21, .iload_n 2, 1, 0, 0, 0), (22, .iconst 2, 1, 0, 0, 0), (23, .aload_n 0, 1, 0, 0, 0), (24, .getfield 22, 3, 14, 1, 6151), (27, .ishl, 1, 0, 0, 0), (28, .iadd, 1, 0, 0, 0), (29, .invokestatic 114, 3, 173, 3, 6085), (32, .istore 5, 2, 0, 0, 0), (34, .iload 5, 2, 0, 0, 0), (36, .ldc 39, 2, 4294967295, 0, 6051), (38, .if_icmp .ne 13, 3, 51, 0, 0), (41, .new 120, 3, 9998, 0, 99999999), (44, .dup, 1, 0, 0, 0), (45, .ldc 122, 2, 0, 2, 99999999), (47, .invokespecial 124, 3, 9999, 1, 99999999), (50, .athrow, 1, 0, 0, 0), (51, .iload 5, 2, 0, 0, 0), (53, .aload_n 0, 1, 0, 0, 0), (54, .getfield 22, 3, 14, 1, 6151), (57, .ishr, 1, 0, 0, 0), (58, .ireturn, 1, 0, 0, 0)]
/-- java/util/Arrays.copyOf([BI)[B -/
def cd_182 : List (Nat × JI) := [(0, .iload_n 1, 1, 0, 0, 0), (1, .aload_n 0, 1, 0, 0, 0), (2, .arraylength, 1, 0, 0, 0), (3, .if_icmp .ne 11, 3, 14, 0, 0), (6, .aload_n 0, 1, 0, 0, 0), (7, .invokevirtual 310, 3, 8002, 0, 6089), (10, .checkcast 311, 3, 101, 0, 6095), (13, .areturn, 1, 0, 0, 0), (14, .iload_n 1, 1, 0, 0, 0), (15, .newarray .byte, 2, 101, 0, 4023), (17, .astore_n 2, 1, 0, 0, 0), (18, .aload_n 0, 1, 0, 0, 0), (19, .iconst 0, 1, 0, 0, 0), (20, .aload_n 2, 1, 0, 0, 0), (21, .iconst 0, 1, 0, 0, 0), (22, .aload_n 0, 1, 0, 0, 0), (23, .arraylength, 1, 0, 0, 0), (24, .iload_n 1, 1, 0, 0, 0), (25, .invokestatic 304, 3, 72, 2, 6030), (28, .invokestatic 150, 3, 8001, 5, 6031), (31, .aload_n 2, 1, 0, 0, 0), (32, .areturn, 1, 0, 0, 0)]
/-- java/lang/AbstractStringBuilder.isLatin1()Z -/
def cd_183 : List (Nat × JI) := [(0, .getstatic 18, 3, 0, 0, 6101), (3, .ifCond .eq 14, 3, 17, 0, 0), (6, .aload_n 0, 1, 0, 0, 0), (7, .getfield 22, 3, 14, 1, 6151), (10, .ifCond .ne 7, 3, 17, 0, 0), (13, .iconst 1, 1, 0, 0, 0), (14, .goto 4, 3, 18, 0, 0), (17, .iconst 0, 1, 0, 0, 0), (18, .ireturn, 1, 1, 0, 0)]
/-- java/lang/AbstractStringBuilder.putStringAt(ILjava/lang/String;)V -/
def cd_184 : List (Nat × JI) := [(0, .aload_n 0, 1, 0, 0, 0), (1, .aload_n 2, 1, 0, 0, 0), (2, .invokevirtual 397, 3, 185, 1, 6121), (5, .aload_n 2, 1, 0, 0, 0), (6, .aload_n 0, 1, 0, 0, 0), (7, .getfield 15, 3, 14, 0, 6150), (10, .iload_n 1, 1, 0, 0, 0), (11, .aload_n 0, 1, 0, 0, 0), (12, .getfield 22, 3, 14, 1, 6151), (15, .invokevirtual 399, 3, 186, 3, 6144), (18, .return_, 1, 0, 0, 0)]
/-- java/lang/AbstractStringBuilder.inflateIfNeededFor(Ljava/lang/String;)V -/
def cd_185 : List (Nat × JI) := [(0, .getstatic 18, 3, 0, 0, 6101), (3, .ifCond .eq 18, 3, 21, 0, 0), (6, .aload_n 0, 1, 0, 0, 0), (7, .getfield 22, 3, 14, 1, 6151), (10, .aload_n 1, 1, 0, 0, 0), (11, .invokevirtual 40, 3, 21, 0, 6052), (14, .if_icmp .eq 7, 3, 21, 0, 0), (17, .aload_n 0, 1, 0, 0, 0), (18, .invokevirtual 195, 3, 9998, 0, 6125), (21, .return_, 1, 0, 0, 0)]
/-- java/lang/String.getBytes([BIB)V -/
def cd_186 : List (Nat × JI) := [(0, .aload_n 0, 1, 0, 0, 0), (1, .invokevirtual 335, 3, 21, 0, 3007), (4, .iload_n 3, 1, 0, 0, 0), (5, .if_icmp .ne 23, 3, 28, 0, 0), (8, .aload_n 0, 1, 0, 0, 0), (9, .getfield 9, 3, 15, 0, 7063), (12, .iconst 0, 1, 0, 0, 0), (13, .aload_n 1, 1, 0, 0, 0), (14, .iload_n 2, 1, 0, 0, 0), (15, .iload_n 3, 1, 0, 0, 0), (16, .ishl, 1, 0, 0, 0), (17, .aload_n 0, 1, 0, 0, 0), (18, .getfield 9, 3, 15, 0, 7063), (21, .arraylength, 1, 0, 0, 0), (22, .invokestatic 212, 3, 8001, 5, 6148), (25, .goto 18, 3, 43, 0, 0), (28, .aload_n 0, 1, 0, 0, 0), (29, .getfield 9, 3, 15, 0, 7063), (32, .iconst 0, 1, 0, 0, 0), (33, .aload_n 1, 1, 0, 0, 0), (34, .iload_n 2, 1, 0, 0, 0), (35, .aload_n 0, 1, 0, 0, 0), (36, .getfield 9, 3, 15, 0, 7063), (39, .arraylength, 1, 0, 0, 0), (40, .invokestatic 106, 3, 9998, 5, 6149), (43, .return_, 1, 0, 0, 0)]
/-- java/util/ArrayList.size()I -/
def cd_187 : List (Nat × JI) := [(0, .aload_n 0, 1, 0, 0, 0), (1, .getfield 48, 3, 13, 2, 5153), (4, .ireturn, 1, 0, 0, 0)]
/-- java/util/ArrayList.get(I)Ljava/lang/Object; -/
def cd_188 : List (Nat × JI) := [(0, .iload_n 1, 1, 0, 0, 0), (1, .aload_n 0, 1, 0, 0, 0), (2, .getfield 48, 3, 13, 2, 5153), (5, .invokestatic 118, 3, 189, 2, 6172), (8, .pop, 1, 0, 0, 0), (9, .aload_n 0, 1, 0, 0, 0), (10, .iload_n 1, 1, 0, 0, 0), (11, .invokevirtual 123, 3, 190, 1, 6176), (14, .areturn, 1, 0, 0, 0)]
/-- java/util/Objects.checkIndex(II)I -/
def cd_189 : List (Nat × JI) := [(0, .iload_n 0, 1, 0, 0, 0), (1, .iload_n 1, 1, 0, 0, 0), (2, .aconst_null, 1, 0, 0, 0), (3, .invokestatic 105, 3, 26, 3, 6175), (6, .ireturn, 1, 0, 0, 0)]
/-- java/util/ArrayList.elementData(I)Ljava/lang/Object; -/
def cd_190 : List (Nat × JI) := [(0, .aload_n 0, 1, 0, 0, 0), (1, .getfield 9, 3, 13, 1, 5152), (4, .iload_n 1, 1, 0, 0, 0), (5, .aaload, 1, 0, 0, 0), (6, .areturn, 1, 0, 0, 0)]
/-- OverlapBenchLaw.write(LOverlapBenchLaw$Node;Ljava/lang/StringBuilder;)V -/
def cdf_Lw_write (z : Nat) : List (Nat × JI) := [(0, .aload_n 0, 1, 0, 0, 0), (1, .getfield 47, 3, 11, 0, 5193), (4, .bipush 100, 2, 0, 0, 0), (6, .if_icmp .lt 20, 3, 26, 0, 0), (9, .aload_n 1, 1, 0, 0, 0), (10, .bipush 65, 2, 0, 0, 0), (12, .aload_n 0, 1, 0, 0, 0), (13, .getfield 47, 3, 11, 0, 5193), (16, .iadd, 1, 0, 0, 0), (17, .bipush 100, 2, 0, 0, 0), (19, .isub, 1, 0, 0, 0), (20, .i2c, 1, 0, 0, 0), (21, .invokevirtual 73, 3, 196, 1, 6184), (24, .pop, 1, 0, 0, 0), (25, .return_, 1, 0, 0, 0), (26, .aload_n 1, 1, 0, 0, 0), (27, .ldc 78, 2, 9, 1, 6197), (29, .aload_n 0, 1, 0, 0, 0), (30, .getfield 47, 3, 11, 0, 5193), (33, .invokevirtual 80, 3, 22, 1, 6198), (36, .invokevirtual 73, 3, 196, 1, 6184), (39, .pop, 1, 0, 0, 0), (40, .aload_n 0, 1, 0, 0, 0), (41, .getfield 25, 3, 11, 1, 5196), (44, .ifnonnull 4, 3, 48, 0, 0), (47, .return_, 1, 0, 0, 0), (48, .aload_n 1, 1, 0, 0, 0), (49, .bipush 40, 2, 0, 0, 0), (51, .invokevirtual 73, 3, 196, 1, 6184), (54, .pop, 1, 0, 0, 0), (55, .aload_n 0, 1, 0, 0, 0), (56, .getfield 25, 3, 11, 1, 5196), (59, .aload_n 1, 1, 0, 0, 0), (60, .invokestatic 86, 3, z, 2, 6181), (63, .aload_n 0, 1, 0, 0, 0), (64, .getfield 35, 3, 11, 2, 5199), (67, .ifnull 18, 3, 85, 0, 0), (70, .aload_n 1, 1, 0, 0, 0), (71, .bipush 44, 2, 0, 0, 0), (73, .invokevirtual 73, 3, 196, 1, 6184), (76, .pop, 1, 0, 0, 0), (77, .aload_n 0, 1, 0, 0, 0), (78, .getfield 35, 3, 11, 2, 5199), (81, .aload_n 1, 1, 0, 0, 0), (82, .invokestatic 86, 3, z, 2, 6181), (85, .aload_n 1, 1, 0, 0, 0), (86, .bipush 41, 2, 0, 0, 0), (88, .invokevirtual 73, 3, 196, 1, 6184), (91, .pop, 1, 0, 0, 0), (92, .return_, 1, 0, 0, 0)]
abbrev cd_191 : List (Nat × JI) := cdf_Lw_write 9998
/-- OverlapBenchLaw.write(LOverlapBenchLaw$Node;Ljava/lang/StringBuilder;)V -/
abbrev cd_192 : List (Nat × JI) := cdf_Lw_write 191
/-- OverlapBenchLaw.write(LOverlapBenchLaw$Node;Ljava/lang/StringBuilder;)V -/
abbrev cd_193 : List (Nat × JI) := cdf_Lw_write 192
/-- OverlapBenchLaw.write(LOverlapBenchLaw$Node;Ljava/lang/StringBuilder;)V -/
abbrev cd_194 : List (Nat × JI) := cdf_Lw_write 193
/-- OverlapBenchLaw.write(LOverlapBenchLaw$Node;Ljava/lang/StringBuilder;)V -/
abbrev cd_195 : List (Nat × JI) := cdf_Lw_write 194
/-- java/lang/StringBuilder.append(C)Ljava/lang/StringBuilder; -/
def cd_196 : List (Nat × JI) := [(0, .aload_n 0, 1, 0, 0, 0), (1, .iload_n 1, 1, 0, 0, 0), (2, .invokespecial 50, 3, 197, 1, 6188), (5, .pop, 1, 0, 0, 0), (6, .aload_n 0, 1, 0, 0, 0), (7, .areturn, 1, 0, 0, 0)]
/-- java/lang/AbstractStringBuilder.append(C)Ljava/lang/AbstractStringBuilder; -/
def cd_197 : List (Nat × JI) := [(0, .aload_n 0, 1, 0, 0, 0), (1, .aload_n 0, 1, 0, 0, 0), (2, .getfield 79, 3, 14, 3, 6153), (5, .iconst 1, 1, 0, 0, 0), (6, .iadd, 1, 0, 0, 0), (7, .invokevirtual 100, 3, 180, 1, 6077), (10, .aload_n 0, 1, 0, 0, 0), (11, .invokevirtual 83, 3, 183, 0, 6096), (14, .ifCond .eq 31, 3, 45, 0, 0), (17, .iload_n 1, 1, 0, 0, 0), (18, .invokestatic 191, 3, 198, 1, 6191), (21, .ifCond .eq 24, 3, 45, 0, 0), (24, .aload_n 0, 1, 0, 0, 0), (25, .getfield 15, 3, 14, 0, 6150), (28, .aload_n 0, 1, 0, 0, 0), (29, .dup, 1, 0, 0, 0), (30, .getfield 79, 3, 14, 3, 6153), (33, .dup_x1, 1, 0, 0, 0), (34, .iconst 1, 1, 0, 0, 0), (35, .iadd, 1, 0, 0, 0), (36, .putfield 79, 3, 14, 3, 6153), (39, .iload_n 1, 1, 0, 0, 0), (40, .i2b, 1, 0, 0, 0), (41, .bastore, 1, 0, 0, 0), (42, .goto 33, 3, 75, 0, 0), (45, .aload_n 0, 1, 0, 0, 0), (46, .invokevirtual 83, 3, 183, 0, 6096), (49, .ifCond .eq 7, 3, 56, 0, 0), (52, .aload_n 0, 1, 0, 0, 0), (53, .invokevirtual 195, 3, 9998, 0, 6125), (56, .aload_n 0, 1, 0, 0, 0), (57, .getfield 15, 3, 14, 0, 6150), (60, .aload_n 0, 1, 0, 0, 0), (61, .dup, 1, 0, 0, 0), (62, .getfield 79, 3, 14, 3, 6153), (65, .dup_x1, 1, 0, 0, 0), (66, .iconst 1, 1, 0, 0, 0), (67, .iadd, 1, 0, 0, 0), (68, .putfield 79, 3, 14, 3, 6153), (71, .iload_n 1, 1, 0, 0, 0), (72, .invokestatic 197, 3, 9998, 3, 6194), (75, .aload_n 0, 1, 0, 0, 0), (76, .areturn, 1, 0, 0, 0)]
/-- java/lang/StringLatin1.canEncode(C)Z -/
def cd_198 : List (Nat × JI) := [(0, .iload_n 0, 1, 0, 0, 0), (1, .sipush 255, 3, 0, 0, 0), (4, .if_icmp .gt 7, 3, 11, 0, 0), (7, .iconst 1, 1, 0, 0, 0), (8, .goto 4, 3, 12, 0, 0), (11, .iconst 0, 1, 0, 0, 0), (12, .ireturn, 1, 1, 0, 0)]
/-- OverlapBenchLaw$Sys.inner(LOverlapBenchLaw$Node;)I -/
def cdf_Sys_inner (z : Nat) : List (Nat × JI) := [(0, .aload_n 1, 1, 0, 0, 0), (1, .ifnonnull 5, 3, 6, 0, 0), (4, .iconst (-1), 1, 0, 0, 0), (5, .ireturn, 1, 0, 0, 0), (6, .aload_n 0, 1, 0, 0, 0), (7, .aload_n 1, 1, 0, 0, 0), (8, .getfield 58, 3, 11, 1, 5195), (11, .invokevirtual 62, 3, z, 1, 6206), (14, .istore_n 2, 1, 0, 0, 0), (15, .iload_n 2, 1, 0, 0, 0), (16, .ifCond .lt 7, 3, 23, 0, 0), (19, .iconst 1, 1, 0, 0, 0), (20, .iload_n 2, 1, 0, 0, 0), (21, .iadd, 1, 0, 0, 0), (22, .ireturn, 1, 0, 0, 0), (23, .aload_n 0, 1, 0, 0, 0), (24, .aload_n 1, 1, 0, 0, 0), (25, .getfield 66, 3, 11, 2, 5198), (28, .invokevirtual 62, 3, z, 1, 6206), (31, .istore_n 2, 1, 0, 0, 0), (32, .iload_n 2, 1, 0, 0, 0), (33, .ifCond .lt 15, 3, 48, 0, 0), (36, .iconst 1, 1, 0, 0, 0), (37, .aload_n 1, 1, 0, 0, 0), (38, .getfield 58, 3, 11, 1, 5195), (41, .invokestatic 69, 3, 211, 1, 6207), (44, .iadd, 1, 0, 0, 0), (45, .iload_n 2, 1, 0, 0, 0), (46, .iadd, 1, 0, 0, 0), (47, .ireturn, 1, 0, 0, 0), (48, .aload_n 0, 1, 0, 0, 0), (49, .aload_n 1, 1, 0, 0, 0), (50, .invokevirtual 71, 3, 212, 1, 6211), (53, .ifCond .lt 7, 3, 60, 0, 0), (56, .iconst 0, 1, 0, 0, 0), (57, .goto 4, 3, 61, 0, 0), (60, .iconst (-1), 1, 0, 0, 0), (61, .ireturn, 1, 0, 0, 0)]
abbrev cd_199 : List (Nat × JI) := cdf_Sys_inner 9998
/-- OverlapBenchLaw$Sys.inner(LOverlapBenchLaw$Node;)I -/
abbrev cd_200 : List (Nat × JI) := cdf_Sys_inner 199
/-- OverlapBenchLaw$Sys.inner(LOverlapBenchLaw$Node;)I -/
abbrev cd_201 : List (Nat × JI) := cdf_Sys_inner 200
/-- OverlapBenchLaw$Sys.inner(LOverlapBenchLaw$Node;)I -/
abbrev cd_202 : List (Nat × JI) := cdf_Sys_inner 201
/-- OverlapBenchLaw$Sys.inner(LOverlapBenchLaw$Node;)I -/
abbrev cd_203 : List (Nat × JI) := cdf_Sys_inner 202
/-- OverlapBenchLaw.size(LOverlapBenchLaw$Node;)I -/
def cdf_Lw_size (z : Nat) : List (Nat × JI) := [(0, .aload_n 0, 1, 0, 0, 0), (1, .ifnonnull 7, 3, 8, 0, 0), (4, .iconst 0, 1, 0, 0, 0), (5, .goto 20, 3, 25, 0, 0), (8, .iconst 1, 1, 0, 0, 0), (9, .aload_n 0, 1, 0, 0, 0), (10, .getfield 25, 3, 11, 1, 5196), (13, .invokestatic 31, 3, z, 1, 6210), (16, .iadd, 1, 0, 0, 0), (17, .aload_n 0, 1, 0, 0, 0), (18, .getfield 35, 3, 11, 2, 5199), (21, .invokestatic 31, 3, z, 1, 6210), (24, .iadd, 1, 0, 0, 0), (25, .ireturn, 1, 0, 0, 0)]
abbrev cd_204 : List (Nat × JI) := cdf_Lw_size 9998
/-- OverlapBenchLaw.size(LOverlapBenchLaw$Node;)I -/
abbrev cd_205 : List (Nat × JI) := cdf_Lw_size 204
/-- OverlapBenchLaw.size(LOverlapBenchLaw$Node;)I -/
abbrev cd_206 : List (Nat × JI) := cdf_Lw_size 205
/-- OverlapBenchLaw.size(LOverlapBenchLaw$Node;)I -/
abbrev cd_207 : List (Nat × JI) := cdf_Lw_size 206
/-- OverlapBenchLaw.size(LOverlapBenchLaw$Node;)I -/
abbrev cd_208 : List (Nat × JI) := cdf_Lw_size 207
/-- OverlapBenchLaw.size(LOverlapBenchLaw$Node;)I -/
abbrev cd_209 : List (Nat × JI) := cdf_Lw_size 208
/-- OverlapBenchLaw.size(LOverlapBenchLaw$Node;)I -/
abbrev cd_210 : List (Nat × JI) := cdf_Lw_size 209
/-- OverlapBenchLaw.size(LOverlapBenchLaw$Node;)I -/
abbrev cd_211 : List (Nat × JI) := cdf_Lw_size 210
/-- OverlapBenchLaw$Sys.rule(LOverlapBenchLaw$Node;)I -/
def cd_212 : List (Nat × JI) := [(0, .iconst 0, 1, 0, 0, 0), (1, .istore_n 2, 1, 0, 0, 0), (2, .iload_n 2, 1, 0, 0, 0), (3, .aload_n 0, 1, 0, 0, 0), (4, .getfield 10, 3, 12, 0, 5166), (7, .invokevirtual 29, 3, 187, 0, 6215), (10, .if_icmp .ge 20, 3, 30, 0, 0), (13, .aload_n 0, 1, 0, 0, 0), (14, .iload_n 2, 1, 0, 0, 0), (15, .aload_n 1, 1, 0, 0, 0), (16, .invokevirtual 54, 3, 213, 2, 6216), (19, .ifCond .eq 5, 3, 24, 0, 0), (22, .iload_n 2, 1, 0, 0, 0), (23, .ireturn, 1, 0, 0, 0), (24, .iinc 2 1, 3, 0, 0, 0), (27, .goto (-25), 3, 2, 0, 0), (30, .iconst (-1), 1, 0, 0, 0), (31, .ireturn, 1, 0, 0, 0)]
/-- OverlapBenchLaw$Sys.matches(ILOverlapBenchLaw$Node;)Z -/
def cd_213 : List (Nat × JI) := [(0, .aload_n 0, 1, 0, 0, 0), (1, .getfield 21, 3, 12, 2, 5170), (4, .aconst_null, 1, 0, 0, 0), (5, .invokestatic 42, 3, 214, 2, 6220), (8, .aload_n 0, 1, 0, 0, 0), (9, .getfield 10, 3, 12, 0, 5166), (12, .iload_n 1, 1, 0, 0, 0), (13, .invokevirtual 33, 3, 188, 1, 6223), (16, .checkcast 37, 3, 116, 0, 6224), (19, .iconst 0, 1, 0, 0, 0), (20, .aaload, 1, 0, 0, 0), (21, .aload_n 2, 1, 0, 0, 0), (22, .aload_n 0, 1, 0, 0, 0), (23, .getfield 21, 3, 12, 2, 5170), (26, .invokestatic 48, 3, 219, 3, 6225), (29, .ireturn, 1, 1, 0, 0)]
/-- java/util/Arrays.fill([Ljava/lang/Object;Ljava/lang/Object;)V -/
def cd_214 : List (Nat × JI) := [(0, .iconst 0, 1, 0, 0, 0), (1, .istore_n 2, 1, 0, 0, 0), (2, .aload_n 0, 1, 0, 0, 0), (3, .arraylength, 1, 0, 0, 0), (4, .istore_n 3, 1, 0, 0, 0), (5, .iload_n 2, 1, 0, 0, 0), (6, .iload_n 3, 1, 0, 0, 0), (7, .if_icmp .ge 13, 3, 20, 0, 0), (10, .aload_n 0, 1, 0, 0, 0), (11, .iload_n 2, 1, 0, 0, 0), (12, .aload_n 1, 1, 0, 0, 0), (13, .aastore, 1, 0, 0, 0), (14, .iinc 2 1, 3, 0, 0, 0), (17, .goto (-12), 3, 5, 0, 0), (20, .return_, 1, 0, 0, 0)]
/-- OverlapBenchLaw.match(LOverlapBenchLaw$Node;LOverlapBenchLaw$Node;[LOverlapBenchLaw$Node;)Z -/
def cdf_Lw_match (z : Nat) : List (Nat × JI) := [(0, .aload_n 0, 1, 0, 0, 0), (1, .ifnonnull 5, 3, 6, 0, 0), (4, .iconst 1, 1, 0, 0, 0), (5, .ireturn, 1, 1, 0, 0), (6, .aload_n 0, 1, 0, 0, 0), (7, .getfield 47, 3, 11, 0, 5193), (10, .bipush 100, 2, 0, 0, 0), (12, .if_icmp .lt 39, 3, 51, 0, 0), (15, .aload_n 2, 1, 0, 0, 0), (16, .aload_n 0, 1, 0, 0, 0), (17, .getfield 47, 3, 11, 0, 5193), (20, .bipush 100, 2, 0, 0, 0), (22, .isub, 1, 0, 0, 0), (23, .aaload, 1, 0, 0, 0), (24, .ifnonnull 13, 3, 37, 0, 0), (27, .aload_n 2, 1, 0, 0, 0), (28, .aload_n 0, 1, 0, 0, 0), (29, .getfield 47, 3, 11, 0, 5193), (32, .bipush 100, 2, 0, 0, 0), (34, .isub, 1, 0, 0, 0), (35, .aload_n 1, 1, 0, 0, 0), (36, .aastore, 1, 0, 0, 0), (37, .aload_n 2, 1, 0, 0, 0), (38, .aload_n 0, 1, 0, 0, 0), (39, .getfield 47, 3, 11, 0, 5193), (42, .bipush 100, 2, 0, 0, 0), (44, .isub, 1, 0, 0, 0), (45, .aaload, 1, 0, 0, 0), (46, .aload_n 1, 1, 0, 0, 0), (47, .invokestatic 51, 3, 224, 2, 6228), (50, .ireturn, 1, 1, 0, 0), (51, .aload_n 0, 1, 0, 0, 0), (52, .getfield 47, 3, 11, 0, 5193), (55, .aload_n 1, 1, 0, 0, 0), (56, .getfield 47, 3, 11, 0, 5193), (59, .if_icmp .ne 37, 3, 96, 0, 0), (62, .aload_n 0, 1, 0, 0, 0), (63, .getfield 25, 3, 11, 1, 5196), (66, .aload_n 1, 1, 0, 0, 0), (67, .getfield 25, 3, 11, 1, 5196), (70, .aload_n 2, 1, 0, 0, 0), (71, .invokestatic 90, 3, z, 3, 6231), (74, .ifCond .eq 22, 3, 96, 0, 0), (77, .aload_n 0, 1, 0, 0, 0), (78, .getfield 35, 3, 11, 2, 5199), (81, .aload_n 1, 1, 0, 0, 0), (82, .getfield 35, 3, 11, 2, 5199), (85, .aload_n 2, 1, 0, 0, 0), (86, .invokestatic 90, 3, z, 3, 6231), (89, .ifCond .eq 7, 3, 96, 0, 0), (92, .iconst 1, 1, 0, 0, 0), (93, .goto 4, 3, 97, 0, 0), (96, .iconst 0, 1, 0, 0, 0), (97, .ireturn, 1, 1, 0, 0)]
abbrev cd_215 : List (Nat × JI) := cdf_Lw_match 9998
/-- OverlapBenchLaw.match(LOverlapBenchLaw$Node;LOverlapBenchLaw$Node;[LOverlapBenchLaw$Node;)Z -/
abbrev cd_216 : List (Nat × JI) := cdf_Lw_match 215
/-- OverlapBenchLaw.match(LOverlapBenchLaw$Node;LOverlapBenchLaw$Node;[LOverlapBenchLaw$Node;)Z -/
abbrev cd_217 : List (Nat × JI) := cdf_Lw_match 216
/-- OverlapBenchLaw.match(LOverlapBenchLaw$Node;LOverlapBenchLaw$Node;[LOverlapBenchLaw$Node;)Z -/
abbrev cd_218 : List (Nat × JI) := cdf_Lw_match 217
/-- OverlapBenchLaw.match(LOverlapBenchLaw$Node;LOverlapBenchLaw$Node;[LOverlapBenchLaw$Node;)Z -/
abbrev cd_219 : List (Nat × JI) := cdf_Lw_match 218
/-- OverlapBenchLaw.same(LOverlapBenchLaw$Node;LOverlapBenchLaw$Node;)Z -/
def cdf_Lw_same (z : Nat) : List (Nat × JI) := [(0, .aload_n 0, 1, 0, 0, 0), (1, .ifnull 7, 3, 8, 0, 0), (4, .aload_n 1, 1, 0, 0, 0), (5, .ifnonnull 14, 3, 19, 0, 0), (8, .aload_n 0, 1, 0, 0, 0), (9, .aload_n 1, 1, 0, 0, 0), (10, .if_acmp .ne 7, 3, 17, 0, 0), (13, .iconst 1, 1, 0, 0, 0), (14, .goto 4, 3, 18, 0, 0), (17, .iconst 0, 1, 0, 0, 0), (18, .ireturn, 1, 1, 0, 0), (19, .aload_n 0, 1, 0, 0, 0), (20, .getfield 47, 3, 11, 0, 5193), (23, .aload_n 1, 1, 0, 0, 0), (24, .getfield 47, 3, 11, 0, 5193), (27, .if_icmp .ne 35, 3, 62, 0, 0), (30, .aload_n 0, 1, 0, 0, 0), (31, .getfield 25, 3, 11, 1, 5196), (34, .aload_n 1, 1, 0, 0, 0), (35, .getfield 25, 3, 11, 1, 5196), (38, .invokestatic 51, 3, z, 2, 6228), (41, .ifCond .eq 21, 3, 62, 0, 0), (44, .aload_n 0, 1, 0, 0, 0), (45, .getfield 35, 3, 11, 2, 5199), (48, .aload_n 1, 1, 0, 0, 0), (49, .getfield 35, 3, 11, 2, 5199), (52, .invokestatic 51, 3, z, 2, 6228), (55, .ifCond .eq 7, 3, 62, 0, 0), (58, .iconst 1, 1, 0, 0, 0), (59, .goto 4, 3, 63, 0, 0), (62, .iconst 0, 1, 0, 0, 0), (63, .ireturn, 1, 1, 0, 0)]
abbrev cd_220 : List (Nat × JI) := cdf_Lw_same 9998
/-- OverlapBenchLaw.same(LOverlapBenchLaw$Node;LOverlapBenchLaw$Node;)Z -/
abbrev cd_221 : List (Nat × JI) := cdf_Lw_same 220
/-- OverlapBenchLaw.same(LOverlapBenchLaw$Node;LOverlapBenchLaw$Node;)Z -/
abbrev cd_222 : List (Nat × JI) := cdf_Lw_same 221
/-- OverlapBenchLaw.same(LOverlapBenchLaw$Node;LOverlapBenchLaw$Node;)Z -/
abbrev cd_223 : List (Nat × JI) := cdf_Lw_same 222
/-- OverlapBenchLaw.same(LOverlapBenchLaw$Node;LOverlapBenchLaw$Node;)Z -/
abbrev cd_224 : List (Nat × JI) := cdf_Lw_same 223
/-- OverlapBenchLaw$Sys.step(LOverlapBenchLaw$Node;I)LOverlapBenchLaw$Node; -/
def cd_225 : List (Nat × JI) := [(0, .iload_n 2, 1, 0, 0, 0), (1, .ifCond .ge 7, 3, 8, 0, 0), (4, .aconst_null, 1, 0, 0, 0), (5, .goto 18, 3, 23, 0, 0), (8, .aload_n 0, 1, 0, 0, 0), (9, .aload_n 0, 1, 0, 0, 0), (10, .aload_n 1, 1, 0, 0, 0), (11, .iload_n 2, 1, 0, 0, 0), (12, .invokestatic 80, 3, 230, 2, 6236), (15, .invokevirtual 71, 3, 212, 1, 6211), (18, .aload_n 1, 1, 0, 0, 0), (19, .iload_n 2, 1, 0, 0, 0), (20, .invokevirtual 91, 3, 231, 3, 7000), (23, .areturn, 1, 0, 0, 0)]
/-- OverlapBenchLaw.at(LOverlapBenchLaw$Node;I)LOverlapBenchLaw$Node; -/
def cdf_Lw_at (z : Nat) : List (Nat × JI) := [(0, .iload_n 1, 1, 0, 0, 0), (1, .ifCond .ne 5, 3, 6, 0, 0), (4, .aload_n 0, 1, 0, 0, 0), (5, .areturn, 1, 0, 0, 0), (6, .aload_n 0, 1, 0, 0, 0), (7, .getfield 25, 3, 11, 1, 5196), (10, .invokestatic 31, 3, 211, 1, 6210), (13, .istore_n 2, 1, 0, 0, 0), (14, .iload_n 1, 1, 0, 0, 0), (15, .iload_n 2, 1, 0, 0, 0), (16, .if_icmp .gt 16, 3, 32, 0, 0), (19, .aload_n 0, 1, 0, 0, 0), (20, .getfield 25, 3, 11, 1, 5196), (23, .iload_n 1, 1, 0, 0, 0), (24, .iconst 1, 1, 0, 0, 0), (25, .isub, 1, 0, 0, 0), (26, .invokestatic 63, 3, z, 2, 6239), (29, .goto 15, 3, 44, 0, 0), (32, .aload_n 0, 1, 0, 0, 0), (33, .getfield 35, 3, 11, 2, 5199), (36, .iload_n 1, 1, 0, 0, 0), (37, .iconst 1, 1, 0, 0, 0), (38, .isub, 1, 0, 0, 0), (39, .iload_n 2, 1, 0, 0, 0), (40, .isub, 1, 0, 0, 0), (41, .invokestatic 63, 3, z, 2, 6239), (44, .areturn, 1, 0, 0, 0)]
abbrev cd_226 : List (Nat × JI) := cdf_Lw_at 9998
/-- OverlapBenchLaw.at(LOverlapBenchLaw$Node;I)LOverlapBenchLaw$Node; -/
abbrev cd_227 : List (Nat × JI) := cdf_Lw_at 226
/-- OverlapBenchLaw.at(LOverlapBenchLaw$Node;I)LOverlapBenchLaw$Node; -/
abbrev cd_228 : List (Nat × JI) := cdf_Lw_at 227
/-- OverlapBenchLaw.at(LOverlapBenchLaw$Node;I)LOverlapBenchLaw$Node; -/
abbrev cd_229 : List (Nat × JI) := cdf_Lw_at 228
/-- OverlapBenchLaw.at(LOverlapBenchLaw$Node;I)LOverlapBenchLaw$Node; -/
abbrev cd_230 : List (Nat × JI) := cdf_Lw_at 229
/-- OverlapBenchLaw$Sys.rewrite(ILOverlapBenchLaw$Node;I)LOverlapBenchLaw$Node; -/
def cd_231 : List (Nat × JI) := [(0, .iload_n 1, 1, 0, 0, 0), (1, .ifCond .lt 16, 3, 17, 0, 0), (4, .aload_n 0, 1, 0, 0, 0), (5, .iload_n 1, 1, 0, 0, 0), (6, .aload_n 2, 1, 0, 0, 0), (7, .iload_n 3, 1, 0, 0, 0), (8, .invokestatic 80, 3, 230, 2, 6236), (11, .invokevirtual 54, 3, 213, 2, 6216), (14, .ifCond .ne 5, 3, 19, 0, 0), (17, .aconst_null, 1, 0, 0, 0), (18, .areturn, 1, 0, 0, 0), (19, .aload_n 2, 1, 0, 0, 0), (20, .iload_n 3, 1, 0, 0, 0), (21, .aload_n 0, 1, 0, 0, 0), (22, .getfield 10, 3, 12, 0, 5166), (25, .iload_n 1, 1, 0, 0, 0), (26, .invokevirtual 33, 3, 188, 1, 6223), (29, .checkcast 37, 3, 116, 0, 6224), (32, .iconst 1, 1, 0, 0, 0), (33, .aaload, 1, 0, 0, 0), (34, .aload_n 0, 1, 0, 0, 0), (35, .getfield 21, 3, 12, 2, 5170), (38, .invokestatic 84, 3, 236, 2, 7004), (41, .invokestatic 87, 3, 241, 3, 7008), (44, .astore 4, 2, 0, 0, 0), (46, .aload 4, 2, 0, 0, 0), (48, .invokestatic 69, 3, 211, 1, 6207), (51, .bipush 80, 2, 0, 0, 0), (53, .if_icmp .le 7, 3, 60, 0, 0), (56, .aconst_null, 1, 0, 0, 0), (57, .goto 5, 3, 62, 0, 0), (60, .aload 4, 2, 0, 0, 0), (62, .areturn, 1, 0, 0, 0)]
/-- OverlapBenchLaw.fill(LOverlapBenchLaw$Node;[LOverlapBenchLaw$Node;)LOverlapBenchLaw$Node; -/
def cdf_Lw_fill (z : Nat) : List (Nat × JI) := [(0, .aload_n 0, 1, 0, 0, 0), (1, .ifnonnull 5, 3, 6, 0, 0), (4, .aconst_null, 1, 0, 0, 0), (5, .areturn, 1, 0, 0, 0), (6, .aload_n 0, 1, 0, 0, 0), (7, .getfield 47, 3, 11, 0, 5193), (10, .bipush 100, 2, 0, 0, 0), (12, .if_icmp .lt 15, 3, 27, 0, 0), (15, .aload_n 1, 1, 0, 0, 0), (16, .aload_n 0, 1, 0, 0, 0), (17, .getfield 47, 3, 11, 0, 5193), (20, .bipush 100, 2, 0, 0, 0), (22, .isub, 1, 0, 0, 0), (23, .aaload, 1, 0, 0, 0), (24, .goto 30, 3, 54, 0, 0), (27, .new 26, 3, 11, 0, 5186), (30, .dup, 1, 0, 0, 0), (31, .aload_n 0, 1, 0, 0, 0), (32, .getfield 47, 3, 11, 0, 5193), (35, .aload_n 0, 1, 0, 0, 0), (36, .getfield 25, 3, 11, 1, 5196), (39, .aload_n 1, 1, 0, 0, 0), (40, .invokestatic 94, 3, z, 2, 7007), (43, .aload_n 0, 1, 0, 0, 0), (44, .getfield 35, 3, 11, 2, 5199), (47, .aload_n 1, 1, 0, 0, 0), (48, .invokestatic 94, 3, z, 2, 7007), (51, .invokespecial 70, 3, 158, 3, 5188), (54, .areturn, 1, 0, 0, 0)]
abbrev cd_232 : List (Nat × JI) := cdf_Lw_fill 9998
/-- OverlapBenchLaw.fill(LOverlapBenchLaw$Node;[LOverlapBenchLaw$Node;)LOverlapBenchLaw$Node; -/
abbrev cd_233 : List (Nat × JI) := cdf_Lw_fill 232
/-- OverlapBenchLaw.fill(LOverlapBenchLaw$Node;[LOverlapBenchLaw$Node;)LOverlapBenchLaw$Node; -/
abbrev cd_234 : List (Nat × JI) := cdf_Lw_fill 233
/-- OverlapBenchLaw.fill(LOverlapBenchLaw$Node;[LOverlapBenchLaw$Node;)LOverlapBenchLaw$Node; -/
abbrev cd_235 : List (Nat × JI) := cdf_Lw_fill 234
/-- OverlapBenchLaw.fill(LOverlapBenchLaw$Node;[LOverlapBenchLaw$Node;)LOverlapBenchLaw$Node; -/
abbrev cd_236 : List (Nat × JI) := cdf_Lw_fill 235
/-- OverlapBenchLaw.put(LOverlapBenchLaw$Node;ILOverlapBenchLaw$Node;)LOverlapBenchLaw$Node; -/
def cdf_Lw_put (z : Nat) : List (Nat × JI) := [(0, .iload_n 1, 1, 0, 0, 0), (1, .ifCond .ne 5, 3, 6, 0, 0), (4, .aload_n 2, 1, 0, 0, 0), (5, .areturn, 1, 0, 0, 0), (6, .aload_n 0, 1, 0, 0, 0), (7, .getfield 25, 3, 11, 1, 5196), (10, .invokestatic 31, 3, 211, 1, 6210), (13, .istore_n 3, 1, 0, 0, 0), (14, .iload_n 1, 1, 0, 0, 0), (15, .iload_n 3, 1, 0, 0, 0), (16, .if_icmp .gt 32, 3, 48, 0, 0), (19, .new 26, 3, 11, 0, 5186), (22, .dup, 1, 0, 0, 0), (23, .aload_n 0, 1, 0, 0, 0), (24, .getfield 47, 3, 11, 0, 5193), (27, .aload_n 0, 1, 0, 0, 0), (28, .getfield 25, 3, 11, 1, 5196), (31, .iload_n 1, 1, 0, 0, 0), (32, .iconst 1, 1, 0, 0, 0), (33, .isub, 1, 0, 0, 0), (34, .aload_n 2, 1, 0, 0, 0), (35, .invokestatic 67, 3, z, 3, 7011), (38, .aload_n 0, 1, 0, 0, 0), (39, .getfield 35, 3, 11, 2, 5199), (42, .invokespecial 70, 3, 158, 3, 5188), (45, .goto 31, 3, 76, 0, 0), (48, .new 26, 3, 11, 0, 5186), (51, .dup, 1, 0, 0, 0), (52, .aload_n 0, 1, 0, 0, 0), (53, .getfield 47, 3, 11, 0, 5193), (56, .aload_n 0, 1, 0, 0, 0), (57, .getfield 25, 3, 11, 1, 5196), (60, .aload_n 0, 1, 0, 0, 0), (61, .getfield 35, 3, 11, 2, 5199), (64, .iload_n 1, 1, 0, 0, 0), (65, .iconst 1, 1, 0, 0, 0), (66, .isub, 1, 0, 0, 0), (67, .iload_n 3, 1, 0, 0, 0), (68, .isub, 1, 0, 0, 0), (69, .aload_n 2, 1, 0, 0, 0), (70, .invokestatic 67, 3, z, 3, 7011), (73, .invokespecial 70, 3, 158, 3, 5188), (76, .areturn, 1, 0, 0, 0)]
abbrev cd_237 : List (Nat × JI) := cdf_Lw_put 9998
/-- OverlapBenchLaw.put(LOverlapBenchLaw$Node;ILOverlapBenchLaw$Node;)LOverlapBenchLaw$Node; -/
abbrev cd_238 : List (Nat × JI) := cdf_Lw_put 237
/-- OverlapBenchLaw.put(LOverlapBenchLaw$Node;ILOverlapBenchLaw$Node;)LOverlapBenchLaw$Node; -/
abbrev cd_239 : List (Nat × JI) := cdf_Lw_put 238
/-- OverlapBenchLaw.put(LOverlapBenchLaw$Node;ILOverlapBenchLaw$Node;)LOverlapBenchLaw$Node; -/
abbrev cd_240 : List (Nat × JI) := cdf_Lw_put 239
/-- OverlapBenchLaw.put(LOverlapBenchLaw$Node;ILOverlapBenchLaw$Node;)LOverlapBenchLaw$Node; -/
abbrev cd_241 : List (Nat × JI) := cdf_Lw_put 240
/-- java/util/ArrayList.set(ILjava/lang/Object;)Ljava/lang/Object; -/
def cd_242 : List (Nat × JI) := [(0, .iload_n 1, 1, 0, 0, 0), (1, .aload_n 0, 1, 0, 0, 0), (2, .getfield 48, 3, 13, 2, 5153), (5, .invokestatic 118, 3, 189, 2, 6172), (8, .pop, 1, 0, 0, 0), (9, .aload_n 0, 1, 0, 0, 0), (10, .iload_n 1, 1, 0, 0, 0), (11, .invokevirtual 123, 3, 190, 1, 6176), (14, .astore_n 3, 1, 0, 0, 0), (15, .aload_n 0, 1, 0, 0, 0), (16, .getfield 9, 3, 13, 1, 5152), (19, .iload_n 1, 1, 0, 0, 0), (20, .aload_n 2, 1, 0, 0, 0), (21, .aastore, 1, 0, 0, 0), (22, .aload_n 3, 1, 0, 0, 0), (23, .areturn, 1, 0, 0, 0)]
/-- java/lang/StringBuilder.toString()Ljava/lang/String; -/
def cd_243 : List (Nat × JI) := [(0, .new 18, 3, 15, 0, 7021), (3, .dup, 1, 0, 0, 0), (4, .aload_n 0, 1, 0, 0, 0), (5, .invokespecial 137, 3, 244, 1, 7023), (8, .areturn, 1, 0, 0, 0)]
/-- java/lang/String.<init>(Ljava/lang/StringBuilder;)V -/
def cd_244 : List (Nat × JI) := [(0, .aload_n 0, 1, 0, 0, 0), (1, .aload_n 1, 1, 0, 0, 0), (2, .aconst_null, 1, 0, 0, 0), (3, .invokespecial 489, 3, 245, 2, 7026), (6, .return_, 1, 0, 0, 0)]
/-- java/lang/String.<init>(Ljava/lang/AbstractStringBuilder;Ljava/lang/Void;)V -/
def cd_245 : List (Nat × JI) := [(0, .aload_n 0, 1, 0, 0, 0), (1, .invokespecial 1, 3, 1, 0, 7029), (4, .aload_n 1, 1, 0, 0, 0), (5, .invokevirtual 552, 3, 246, 0, 7030), (8, .astore_n 3, 1, 0, 0, 0), (9, .aload_n 1, 1, 0, 0, 0), (10, .invokevirtual 549, 3, 247, 0, 7035), (13, .istore 4, 2, 0, 0, 0), (15, .aload_n 1, 1, 0, 0, 0), (16, .invokevirtual 1047, 3, 183, 0, 7043), (19, .ifCond .eq 22, 3, 41, 0, 0), (22, .aload_n 0, 1, 0, 0, 0), (23, .iconst 0, 1, 0, 0, 0), (24, .putfield 15, 3, 315, 1, 7064), (27, .aload_n 0, 1, 0, 0, 0), (28, .aload_n 3, 1, 0, 0, 0), (29, .iconst 0, 1, 0, 0, 0), (30, .iload 4, 2, 0, 0, 0), (32, .invokestatic 54, 3, 249, 3, 7044), (35, .putfield 9, 3, 215, 0, 7063), (38, .goto 59, 3, 97, 0, 0), (41, .getstatic 38, 3, 0, 0, 3011), (44, .ifCond .eq 35, 3, 79, 0, 0), (47, .aload_n 1, 1, 0, 0, 0), (48, .getfield 1048, 3, 14, 2, 6152), (51, .ifCond .eq 28, 3, 79, 0, 0), (54, .aload_n 0, 1, 0, 0, 0), (55, .aload_n 3, 1, 0, 0, 0), (56, .iconst 0, 1, 0, 0, 0), (57, .iload 4, 2, 0, 0, 0), (59, .invokestatic 1051, 3, 9998, 3, 7053), (62, .putfield 9, 3, 215, 0, 7063), (65, .aload_n 0, 1, 0, 0, 0), (66, .aload_n 0, 1, 0, 0, 0), (67, .getfield 9, 3, 15, 0, 7063), (70, .iload 4, 2, 0, 0, 0), (72, .invokestatic 47, 3, 9998, 2, 7060), (75, .putfield 15, 3, 315, 1, 7064), (78, .return_, 1, 0, 0, 0), (79, .aload_n 0, 1, 0, 0, 0), (80, .iconst 1, 1, 0, 0, 0), (81, .putfield 15, 3, 315, 1, 7064), (84, .aload_n 0, 1, 0, 0, 0), (85, .aload_n 3, 1, 0, 0, 0), (86, .iconst 0, 1, 0, 0, 0), (87, .iload 4, 2, 0, 0, 0), (89, .iconst 1, 1, 0, 0, 0), (90, .ishl, 1, 0, 0, 0), (91, .invokestatic 54, 3, 249, 3, 7044), (94, .putfield 9, 3, 215, 0, 7063), (97, .return_, 1, 0, 0, 0)]
/-- java/lang/AbstractStringBuilder.getValue()[B -/
def cd_246 : List (Nat × JI) := [(0, .aload_n 0, 1, 0, 0, 0), (1, .getfield 15, 3, 14, 0, 6150), (4, .areturn, 1, 0, 0, 0)]
/-- java/lang/StringBuilder.length()I -/
def cd_247 : List (Nat × JI) := [(0, .aload_n 0, 1, 0, 0, 0), (1, .invokespecial 343, 3, 248, 0, 7041), (4, .ireturn, 1, 0, 0, 0)]
/-- java/lang/AbstractStringBuilder.length()I -/
def cd_248 : List (Nat × JI) := [(0, .aload_n 0, 1, 0, 0, 0), (1, .getfield 79, 3, 14, 3, 6153), (4, .ireturn, 1, 0, 0, 0)]
/-- java/util/Arrays.copyOfRange([BII)[B -/
def cd_249 : List (Nat × JI) := [(0, .iload_n 1, 1, 0, 0, 0), (1, .ifCond .ne 9, 3, 10, 0, 0), (4, .iload_n 2, 1, 0, 0, 0), (5, .aload_n 0, 1, 0, 0, 0), (6, .arraylength, 1, 0, 0, 0), (7, .if_icmp .eq 10, 3, 17, 0, 0), (10, .aload_n 0, 1, 0, 0, 0), (11, .iload_n 1, 1, 0, 0, 0), (12, .iload_n 2, 1, 0, 0, 0), (13, .invokestatic 339, 3, 250, 3, 7047), (16, .areturn, 1, 0, 0, 0), (17, .aload_n 0, 1, 0, 0, 0), (18, .invokevirtual 310, 3, 8002, 0, 6089), (21, .checkcast 311, 3, 101, 0, 6095), (24, .areturn, 1, 0, 0, 0)]
/-- java/util/Arrays.copyOfRangeByte([BII)[B -/
def cd_250 : List (Nat × JI) := [(0, .iload_n 1, 1, 0, 0, 0), (1, .iload_n 2, 1, 0, 0, 0), (2, .invokestatic 343, 3, 251, 2, 7050), (5, .iload_n 2, 1, 0, 0, 0), (6, .iload_n 1, 1, 0, 0, 0), (7, .isub, 1, 0, 0, 0), (8, .istore_n 3, 1, 0, 0, 0), (9, .iload_n 3, 1, 0, 0, 0), (10, .newarray .byte, 2, 101, 0, 4023), (12, .astore 4, 2, 0, 0, 0), (14, .aload_n 0, 1, 0, 0, 0), (15, .iload_n 1, 1, 0, 0, 0), (16, .aload 4, 2, 0, 0, 0), (18, .iconst 0, 1, 0, 0, 0), (19, .aload_n 0, 1, 0, 0, 0), (20, .arraylength, 1, 0, 0, 0), (21, .iload_n 1, 1, 0, 0, 0), (22, .isub, 1, 0, 0, 0), (23, .iload_n 3, 1, 0, 0, 0), (24, .invokestatic 304, 3, 72, 2, 6030), (27, .invokestatic 150, 3, 8001, 5, 6031), (30, .aload 4, 2, 0, 0, 0), (32, .areturn, 1, 0, 0, 0)]
/-- java/util/Arrays.checkLength(II)V -/
def cd_251 : List (Nat × JI) := [(0, .iload_n 1, 1, 0, 0, 0), (1, .iload_n 0, 1, 0, 0, 0), (2, .if_icmp .ge 35, 3, 37, 0, 0), (5, .new 43, 3, 9998, 0, 99999999), (8, .dup, 1, 0, 0, 0), (9, .new 45, 3, 9998, 0, 99999999), (12, .dup, 1, 0, 0, 0), (13, .invokespecial 47, 3, 9998, 0, 99999999), (16, .iload_n 0, 1, 0, 0, 0), (17, .invokevirtual 54, 3, 9998, 1, 99999999), (20, .ldc_w 337, 3, 0, 2, 99999999), (23, .invokevirtual 50, 3, 9998, 1, 99999999), (26, .iload_n 1, 1, 0, 0, 0), (27, .invokevirtual 54, 3, 9998, 1, 99999999), (30, .invokevirtual 61, 3, 9998, 0, 99999999), (33, .invokespecial 65, 3, 9999, 1, 99999999), (36, .athrow, 1, 0, 0, 0), (37, .return_, 1, 0, 0, 0)]
/-- OverlapBenchLaw.told(LOverlapBench;[ILjava/lang/CharSequence;)I -/
def cd_252 : List (Nat × JI) := [(0, .iconst 0, 1, 0, 0, 0), (1, .istore_n 3, 1, 0, 0, 0), (2, .iload_n 3, 1, 0, 0, 0), (3, .aload_n 2, 1, 0, 0, 0), (4, .invokeinterface 167 1, 5, 20, 0, 7078), (9, .if_icmp .ge 21, 3, 30, 0, 0), (12, .aload_n 0, 1, 0, 0, 0), (13, .aload_n 1, 1, 0, 0, 0), (14, .aload_n 2, 1, 0, 0, 0), (15, .iload_n 3, 1, 0, 0, 0), (16, .invokeinterface 172 2, 5, 22, 1, 7090), (21, .invokestatic 21, 3, 253, 3, 7107), (24, .iinc 3 1, 3, 0, 0, 0), (27, .goto (-25), 3, 2, 0, 0), (30, .aload_n 0, 1, 0, 0, 0), (31, .aload_n 1, 1, 0, 0, 0), (32, .invokestatic 173, 3, 257, 2, 7121), (35, .ireturn, 1, 0, 0, 0)]
/-- OverlapBenchLaw.put(LOverlapBench;[II)V -/
def cd_253 : List (Nat × JI) := [(0, .aload_n 1, 1, 0, 0, 0), (1, .iconst 5, 1, 0, 0, 0), (2, .iaload, 1, 0, 0, 0), (3, .istore_n 3, 1, 0, 0, 0), (4, .aload_n 1, 1, 0, 0, 0), (5, .iload_n 3, 1, 0, 0, 0), (6, .iconst 4, 1, 0, 0, 0), (7, .idiv, 1, 0, 0, 0), (8, .aload_n 1, 1, 0, 0, 0), (9, .iload_n 3, 1, 0, 0, 0), (10, .iconst 4, 1, 0, 0, 0), (11, .idiv, 1, 0, 0, 0), (12, .iaload, 1, 0, 0, 0), (13, .bipush 8, 2, 0, 0, 0), (15, .ishl, 1, 0, 0, 0), (16, .iload_n 2, 1, 0, 0, 0), (17, .ior, 1, 0, 0, 0), (18, .iastore, 1, 0, 0, 0), (19, .aload_n 1, 1, 0, 0, 0), (20, .iconst 5, 1, 0, 0, 0), (21, .dup2, 1, 0, 0, 0), (22, .iaload, 1, 0, 0, 0), (23, .iconst 1, 1, 0, 0, 0), (24, .iadd, 1, 0, 0, 0), (25, .iastore, 1, 0, 0, 0), (26, .aload_n 1, 1, 0, 0, 0), (27, .bipush 6, 2, 0, 0, 0), (29, .dup2, 1, 0, 0, 0), (30, .iaload, 1, 0, 0, 0), (31, .iconst 1, 1, 0, 0, 0), (32, .iadd, 1, 0, 0, 0), (33, .iastore, 1, 0, 0, 0), (34, .aload_n 1, 1, 0, 0, 0), (35, .iconst 5, 1, 0, 0, 0), (36, .iaload, 1, 0, 0, 0), (37, .bipush 20, 2, 0, 0, 0), (39, .if_icmp .ne 8, 3, 47, 0, 0), (42, .aload_n 0, 1, 0, 0, 0), (43, .aload_n 1, 1, 0, 0, 0), (44, .invokestatic 7, 3, 254, 2, 7110), (47, .return_, 1, 0, 0, 0)]
/-- OverlapBenchLaw.flush(LOverlapBench;[I)V -/
def cd_254 : List (Nat × JI) := [(0, .aload_n 0, 1, 0, 0, 0), (1, .aload_n 1, 1, 0, 0, 0), (2, .iconst 0, 1, 0, 0, 0), (3, .iaload, 1, 0, 0, 0), (4, .aload_n 1, 1, 0, 0, 0), (5, .iconst 1, 1, 0, 0, 0), (6, .iaload, 1, 0, 0, 0), (7, .aload_n 1, 1, 0, 0, 0), (8, .iconst 2, 1, 0, 0, 0), (9, .iaload, 1, 0, 0, 0), (10, .aload_n 1, 1, 0, 0, 0), (11, .iconst 3, 1, 0, 0, 0), (12, .iaload, 1, 0, 0, 0), (13, .aload_n 1, 1, 0, 0, 0), (14, .iconst 4, 1, 0, 0, 0), (15, .iaload, 1, 0, 0, 0), (16, .invokevirtual 13, 3, 255, 5, 7113), (19, .istore_n 2, 1, 0, 0, 0), (20, .aload_n 1, 1, 0, 0, 0), (21, .iconst 5, 1, 0, 0, 0), (22, .iconst 0, 1, 0, 0, 0), (23, .iastore, 1, 0, 0, 0), (24, .return_, 1, 0, 0, 0)]
/-- OverlapBench.append(IIIII)I -/
def cd_255 : List (Nat × JI) := [(0, .aload_n 0, 1, 0, 0, 0), (1, .getfield 44, 3, 10, 5, 2110), (4, .getfield 94, 3, 3, 4, 1222), (7, .sipush 480, 3, 0, 0, 0), (10, .if_icmp .le 5, 3, 15, 0, 0), (13, .iconst (-1), 1, 0, 0, 0), (14, .ireturn, 1, 0, 0, 0), (15, .aload_n 0, 1, 0, 0, 0), (16, .getfield 44, 3, 10, 5, 2110), (19, .iload_n 1, 1, 0, 0, 0), (20, .invokevirtual 98, 3, 256, 1, 7117), (23, .aload_n 0, 1, 0, 0, 0), (24, .getfield 44, 3, 10, 5, 2110), (27, .iload_n 2, 1, 0, 0, 0), (28, .invokevirtual 98, 3, 256, 1, 7117), (31, .aload_n 0, 1, 0, 0, 0), (32, .getfield 44, 3, 10, 5, 2110), (35, .iload_n 3, 1, 0, 0, 0), (36, .invokevirtual 98, 3, 256, 1, 7117), (39, .aload_n 0, 1, 0, 0, 0), (40, .getfield 44, 3, 10, 5, 2110), (43, .iload 4, 2, 0, 0, 0), (45, .invokevirtual 98, 3, 256, 1, 7117), (48, .aload_n 0, 1, 0, 0, 0), (49, .getfield 44, 3, 10, 5, 2110), (52, .iload 5, 2, 0, 0, 0), (54, .invokevirtual 98, 3, 256, 1, 7117), (57, .aload_n 0, 1, 0, 0, 0), (58, .getfield 44, 3, 10, 5, 2110), (61, .getfield 94, 3, 3, 4, 1222), (64, .ireturn, 1, 0, 0, 0)]
/-- OverlapBench$Parser.putFourBytes(I)V -/
def cd_256 : List (Nat × JI) := [(0, .bipush 24, 2, 0, 0, 0), (2, .istore_n 2, 1, 0, 0, 0), (3, .iload_n 2, 1, 0, 0, 0), (4, .ifCond .lt 54, 3, 58, 0, 0), (7, .aload_n 0, 1, 0, 0, 0), (8, .getfield 32, 3, 3, 4, 1221), (11, .ifCond .lt 41, 3, 52, 0, 0), (14, .aload_n 0, 1, 0, 0, 0), (15, .getfield 32, 3, 3, 4, 1221), (18, .aload_n 0, 1, 0, 0, 0), (19, .getfield 35, 3, 3, 5, 1223), (22, .arraylength, 1, 0, 0, 0), (23, .if_icmp .ge 29, 3, 52, 0, 0), (26, .aload_n 0, 1, 0, 0, 0), (27, .getfield 35, 3, 3, 5, 1223), (30, .aload_n 0, 1, 0, 0, 0), (31, .getfield 32, 3, 3, 4, 1221), (34, .iload_n 1, 1, 0, 0, 0), (35, .iload_n 2, 1, 0, 0, 0), (36, .iushr, 1, 0, 0, 0), (37, .sipush 255, 3, 0, 0, 0), (40, .iand, 1, 0, 0, 0), (41, .iastore, 1, 0, 0, 0), (42, .aload_n 0, 1, 0, 0, 0), (43, .dup, 1, 0, 0, 0), (44, .getfield 32, 3, 3, 4, 1221), (47, .iconst 1, 1, 0, 0, 0), (48, .iadd, 1, 0, 0, 0), (49, .putfield 32, 3, 3, 4, 1221), (52, .iinc 2 (-8), 3, 0, 0, 0), (55, .goto (-52), 3, 3, 0, 0), (58, .return_, 1, 0, 0, 0)]
/-- OverlapBenchLaw.said(LOverlapBench;[I)I -/
def cd_257 : List (Nat × JI) := [(0, .aload_n 1, 1, 0, 0, 0), (1, .bipush 6, 2, 0, 0, 0), (3, .iaload, 1, 0, 0, 0), (4, .istore_n 2, 1, 0, 0, 0), (5, .aload_n 1, 1, 0, 0, 0), (6, .iconst 5, 1, 0, 0, 0), (7, .iaload, 1, 0, 0, 0), (8, .ifCond .le 13, 3, 21, 0, 0), (11, .aload_n 0, 1, 0, 0, 0), (12, .aload_n 1, 1, 0, 0, 0), (13, .bipush 32, 2, 0, 0, 0), (15, .invokestatic 21, 3, 253, 3, 7107), (18, .goto (-13), 3, 5, 0, 0), (21, .aload_n 1, 1, 0, 0, 0), (22, .bipush 6, 2, 0, 0, 0), (24, .iconst 0, 1, 0, 0, 0), (25, .iastore, 1, 0, 0, 0), (26, .iload_n 2, 1, 0, 0, 0), (27, .ireturn, 1, 0, 0, 0)]
/-- OverlapBenchLaw.isWhole(LOverlapBench;II)Z -/
def cd_258 : List (Nat × JI) := [(0, .aload_n 0, 1, 0, 0, 0), (1, .iload_n 1, 1, 0, 0, 0), (2, .invokevirtual 242, 3, 92, 1, 4124), (5, .aload_n 0, 1, 0, 0, 0), (6, .iload_n 1, 1, 0, 0, 0), (7, .invokevirtual 246, 3, 88, 1, 4107), (10, .ifCond .ne 7, 3, 17, 0, 0), (13, .iconst 1, 1, 0, 0, 0), (14, .goto 4, 3, 18, 0, 0), (17, .iconst 0, 1, 0, 0, 0), (18, .if_icmp .ne 45, 3, 63, 0, 0), (21, .aload_n 0, 1, 0, 0, 0), (22, .iload_n 1, 1, 0, 0, 0), (23, .invokevirtual 242, 3, 92, 1, 4124), (26, .aload_n 0, 1, 0, 0, 0), (27, .iload_n 1, 1, 0, 0, 0), (28, .invokevirtual 249, 3, 90, 1, 4115), (31, .ifCond .ge 7, 3, 38, 0, 0), (34, .iconst 1, 1, 0, 0, 0), (35, .goto 4, 3, 39, 0, 0), (38, .iconst 0, 1, 0, 0, 0), (39, .if_icmp .ne 24, 3, 63, 0, 0), (42, .aload_n 0, 1, 0, 0, 0), (43, .iload_n 1, 1, 0, 0, 0), (44, .invokevirtual 242, 3, 92, 1, 4124), (47, .aload_n 0, 1, 0, 0, 0), (48, .iload_n 1, 1, 0, 0, 0), (49, .invokevirtual 258, 3, 91, 1, 4120), (52, .ifCond .ge 7, 3, 59, 0, 0), (55, .iconst 1, 1, 0, 0, 0), (56, .goto 4, 3, 60, 0, 0), (59, .iconst 0, 1, 0, 0, 0), (60, .if_icmp .eq 5, 3, 65, 0, 0), (63, .iconst 0, 1, 0, 0, 0), (64, .ireturn, 1, 1, 0, 0), (65, .aload_n 0, 1, 0, 0, 0), (66, .iload_n 1, 1, 0, 0, 0), (67, .iload_n 2, 1, 0, 0, 0), (68, .invokevirtual 308, 3, 259, 2, 7127), (71, .aload_n 0, 1, 0, 0, 0), (72, .iload_n 2, 1, 0, 0, 0), (73, .iload_n 1, 1, 0, 0, 0), (74, .invokevirtual 308, 3, 259, 2, 7127), (77, .if_icmp .ne 36, 3, 113, 0, 0), (80, .aload_n 0, 1, 0, 0, 0), (81, .iload_n 1, 1, 0, 0, 0), (82, .iload_n 2, 1, 0, 0, 0), (83, .invokevirtual 312, 3, 261, 2, 7138), (86, .aload_n 0, 1, 0, 0, 0), (87, .iload_n 2, 1, 0, 0, 0), (88, .iload_n 1, 1, 0, 0, 0), (89, .invokevirtual 312, 3, 261, 2, 7138), (92, .if_icmp .ne 21, 3, 113, 0, 0), (95, .aload_n 0, 1, 0, 0, 0), (96, .iload_n 1, 1, 0, 0, 0), (97, .iload_n 1, 1, 0, 0, 0), (98, .invokevirtual 308, 3, 259, 2, 7127), (101, .ifCond .eq 12, 3, 113, 0, 0), (104, .aload_n 0, 1, 0, 0, 0), (105, .iload_n 1, 1, 0, 0, 0), (106, .iload_n 1, 1, 0, 0, 0), (107, .invokevirtual 315, 3, 262, 2, 7143), (110, .ifCond .ne 5, 3, 115, 0, 0), (113, .iconst 0, 1, 0, 0, 0), (114, .ireturn, 1, 1, 0, 0), (115, .aload_n 0, 1, 0, 0, 0), (116, .iload_n 1, 1, 0, 0, 0), (117, .iload_n 2, 1, 0, 0, 0), (118, .invokevirtual 315, 3, 262, 2, 7143), (121, .ifCond .eq 16, 3, 137, 0, 0), (124, .aload_n 0, 1, 0, 0, 0), (125, .iload_n 1, 1, 0, 0, 0), (126, .invokevirtual 233, 3, 93, 1, 4128), (129, .aload_n 0, 1, 0, 0, 0), (130, .iload_n 2, 1, 0, 0, 0), (131, .invokevirtual 233, 3, 93, 1, 4128), (134, .if_icmp .ne 7, 3, 141, 0, 0), (137, .iconst 1, 1, 0, 0, 0), (138, .goto 4, 3, 142, 0, 0), (141, .iconst 0, 1, 0, 0, 0), (142, .ireturn, 1, 1, 0, 0)]
/-- OverlapBench.unify(II)Z -/
def cd_259 : List (Nat × JI) := [(0, .aload_n 0, 1, 0, 0, 0), (1, .iload_n 1, 1, 0, 0, 0), (2, .invokevirtual 186, 3, 81, 1, 4074), (5, .astore_n 3, 1, 0, 0, 0), (6, .aload_n 0, 1, 0, 0, 0), (7, .getfield 37, 3, 10, 4, 2109), (10, .aload_n 3, 1, 0, 0, 0), (11, .aload_n 0, 1, 0, 0, 0), (12, .iload_n 2, 1, 0, 0, 0), (13, .invokevirtual 186, 3, 81, 1, 4074), (16, .invokevirtual 241, 3, 260, 2, 7131), (19, .ireturn, 1, 1, 0, 0)]
/-- OverlapBench$Unifier.unites(LOverlapBench$Term;LOverlapBench$Term;)Z -/
def cd_260 : List (Nat × JI) := [(0, .aload_n 0, 1, 0, 0, 0), (1, .invokevirtual 58, 3, 101, 0, 7135), (4, .aload_n 0, 1, 0, 0, 0), (5, .aload_n 1, 1, 0, 0, 0), (6, .iconst 0, 1, 0, 0, 0), (7, .invokevirtual 61, 3, 102, 2, 7136), (10, .istore_n 3, 1, 0, 0, 0), (11, .aload_n 0, 1, 0, 0, 0), (12, .aload_n 2, 1, 0, 0, 0), (13, .bipush 8, 2, 0, 0, 0), (15, .invokevirtual 61, 3, 102, 2, 7136), (18, .istore 4, 2, 0, 0, 0), (20, .aload_n 0, 1, 0, 0, 0), (21, .iload_n 3, 1, 0, 0, 0), (22, .iload 4, 2, 0, 0, 0), (24, .invokevirtual 65, 3, 104, 2, 7137), (27, .ireturn, 1, 1, 0, 0)]
/-- OverlapBench.unifiedSize(II)I -/
def cd_261 : List (Nat × JI) := [(0, .aload_n 0, 1, 0, 0, 0), (1, .iload_n 1, 1, 0, 0, 0), (2, .invokevirtual 186, 3, 81, 1, 4074), (5, .astore_n 3, 1, 0, 0, 0), (6, .aload_n 0, 1, 0, 0, 0), (7, .getfield 37, 3, 10, 4, 2109), (10, .aload_n 3, 1, 0, 0, 0), (11, .aload_n 0, 1, 0, 0, 0), (12, .iload_n 2, 1, 0, 0, 0), (13, .invokevirtual 186, 3, 81, 1, 4074), (16, .invokevirtual 241, 3, 260, 2, 7131), (19, .ifCond .ne 5, 3, 24, 0, 0), (22, .iconst (-1), 1, 0, 0, 0), (23, .ireturn, 1, 0, 0, 0), (24, .aload_n 0, 1, 0, 0, 0), (25, .getfield 86, 3, 10, 13, 2118), (28, .invokevirtual 245, 3, 41, 0, 5088), (31, .aload_n 0, 1, 0, 0, 0), (32, .getfield 37, 3, 10, 4, 2109), (35, .iconst 0, 1, 0, 0, 0), (36, .aload_n 0, 1, 0, 0, 0), (37, .getfield 86, 3, 10, 13, 2118), (40, .invokevirtual 248, 3, 119, 2, 7142), (43, .ifCond .eq 13, 3, 56, 0, 0), (46, .aload_n 0, 1, 0, 0, 0), (47, .getfield 86, 3, 10, 13, 2118), (50, .getfield 170, 3, 8, 1, 1100), (53, .goto 4, 3, 57, 0, 0), (56, .iconst (-1), 1, 0, 0, 0), (57, .ireturn, 1, 0, 0, 0)]
/-- OverlapBench.areEqual(II)Z -/
def cd_262 : List (Nat × JI) := [(0, .aload_n 0, 1, 0, 0, 0), (1, .iload_n 1, 1, 0, 0, 0), (2, .invokevirtual 186, 3, 81, 1, 4074), (5, .aload_n 0, 1, 0, 0, 0), (6, .iload_n 2, 1, 0, 0, 0), (7, .invokevirtual 186, 3, 81, 1, 4074), (10, .invokevirtual 207, 3, 128, 1, 7147), (13, .ireturn, 1, 1, 0, 0)]
/-- OverlapBenchLaw.sees(LOverlapBench;[J)V -/
def cd_263 : List (Nat × JI) := [(0, .aload_n 1, 1, 0, 0, 0), (1, .lconst 0, 1, 0, 0, 0), (2, .invokestatic 318, 3, 8003, 2, 7151), (5, .aload_n 1, 1, 0, 0, 0), (6, .iconst 0, 1, 0, 0, 0), (7, .aload_n 0, 1, 0, 0, 0), (8, .invokevirtual 182, 3, 77, 0, 4043), (11, .i2l, 1, 0, 0, 0), (12, .lastore, 1, 0, 0, 0), (13, .aload_n 1, 1, 0, 0, 0), (14, .iconst 1, 1, 0, 0, 0), (15, .aload_n 0, 1, 0, 0, 0), (16, .invokevirtual 185, 3, 79, 0, 4066), (19, .i2l, 1, 0, 0, 0), (20, .lastore, 1, 0, 0, 0), (21, .iconst 0, 1, 0, 0, 0), (22, .istore_n 2, 1, 0, 0, 0), (23, .iload_n 2, 1, 0, 0, 0), (24, .aload_n 0, 1, 0, 0, 0), (25, .invokevirtual 185, 3, 79, 0, 4066), (28, .if_icmp .ge 68, 3, 96, 0, 0), (31, .iconst 0, 1, 0, 0, 0), (32, .istore_n 3, 1, 0, 0, 0), (33, .iload_n 3, 1, 0, 0, 0), (34, .aload_n 0, 1, 0, 0, 0), (35, .iload_n 2, 1, 0, 0, 0), (36, .invokevirtual 203, 3, 80, 1, 4070), (39, .if_icmp .ge 51, 3, 90, 0, 0), (42, .aload_n 1, 1, 0, 0, 0), (43, .bipush 10, 2, 0, 0, 0), (45, .iload_n 2, 1, 0, 0, 0), (46, .iadd, 1, 0, 0, 0), (47, .ldc2_w 321, 3, 31, 0, 7154), (50, .aload_n 1, 1, 0, 0, 0), (51, .bipush 10, 2, 0, 0, 0), (53, .iload_n 2, 1, 0, 0, 0), (54, .iadd, 1, 0, 0, 0), (55, .laload, 1, 0, 0, 0), (56, .lmul, 1, 0, 0, 0), (57, .ldc2_w 323, 3, 8, 0, 7155), (60, .aload_n 0, 1, 0, 0, 0), (61, .iload_n 2, 1, 0, 0, 0), (62, .iload_n 3, 1, 0, 0, 0), (63, .invokevirtual 325, 3, 264, 2, 7156), (66, .iconst 1, 1, 0, 0, 0), (67, .iadd, 1, 0, 0, 0), (68, .i2l, 1, 0, 0, 0), (69, .lmul, 1, 0, 0, 0), (70, .ladd, 1, 0, 0, 0), (71, .aload_n 0, 1, 0, 0, 0), (72, .iload_n 2, 1, 0, 0, 0), (73, .iload_n 3, 1, 0, 0, 0), (74, .invokevirtual 328, 3, 266, 2, 7164), (77, .i2l, 1, 0, 0, 0), (78, .ladd, 1, 0, 0, 0), (79, .ldc2_w 331, 3, 2, 0, 7169), (82, .ladd, 1, 0, 0, 0), (83, .lastore, 1, 0, 0, 0), (84, .iinc 3 1, 3, 0, 0, 0), (87, .goto (-54), 3, 33, 0, 0), (90, .iinc 2 1, 3, 0, 0, 0), (93, .goto (-70), 3, 23, 0, 0), (96, .iconst 0, 1, 0, 0, 0), (97, .istore_n 2, 1, 0, 0, 0), (98, .iload_n 2, 1, 0, 0, 0), (99, .aload_n 0, 1, 0, 0, 0), (100, .invokevirtual 182, 3, 77, 0, 4043), (103, .if_icmp .ge 54, 3, 157, 0, 0), (106, .aload_n 0, 1, 0, 0, 0), (107, .iload_n 2, 1, 0, 0, 0), (108, .invokevirtual 192, 3, 267, 1, 7170), (111, .istore_n 3, 1, 0, 0, 0), (112, .iconst 0, 1, 0, 0, 0), (113, .istore 4, 2, 0, 0, 0), (115, .iload 4, 2, 0, 0, 0), (117, .iload_n 3, 1, 0, 0, 0), (118, .if_icmp .ge 33, 3, 151, 0, 0), (121, .aload_n 1, 1, 0, 0, 0), (122, .bipush 20, 2, 0, 0, 0), (124, .iload_n 2, 1, 0, 0, 0), (125, .iadd, 1, 0, 0, 0), (126, .ldc2_w 321, 3, 31, 0, 7154), (129, .aload_n 1, 1, 0, 0, 0), (130, .bipush 20, 2, 0, 0, 0), (132, .iload_n 2, 1, 0, 0, 0), (133, .iadd, 1, 0, 0, 0), (134, .laload, 1, 0, 0, 0), (135, .lmul, 1, 0, 0, 0), (136, .aload_n 0, 1, 0, 0, 0), (137, .iload 4, 2, 0, 0, 0), (139, .invokevirtual 177, 3, 272, 1, 7197), (142, .i2l, 1, 0, 0, 0), (143, .ladd, 1, 0, 0, 0), (144, .lastore, 1, 0, 0, 0), (145, .iinc 4 1, 3, 0, 0, 0), (148, .goto (-33), 3, 115, 0, 0), (151, .iinc 2 1, 3, 0, 0, 0), (154, .goto (-56), 3, 98, 0, 0), (157, .return_, 1, 0, 0, 0)]
/-- OverlapBench.symbolAt(II)I -/
def cd_264 : List (Nat × JI) := [(0, .aload_n 0, 1, 0, 0, 0), (1, .iload_n 1, 1, 0, 0, 0), (2, .iload_n 2, 1, 0, 0, 0), (3, .invokevirtual 194, 3, 84, 2, 4087), (6, .iload_n 2, 1, 0, 0, 0), (7, .invokevirtual 176, 3, 46, 1, 7160), (10, .invokestatic 198, 3, 265, 1, 7161), (13, .ireturn, 1, 0, 0, 0)]
/-- OverlapBench$Term.symbolOf(I)I -/
def cd_265 : List (Nat × JI) := [(0, .iload_n 0, 1, 0, 0, 0), (1, .ifCond .ge 7, 3, 8, 0, 0), (4, .iconst (-1), 1, 0, 0, 0), (5, .goto 6, 3, 11, 0, 0), (8, .iload_n 0, 1, 0, 0, 0), (9, .iconst 2, 1, 0, 0, 0), (10, .ishr, 1, 0, 0, 0), (11, .ireturn, 1, 0, 0, 0)]
/-- OverlapBench.variableAt(II)I -/
def cd_266 : List (Nat × JI) := [(0, .aload_n 0, 1, 0, 0, 0), (1, .iload_n 1, 1, 0, 0, 0), (2, .iload_n 2, 1, 0, 0, 0), (3, .invokevirtual 194, 3, 84, 2, 4087), (6, .iload_n 2, 1, 0, 0, 0), (7, .invokevirtual 176, 3, 46, 1, 7160), (10, .invokestatic 201, 3, 122, 1, 7168), (13, .ireturn, 1, 0, 0, 0)]
/-- OverlapBench.writeRule(I)I -/
def cd_267 : List (Nat × JI) := [(0, .aload_n 0, 1, 0, 0, 0), (1, .iload_n 1, 1, 0, 0, 0), (2, .invokevirtual 167, 3, 86, 1, 4096), (5, .astore_n 2, 1, 0, 0, 0), (6, .aload_n 0, 1, 0, 0, 0), (7, .getfield 58, 3, 10, 7, 2112), (10, .iconst 0, 1, 0, 0, 0), (11, .putfield 272, 3, 1, 0, 2073), (14, .aload_n 0, 1, 0, 0, 0), (15, .getfield 58, 3, 10, 7, 2112), (18, .aload_n 2, 1, 0, 0, 0), (19, .getfield 157, 3, 5, 0, 1110), (22, .aload_n 0, 1, 0, 0, 0), (23, .getfield 16, 3, 10, 1, 2106), (26, .invokevirtual 275, 3, 268, 2, 7174), (29, .aload_n 0, 1, 0, 0, 0), (30, .getfield 58, 3, 10, 7, 2112), (33, .bipush 61, 2, 0, 0, 0), (35, .invokevirtual 279, 3, 270, 1, 7196), (38, .aload_n 0, 1, 0, 0, 0), (39, .getfield 58, 3, 10, 7, 2112), (42, .aload_n 2, 1, 0, 0, 0), (43, .getfield 164, 3, 5, 1, 1115), (46, .aload_n 0, 1, 0, 0, 0), (47, .getfield 16, 3, 10, 1, 2106), (50, .invokevirtual 275, 3, 268, 2, 7174), (53, .aload_n 0, 1, 0, 0, 0), (54, .getfield 58, 3, 10, 7, 2112), (57, .getfield 272, 3, 1, 0, 2073), (60, .ireturn, 1, 0, 0, 0)]
/-- OverlapBench$Output.addTerm(LOverlapBench$Term;LOverlapBench$Signature;)V -/
def cd_268 : List (Nat × JI) := [(0, .iconst 0, 1, 0, 0, 0), (1, .istore_n 3, 1, 0, 0, 0), (2, .iconst 0, 1, 0, 0, 0), (3, .istore 4, 2, 0, 0, 0), (5, .iload 4, 2, 0, 0, 0), (7, .aload_n 1, 1, 0, 0, 0), (8, .getfield 22, 3, 8, 1, 1096), (11, .if_icmp .ge 74, 3, 85, 0, 0), (14, .aload_n 1, 1, 0, 0, 0), (15, .iload 4, 2, 0, 0, 0), (17, .invokevirtual 27, 3, 46, 1, 7178), (20, .istore 5, 2, 0, 0, 0), (22, .aload_n 0, 1, 0, 0, 0), (23, .iload 5, 2, 0, 0, 0), (25, .aload_n 2, 1, 0, 0, 0), (26, .invokevirtual 31, 3, 269, 2, 7179), (29, .iload 5, 2, 0, 0, 0), (31, .invokestatic 35, 3, 51, 1, 7191), (34, .ifCond .ne 12, 3, 46, 0, 0), (37, .aload_n 0, 1, 0, 0, 0), (38, .iload_n 3, 1, 0, 0, 0), (39, .invokevirtual 38, 3, 271, 1, 7192), (42, .istore_n 3, 1, 0, 0, 0), (43, .goto 36, 3, 79, 0, 0), (46, .iload_n 3, 1, 0, 0, 0), (47, .ifCond .lt 32, 3, 79, 0, 0), (50, .iload_n 3, 1, 0, 0, 0), (51, .aload_n 0, 1, 0, 0, 0), (52, .getfield 19, 3, 1, 2, 2075), (55, .arraylength, 1, 0, 0, 0), (56, .if_icmp .ge 23, 3, 79, 0, 0), (59, .aload_n 0, 1, 0, 0, 0), (60, .bipush 40, 2, 0, 0, 0), (62, .invokevirtual 41, 3, 270, 1, 7184), (65, .aload_n 0, 1, 0, 0, 0), (66, .getfield 19, 3, 1, 2, 2075), (69, .iload_n 3, 1, 0, 0, 0), (70, .iload 5, 2, 0, 0, 0), (72, .invokestatic 35, 3, 51, 1, 7191), (75, .iastore, 1, 0, 0, 0), (76, .iinc 3 1, 3, 0, 0, 0), (79, .iinc 4 1, 3, 0, 0, 0), (82, .goto (-77), 3, 5, 0, 0), (85, .return_, 1, 0, 0, 0)]
/-- OverlapBench$Output.addName(ILOverlapBench$Signature;)V -/
def cd_269 : List (Nat × JI) := [(0, .iload_n 1, 1, 0, 0, 0), (1, .ifCond .ge 15, 3, 16, 0, 0), (4, .aload_n 0, 1, 0, 0, 0), (5, .bipush 65, 2, 0, 0, 0), (7, .iload_n 1, 1, 0, 0, 0), (8, .invokestatic 45, 3, 122, 1, 7183), (11, .iadd, 1, 0, 0, 0), (12, .invokevirtual 41, 3, 270, 1, 7184), (15, .return_, 1, 0, 0, 0), (16, .iload_n 1, 1, 0, 0, 0), (17, .invokestatic 48, 3, 265, 1, 7188), (20, .istore_n 3, 1, 0, 0, 0), (21, .iconst 0, 1, 0, 0, 0), (22, .istore 4, 2, 0, 0, 0), (24, .iload 4, 2, 0, 0, 0), (26, .aload_n 2, 1, 0, 0, 0), (27, .iload_n 3, 1, 0, 0, 0), (28, .invokevirtual 51, 3, 31, 1, 7189), (31, .if_icmp .ge 20, 3, 51, 0, 0), (34, .aload_n 0, 1, 0, 0, 0), (35, .aload_n 2, 1, 0, 0, 0), (36, .iload_n 3, 1, 0, 0, 0), (37, .iload 4, 2, 0, 0, 0), (39, .invokevirtual 56, 3, 32, 2, 7190), (42, .invokevirtual 41, 3, 270, 1, 7184), (45, .iinc 4 1, 3, 0, 0, 0), (48, .goto (-24), 3, 24, 0, 0), (51, .return_, 1, 0, 0, 0)]
/-- OverlapBench$Output.addByte(I)V -/
def cd_270 : List (Nat × JI) := [(0, .aload_n 0, 1, 0, 0, 0), (1, .getfield 9, 3, 1, 0, 2072), (4, .ifCond .lt 35, 3, 39, 0, 0), (7, .aload_n 0, 1, 0, 0, 0), (8, .getfield 9, 3, 1, 0, 2072), (11, .aload_n 0, 1, 0, 0, 0), (12, .getfield 15, 3, 1, 1, 2074), (15, .arraylength, 1, 0, 0, 0), (16, .if_icmp .ge 23, 3, 39, 0, 0), (19, .aload_n 0, 1, 0, 0, 0), (20, .getfield 15, 3, 1, 1, 2074), (23, .aload_n 0, 1, 0, 0, 0), (24, .getfield 9, 3, 1, 0, 2072), (27, .iload_n 1, 1, 0, 0, 0), (28, .iastore, 1, 0, 0, 0), (29, .aload_n 0, 1, 0, 0, 0), (30, .dup, 1, 0, 0, 0), (31, .getfield 9, 3, 1, 0, 2072), (34, .iconst 1, 1, 0, 0, 0), (35, .iadd, 1, 0, 0, 0), (36, .putfield 9, 3, 1, 0, 2072), (39, .return_, 1, 0, 0, 0)]
/-- OverlapBench$Output.closeBrackets(I)I -/
def cd_271 : List (Nat × JI) := [(0, .iload_n 1, 1, 0, 0, 0), (1, .iconst 1, 1, 0, 0, 0), (2, .isub, 1, 0, 0, 0), (3, .istore_n 2, 1, 0, 0, 0), (4, .iload_n 2, 1, 0, 0, 0), (5, .ifCond .lt 53, 3, 58, 0, 0), (8, .iload_n 2, 1, 0, 0, 0), (9, .aload_n 0, 1, 0, 0, 0), (10, .getfield 19, 3, 1, 2, 2075), (13, .arraylength, 1, 0, 0, 0), (14, .if_icmp .ge 44, 3, 58, 0, 0), (17, .aload_n 0, 1, 0, 0, 0), (18, .getfield 19, 3, 1, 2, 2075), (21, .iload_n 2, 1, 0, 0, 0), (22, .dup2, 1, 0, 0, 0), (23, .iaload, 1, 0, 0, 0), (24, .iconst 1, 1, 0, 0, 0), (25, .isub, 1, 0, 0, 0), (26, .iastore, 1, 0, 0, 0), (27, .aload_n 0, 1, 0, 0, 0), (28, .getfield 19, 3, 1, 2, 2075), (31, .iload_n 2, 1, 0, 0, 0), (32, .iaload, 1, 0, 0, 0), (33, .ifCond .le 13, 3, 46, 0, 0), (36, .aload_n 0, 1, 0, 0, 0), (37, .bipush 44, 2, 0, 0, 0), (39, .invokevirtual 41, 3, 270, 1, 7184), (42, .iload_n 2, 1, 0, 0, 0), (43, .iconst 1, 1, 0, 0, 0), (44, .iadd, 1, 0, 0, 0), (45, .ireturn, 1, 0, 0, 0), (46, .aload_n 0, 1, 0, 0, 0), (47, .bipush 41, 2, 0, 0, 0), (49, .invokevirtual 41, 3, 270, 1, 7184), (52, .iinc 2 (-1), 3, 0, 0, 0), (55, .goto (-51), 3, 4, 0, 0), (58, .iconst 0, 1, 0, 0, 0), (59, .ireturn, 1, 0, 0, 0)]
/-- OverlapBench.outputByte(I)I -/
def cd_272 : List (Nat × JI) := [(0, .aload_n 0, 1, 0, 0, 0), (1, .iload_n 1, 1, 0, 0, 0), (2, .aload_n 0, 1, 0, 0, 0), (3, .getfield 58, 3, 10, 7, 2112), (6, .getfield 272, 3, 1, 0, 2073), (9, .invokevirtual 138, 3, 82, 2, 4078), (12, .aload_n 0, 1, 0, 0, 0), (13, .getfield 58, 3, 10, 7, 2112), (16, .iload_n 1, 1, 0, 0, 0), (17, .invokevirtual 288, 3, 273, 1, 7201), (20, .ireturn, 1, 0, 0, 0)]
/-- OverlapBench$Output.byteAt(I)I -/
def cd_273 : List (Nat × JI) := [(0, .iload_n 1, 1, 0, 0, 0), (1, .ifCond .lt 29, 3, 30, 0, 0), (4, .iload_n 1, 1, 0, 0, 0), (5, .aload_n 0, 1, 0, 0, 0), (6, .getfield 9, 3, 1, 0, 2072), (9, .if_icmp .ge 21, 3, 30, 0, 0), (12, .iload_n 1, 1, 0, 0, 0), (13, .aload_n 0, 1, 0, 0, 0), (14, .getfield 15, 3, 1, 1, 2074), (17, .arraylength, 1, 0, 0, 0), (18, .if_icmp .ge 12, 3, 30, 0, 0), (21, .aload_n 0, 1, 0, 0, 0), (22, .getfield 15, 3, 1, 1, 2074), (25, .iload_n 1, 1, 0, 0, 0), (26, .iaload, 1, 0, 0, 0), (27, .goto 4, 3, 31, 0, 0), (30, .iconst (-1), 1, 0, 0, 0), (31, .ireturn, 1, 0, 0, 0)]
/-- OverlapBenchLaw.law([I)Z -/
def cd_law_0 : List (Nat × JI) := [(0, .new 14, 3, 10, 0, 1039), (3, .dup, 1, 0, 0, 0), (4, .invokespecial 206, 3, 0, 0, 1041), (7, .astore_n 1, 1, 0, 0, 0), (8, .bipush 7, 2, 0, 0, 0), (10, .newarray .int, 2, 100, 0, 1067), (12, .astore_n 2, 1, 0, 0, 0), (13, .aload_n 0, 1, 0, 0, 0), (14, .invokestatic 207, 3, 148, 1, 5129), (17, .astore_n 3, 1, 0, 0, 0), (18, .aload_n 3, 1, 0, 0, 0), (19, .aload_n 0, 1, 0, 0, 0), (20, .bipush 10, 2, 0, 0, 0), (22, .invokestatic 109, 3, 147, 2, 5126), (25, .invokestatic 211, 3, 174, 2, 6036), (28, .astore 4, 2, 0, 0, 0), (30, .aload_n 1, 1, 0, 0, 0), (31, .aload_n 1, 1, 0, 0, 0), (32, .aload_n 2, 1, 0, 0, 0), (33, .aload 4, 2, 0, 0, 0), (35, .invokestatic 215, 3, 252, 3, 7074), (38, .invokevirtual 219, 3, 13, 1, 2151), (41, .aload_n 3, 1, 0, 0, 0), (42, .getfield 113, 3, 12, 0, 5167), (45, .invokevirtual 131, 3, 187, 0, 6162), (48, .if_icmp .eq 5, 3, 53, 0, 0), (51, .iconst 0, 1, 0, 0, 0), (52, .ireturn, 1, 1, 0, 0), (53, .bipush 60, 2, 0, 0, 0), (55, .newarray .long, 2, 103, 0, 8070), (57, .astore 5, 2, 0, 0, 0), (59, .bipush 60, 2, 0, 0, 0), (61, .newarray .long, 2, 103, 0, 8070), (63, .astore 6, 2, 0, 0, 0), (65, .iconst 0, 1, 0, 0, 0), (66, .istore 7, 2, 0, 0, 0), (68, .iload 7, 2, 0, 0, 0), (70, .bipush 14, 2, 0, 0, 0), (72, .if_icmp .ge 636, 3, 708, 0, 0), (75, .aload_n 0, 1, 0, 0, 0), (76, .bipush 11, 2, 0, 0, 0), (78, .iload 7, 2, 0, 0, 0), (80, .iadd, 1, 0, 0, 0), (81, .invokestatic 109, 3, 147, 2, 5126), (84, .istore 8, 2, 0, 0, 0), (86, .iload 8, 2, 0, 0, 0), (88, .iconst 1, 1, 0, 0, 0), (89, .iand, 1, 0, 0, 0), (90, .istore 9, 2, 0, 0, 0), (92, .iload 8, 2, 0, 0, 0), (94, .iconst 5, 1, 0, 0, 0), (95, .iushr, 1, 0, 0, 0), (96, .bipush 7, 2, 0, 0, 0), (98, .iand, 1, 0, 0, 0), (99, .aload_n 1, 1, 0, 0, 0), (100, .invokevirtual 185, 3, 79, 0, 4066), (103, .irem, 1, 0, 0, 0), (104, .istore 10, 2, 0, 0, 0), (106, .iload 8, 2, 0, 0, 0), (108, .bipush 8, 2, 0, 0, 0), (110, .iushr, 1, 0, 0, 0), (111, .bipush 7, 2, 0, 0, 0), (113, .iand, 1, 0, 0, 0), (114, .aload_n 1, 1, 0, 0, 0), (115, .invokevirtual 185, 3, 79, 0, 4066), (118, .irem, 1, 0, 0, 0), (119, .istore 11, 2, 0, 0, 0), (121, .iload 8, 2, 0, 0, 0), (123, .bipush 11, 2, 0, 0, 0), (125, .iushr, 1, 0, 0, 0), (126, .bipush 15, 2, 0, 0, 0), (128, .iand, 1, 0, 0, 0), (129, .aload_n 1, 1, 0, 0, 0), (130, .iload 10, 2, 0, 0, 0), (132, .invokevirtual 203, 3, 80, 1, 4070), (135, .irem, 1, 0, 0, 0), (136, .istore 12, 2, 0, 0, 0), (138, .aload_n 1, 1, 0, 0, 0), (139, .aload 5, 2, 0, 0, 0), (141, .invokestatic 222, 3, 263, 2, 7148), (144, .aload_n 1, 1, 0, 0, 0), (145, .iload 9, 2, 0, 0, 0), (147, .invokevirtual 226, 3, 145, 1, 5118), (150, .i2l, 1, 0, 0, 0), (151, .aload 5, 2, 0, 0, 0), (153, .iconst 1, 1, 0, 0, 0), (154, .laload, 1, 0, 0, 0), (155, .lcmp, 1, 0, 0, 0), (156, .ifCond .ne 14, 3, 170, 0, 0), (159, .aload_n 1, 1, 0, 0, 0), (160, .iload 10, 2, 0, 0, 0), (162, .iload 11, 2, 0, 0, 0), (164, .invokestatic 229, 3, 258, 3, 7124), (167, .ifCond .ne 5, 3, 172, 0, 0), (170, .iconst 0, 1, 0, 0, 0), (171, .ireturn, 1, 1, 0, 0), (172, .iload 8, 2, 0, 0, 0), (174, .iconst 1, 1, 0, 0, 0), (175, .iushr, 1, 0, 0, 0), (176, .bipush 15, 2, 0, 0, 0)]
def cd_law_1 : List (Nat × JI) := [(178, .iand, 1, 0, 0, 0), (179, .istore 13, 2, 0, 0, 0), (181, .iload 13, 2, 0, 0, 0), (183, .iconst 4, 1, 0, 0, 0), (184, .if_icmp .ge 69, 3, 253, 0, 0), (187, .aload_n 1, 1, 0, 0, 0), (188, .iload 10, 2, 0, 0, 0), (190, .invokevirtual 233, 3, 93, 1, 4128), (193, .istore 14, 2, 0, 0, 0), (195, .aload_n 1, 1, 0, 0, 0), (196, .iload 10, 2, 0, 0, 0), (198, .invokevirtual 236, 3, 96, 1, 4141), (201, .istore 15, 2, 0, 0, 0), (203, .iload 14, 2, 0, 0, 0), (205, .ifCond .lt 45, 3, 250, 0, 0), (208, .aload_n 1, 1, 0, 0, 0), (209, .iload 10, 2, 0, 0, 0), (211, .invokevirtual 239, 3, 135, 1, 5075), (214, .iload 14, 2, 0, 0, 0), (216, .if_icmp .ne 32, 3, 248, 0, 0), (219, .aload_n 1, 1, 0, 0, 0), (220, .iload 10, 2, 0, 0, 0), (222, .invokevirtual 203, 3, 80, 1, 4070), (225, .iload 15, 2, 0, 0, 0), (227, .if_icmp .ne 21, 3, 248, 0, 0), (230, .aload_n 1, 1, 0, 0, 0), (231, .iload 10, 2, 0, 0, 0), (233, .invokevirtual 242, 3, 92, 1, 4124), (236, .ifCond .eq 12, 3, 248, 0, 0), (239, .aload_n 1, 1, 0, 0, 0), (240, .iload 10, 2, 0, 0, 0), (242, .invokevirtual 246, 3, 88, 1, 4107), (245, .ifCond .eq 5, 3, 250, 0, 0), (248, .iconst 0, 1, 0, 0, 0), (249, .ireturn, 1, 1, 0, 0), (250, .goto 400, 3, 650, 0, 0), (253, .iload 13, 2, 0, 0, 0), (255, .bipush 7, 2, 0, 0, 0), (257, .if_icmp .ge 77, 3, 334, 0, 0), (260, .aload_n 1, 1, 0, 0, 0), (261, .iload 10, 2, 0, 0, 0), (263, .invokevirtual 233, 3, 93, 1, 4128), (266, .istore 14, 2, 0, 0, 0), (268, .iconst 0, 1, 0, 0, 0), (269, .istore 15, 2, 0, 0, 0), (271, .iload 15, 2, 0, 0, 0), (273, .iload 14, 2, 0, 0, 0), (275, .if_icmp .ge 33, 3, 308, 0, 0), (278, .iload 14, 2, 0, 0, 0), (280, .bipush 12, 2, 0, 0, 0), (282, .if_icmp .ge 26, 3, 308, 0, 0), (285, .aload_n 1, 1, 0, 0, 0), (286, .iload 10, 2, 0, 0, 0), (288, .invokevirtual 249, 3, 90, 1, 4115), (291, .aload_n 1, 1, 0, 0, 0), (292, .iload 10, 2, 0, 0, 0), (294, .invokevirtual 252, 3, 129, 1, 5047), (297, .if_icmp .eq 5, 3, 302, 0, 0), (300, .iconst 0, 1, 0, 0, 0), (301, .ireturn, 1, 1, 0, 0), (302, .iinc 15 1, 3, 0, 0, 0), (305, .goto (-34), 3, 271, 0, 0), (308, .iload 14, 2, 0, 0, 0), (310, .ifCond .lt 21, 3, 331, 0, 0), (313, .iload 14, 2, 0, 0, 0), (315, .bipush 12, 2, 0, 0, 0), (317, .if_icmp .ge 14, 3, 331, 0, 0), (320, .aload_n 1, 1, 0, 0, 0), (321, .iload 10, 2, 0, 0, 0), (323, .invokevirtual 242, 3, 92, 1, 4124), (326, .ifCond .ne 5, 3, 331, 0, 0), (329, .iconst 0, 1, 0, 0, 0), (330, .ireturn, 1, 1, 0, 0), (331, .goto 319, 3, 650, 0, 0), (334, .iload 13, 2, 0, 0, 0), (336, .bipush 9, 2, 0, 0, 0), (338, .if_icmp .ge 53, 3, 391, 0, 0), (341, .aload_n 1, 1, 0, 0, 0), (342, .iload 10, 2, 0, 0, 0), (344, .invokevirtual 255, 3, 95, 1, 4137), (347, .istore 14, 2, 0, 0, 0), (349, .aload_n 1, 1, 0, 0, 0), (350, .iload 10, 2, 0, 0, 0), (352, .invokevirtual 258, 3, 91, 1, 4120), (355, .istore 15, 2, 0, 0, 0), (357, .iload 14, 2, 0, 0, 0), (359, .ifCond .le 29, 3, 388, 0, 0), (362, .aload_n 1, 1, 0, 0, 0), (363, .iload 10, 2, 0, 0, 0), (365, .invokevirtual 261, 3, 134, 1, 5071), (368, .iload 15, 2, 0, 0, 0), (370, .if_icmp .ne 16, 3, 386, 0, 0), (373, .aload_n 1, 1, 0, 0, 0), (374, .iload 10, 2, 0, 0, 0), (376, .invokevirtual 255, 3, 95, 1, 4137), (379, .iload 14, 2, 0, 0, 0), (381, .iconst 1, 1, 0, 0, 0), (382, .isub, 1, 0, 0, 0), (383, .if_icmp .eq 5, 3, 388, 0, 0), (386, .iconst 0, 1, 0, 0, 0)]
def cd_law_2 : List (Nat × JI) := [(387, .ireturn, 1, 1, 0, 0), (388, .goto 262, 3, 650, 0, 0), (391, .iload 13, 2, 0, 0, 0), (393, .bipush 11, 2, 0, 0, 0), (395, .if_icmp .ge 51, 3, 446, 0, 0), (398, .aload_n 1, 1, 0, 0, 0), (399, .invokevirtual 185, 3, 79, 0, 4066), (402, .bipush 6, 2, 0, 0, 0), (404, .if_icmp .ge 246, 3, 650, 0, 0), (407, .aload_n 1, 1, 0, 0, 0), (408, .iload 10, 2, 0, 0, 0), (410, .iload 12, 2, 0, 0, 0), (412, .invokevirtual 264, 3, 136, 2, 5079), (415, .i2l, 1, 0, 0, 0), (416, .aload 5, 2, 0, 0, 0), (418, .iconst 1, 1, 0, 0, 0), (419, .laload, 1, 0, 0, 0), (420, .lcmp, 1, 0, 0, 0), (421, .ifCond .ne 23, 3, 444, 0, 0), (424, .aload_n 1, 1, 0, 0, 0), (425, .aload 5, 2, 0, 0, 0), (427, .iconst 1, 1, 0, 0, 0), (428, .laload, 1, 0, 0, 0), (429, .l2i, 1, 0, 0, 0), (430, .invokevirtual 203, 3, 80, 1, 4070), (433, .aload_n 1, 1, 0, 0, 0), (434, .iload 10, 2, 0, 0, 0), (436, .iload 12, 2, 0, 0, 0), (438, .invokevirtual 267, 3, 83, 2, 4083), (441, .if_icmp .eq 209, 3, 650, 0, 0), (444, .iconst 0, 1, 0, 0, 0), (445, .ireturn, 1, 1, 0, 0), (446, .iload 13, 2, 0, 0, 0), (448, .bipush 11, 2, 0, 0, 0), (450, .if_icmp .ne 54, 3, 504, 0, 0), (453, .aload_n 1, 1, 0, 0, 0), (454, .iload 10, 2, 0, 0, 0), (456, .invokevirtual 203, 3, 80, 1, 4070), (459, .aload_n 1, 1, 0, 0, 0), (460, .iload 10, 2, 0, 0, 0), (462, .iload 12, 2, 0, 0, 0), (464, .invokevirtual 267, 3, 83, 2, 4083), (467, .isub, 1, 0, 0, 0), (468, .aload_n 1, 1, 0, 0, 0), (469, .iload 11, 2, 0, 0, 0), (471, .invokevirtual 203, 3, 80, 1, 4070), (474, .iadd, 1, 0, 0, 0), (475, .istore 14, 2, 0, 0, 0), (477, .iload 14, 2, 0, 0, 0), (479, .bipush 80, 2, 0, 0, 0), (481, .if_icmp .gt 20, 3, 501, 0, 0), (484, .aload_n 1, 1, 0, 0, 0), (485, .iload 10, 2, 0, 0, 0), (487, .iload 12, 2, 0, 0, 0), (489, .iload 11, 2, 0, 0, 0), (491, .invokevirtual 270, 3, 137, 3, 5084), (494, .iload 14, 2, 0, 0, 0), (496, .if_icmp .eq 5, 3, 501, 0, 0), (499, .iconst 0, 1, 0, 0, 0), (500, .ireturn, 1, 1, 0, 0), (501, .goto 149, 3, 650, 0, 0), (504, .iload 13, 2, 0, 0, 0), (506, .bipush 12, 2, 0, 0, 0), (508, .if_icmp .ne 54, 3, 562, 0, 0), (511, .aload_n 1, 1, 0, 0, 0), (512, .iload 10, 2, 0, 0, 0), (514, .iload 12, 2, 0, 0, 0), (516, .invokevirtual 274, 3, 87, 2, 4102), (519, .istore 14, 2, 0, 0, 0), (521, .iload 14, 2, 0, 0, 0), (523, .ifCond .lt 7, 3, 530, 0, 0), (526, .iconst 1, 1, 0, 0, 0), (527, .goto 4, 3, 531, 0, 0), (530, .iconst 0, 1, 0, 0, 0), (531, .iload 14, 2, 0, 0, 0), (533, .ifCond .lt 20, 3, 553, 0, 0), (536, .aload_n 1, 1, 0, 0, 0), (537, .iload 14, 2, 0, 0, 0), (539, .iload 10, 2, 0, 0, 0), (541, .iload 12, 2, 0, 0, 0), (543, .invokevirtual 277, 3, 85, 3, 4092), (546, .ifCond .eq 7, 3, 553, 0, 0), (549, .iconst 1, 1, 0, 0, 0), (550, .goto 4, 3, 554, 0, 0), (553, .iconst 0, 1, 0, 0, 0), (554, .if_icmp .eq 5, 3, 559, 0, 0), (557, .iconst 0, 1, 0, 0, 0), (558, .ireturn, 1, 1, 0, 0), (559, .goto 91, 3, 650, 0, 0), (562, .iload 13, 2, 0, 0, 0), (564, .bipush 13, 2, 0, 0, 0), (566, .if_icmp .ne 42, 3, 608, 0, 0), (569, .aload_n 1, 1, 0, 0, 0), (570, .invokevirtual 182, 3, 77, 0, 4043), (573, .iconst 1, 1, 0, 0, 0), (574, .isub, 1, 0, 0, 0), (575, .istore 14, 2, 0, 0, 0), (577, .aload_n 1, 1, 0, 0, 0), (578, .iconst 0, 1, 0, 0, 0), (579, .iload 14, 2, 0, 0, 0)]
def cd_law_3 : List (Nat × JI) := [(581, .invokevirtual 281, 3, 138, 2, 5090), (584, .ifCond .lt 19, 3, 603, 0, 0), (587, .aload_n 1, 1, 0, 0, 0), (588, .invokevirtual 284, 3, 142, 0, 5106), (591, .ifCond .eq 14, 3, 605, 0, 0), (594, .aload_n 1, 1, 0, 0, 0), (595, .invokevirtual 287, 3, 144, 0, 5114), (598, .bipush 7, 2, 0, 0, 0), (600, .if_icmp .le 5, 3, 605, 0, 0), (603, .iconst 0, 1, 0, 0, 0), (604, .ireturn, 1, 1, 0, 0), (605, .goto 45, 3, 650, 0, 0), (608, .aload_n 1, 1, 0, 0, 0), (609, .invokevirtual 185, 3, 79, 0, 4066), (612, .iconst 2, 1, 0, 0, 0), (613, .if_icmp .le 37, 3, 650, 0, 0), (616, .aload_n 1, 1, 0, 0, 0), (617, .iload 10, 2, 0, 0, 0), (619, .invokevirtual 290, 3, 140, 1, 5098), (622, .i2l, 1, 0, 0, 0), (623, .aload 5, 2, 0, 0, 0), (625, .iconst 1, 1, 0, 0, 0), (626, .laload, 1, 0, 0, 0), (627, .lconst 1, 1, 0, 0, 0), (628, .lsub, 1, 0, 0, 0), (629, .lcmp, 1, 0, 0, 0), (630, .ifCond .ne 18, 3, 648, 0, 0), (633, .aload_n 1, 1, 0, 0, 0), (634, .invokevirtual 185, 3, 79, 0, 4066), (637, .i2l, 1, 0, 0, 0), (638, .aload 5, 2, 0, 0, 0), (640, .iconst 1, 1, 0, 0, 0), (641, .laload, 1, 0, 0, 0), (642, .lconst 1, 1, 0, 0, 0), (643, .lsub, 1, 0, 0, 0), (644, .lcmp, 1, 0, 0, 0), (645, .ifCond .eq 5, 3, 650, 0, 0), (648, .iconst 0, 1, 0, 0, 0), (649, .ireturn, 1, 1, 0, 0), (650, .iload 8, 2, 0, 0, 0), (652, .bipush 25, 2, 0, 0, 0), (654, .iushr, 1, 0, 0, 0), (655, .iconst 3, 1, 0, 0, 0), (656, .iand, 1, 0, 0, 0), (657, .ifCond .ne 45, 3, 702, 0, 0), (660, .aload_n 1, 1, 0, 0, 0), (661, .iload 9, 2, 0, 0, 0), (663, .invokevirtual 293, 3, 146, 1, 5122), (666, .i2l, 1, 0, 0, 0), (667, .aload 5, 2, 0, 0, 0), (669, .iconst 1, 1, 0, 0, 0), (670, .laload, 1, 0, 0, 0), (671, .lcmp, 1, 0, 0, 0), (672, .ifCond .ne 10, 3, 682, 0, 0), (675, .aload_n 1, 1, 0, 0, 0), (676, .invokevirtual 287, 3, 144, 0, 5114), (679, .ifCond .eq 5, 3, 684, 0, 0), (682, .iconst 0, 1, 0, 0, 0), (683, .ireturn, 1, 1, 0, 0), (684, .aload_n 1, 1, 0, 0, 0), (685, .aload 6, 2, 0, 0, 0), (687, .invokestatic 222, 3, 263, 2, 7148), (690, .aload 5, 2, 0, 0, 0), (692, .aload 6, 2, 0, 0, 0), (694, .invokestatic 296, 3, 8004, 2, 7205), (697, .ifCond .ne 5, 3, 702, 0, 0), (700, .iconst 0, 1, 0, 0, 0), (701, .ireturn, 1, 1, 0, 0), (702, .iinc 7 1, 3, 0, 0, 0), (705, .goto (-637), 3, 68, 0, 0), (708, .aload_n 1, 1, 0, 0, 0), (709, .invokevirtual 302, 3, 125, 0, 5030), (712, .aload_n 1, 1, 0, 0, 0), (713, .invokevirtual 305, 3, 97, 0, 4145), (716, .if_icmp .gt 7, 3, 723, 0, 0), (719, .iconst 1, 1, 0, 0, 0), (720, .goto 4, 3, 724, 0, 0), (723, .iconst 0, 1, 0, 0, 0), (724, .ireturn, 1, 1, 0, 0)]
def cd_274 : List (Nat × JI) := cd_law_0 ++ (cd_law_1 ++ (cd_law_2 ++ (cd_law_3)))
/-- a method: name, bytes, locals, return type, handlers, what they catch, place of its code word, static, frames below it, its instructions -/
abbrev JMeth : Type := MethodName × ByteArray × Nat × Option FieldType × List (Nat × Nat × Nat × Nat) × List Nat × Nat × Bool × Nat × List (Nat × JI)
def jm_0 : JMeth := (⟨"OverlapBench", "<init>", "()V"⟩, prog_1_method_1_code, 1, none, [], [], 1043, false, 5, cd_0)
def jm_1 : JMeth := (⟨"java/lang/Object", "<init>", "()V"⟩, object_method_1_code, 1, none, [], [], 1046, false, 0, cd_1)
def jm_2 : JMeth := (⟨"OverlapBench$Signature", "<init>", "()V"⟩, prog_8_method_1_code, 1, none, [], [], 1051, false, 1, cd_2)
def jm_3 : JMeth := (⟨"OverlapBench$State", "<init>", "()V"⟩, prog_9_method_1_code, 2, none, [], [], 1072, false, 3, cd_3)
def jm_4 : JMeth := (⟨"OverlapBench$Rule", "<init>", "()V"⟩, prog_7_method_1_code, 1, none, [], [], 1081, false, 2, cd_4)
def jm_5 : JMeth := (⟨"OverlapBench$Term", "<init>", "(I)V"⟩, prog_10_method_1_code, 2, none, [], [], 1087, false, 1, cd_5)
def jm_6 : JMeth := (⟨"java/lang/Math", "max", "(II)I"⟩, prog_29_method_65_code, 2, (some .int), [], [], 1091, true, 0, cd_6)
def jm_7 : JMeth := (⟨"OverlapBench$Rewriter", "<init>", "()V"⟩, prog_6_method_1_code, 1, none, [], [], 1151, false, 2, cd_7)
def jm_8 : JMeth := (⟨"OverlapBench$Unifier", "<init>", "()V"⟩, prog_11_method_1_code, 1, none, [], [], 1175, false, 1, cd_8)
def jm_9 : JMeth := (⟨"OverlapBench$Parser", "<init>", "()V"⟩, prog_5_method_1_code, 1, none, [], [], 1207, false, 4, cd_9)
def jm_10 : JMeth := (⟨"OverlapBench$PairList", "<init>", "()V"⟩, prog_4_method_1_code, 2, none, [], [], 2019, false, 3, cd_10)
def jm_11 : JMeth := (⟨"OverlapBench$Output", "<init>", "()V"⟩, prog_3_method_1_code, 1, none, [], [], 2070, false, 1, cd_11)
def jm_12 : JMeth := (⟨"OverlapBench$History", "<init>", "()V"⟩, prog_2_method_1_code, 2, none, [], [], 2087, false, 4, cd_12)
def jm_13 : JMeth := (⟨"OverlapBench", "parseSystem", "(I)I"⟩, prog_1_method_3_code, 3, (some .int), [], [], 2154, false, 7, cd_13)
def jm_14 : JMeth := (⟨"OverlapBench$Parser", "run", "(I)Z"⟩, prog_5_method_3_code, 4, (some .boolean), [], [], 2221, false, 6, cd_14)
def jm_15 : JMeth := (⟨"OverlapBench$State", "clear", "()V"⟩, prog_9_method_4_code, 1, none, [], [], 2225, false, 0, cd_15)
def jm_16 : JMeth := (⟨"OverlapBench$Parser", "next", "()V"⟩, prog_5_method_22_code, 1, none, [], [], 2229, false, 1, cd_16)
def jm_17 : JMeth := (⟨"OverlapBench$Parser", "byteAt", "(I)I"⟩, prog_5_method_21_code, 2, (some .int), [], [], 2233, false, 0, cd_17)
def jm_18 : JMeth := (⟨"OverlapBench$Parser", "kindOfByte", "(I)I"⟩, prog_5_method_23_code, 3, (some .int), [], [], 2237, false, 0, cd_18)
def jm_19 : JMeth := (⟨"OverlapBench$Parser", "isWord", "(Ljava/lang/String;)Z"⟩, prog_5_method_20_code, 3, (some .boolean), [], [], 3002, false, 4, cd_19)
def jm_20 : JMeth := (⟨"java/lang/String", "length", "()I"⟩, prog_32_method_54_code, 1, (some .int), [], [], 3006, false, 1, cd_20)
def jm_21 : JMeth := (⟨"java/lang/String", "coder", "()B"⟩, prog_32_method_152_code, 1, (some .byte), [], [], 3010, false, 0, cd_21)
def jm_22 : JMeth := (⟨"java/lang/String", "charAt", "(I)C"⟩, prog_32_method_56_code, 2, (some .char), [], [], 3016, false, 3, cd_22)
def jm_23 : JMeth := (⟨"java/lang/String", "isLatin1", "()Z"⟩, prog_32_method_154_code, 1, (some .boolean), [], [], 3020, false, 0, cd_23)
def jm_24 : JMeth := (⟨"java/lang/StringLatin1", "charAt", "([BI)C"⟩, prog_34_method_2_code, 2, (some .char), [], [], 3023, true, 2, cd_24)
def jm_25 : JMeth := (⟨"java/lang/String", "checkIndex", "(II)V"⟩, prog_32_method_155_code, 2, none, [], [], 3026, true, 1, cd_25)
def jm_26 : JMeth := (⟨"jdk/internal/util/Preconditions", "checkIndex", "(IILjava/util/function/BiFunction;)I"⟩, prog_52_method_11_code, 3, (some .int), [], [], 3031, true, 0, cd_26)
def jm_27 : JMeth := (⟨"OverlapBench$Parser", "fail", "(I)Z"⟩, prog_5_method_4_code, 2, (some .boolean), [], [], 3054, false, 0, cd_27)
def jm_28 : JMeth := (⟨"OverlapBench$Parser", "readSymbol", "()Z"⟩, prog_5_method_5_code, 2, (some .boolean), [], [], 3059, false, 3, cd_28)
def jm_29 : JMeth := (⟨"OverlapBench$Parser", "symbolOfWord", "()I"⟩, prog_5_method_18_code, 2, (some .int), [], [], 3063, false, 2, cd_29)
def jm_30 : JMeth := (⟨"OverlapBench$Parser", "isNamed", "(I)Z"⟩, prog_5_method_19_code, 3, (some .boolean), [], [], 3067, false, 1, cd_30)
def jm_31 : JMeth := (⟨"OverlapBench$Signature", "nameLength", "(I)I"⟩, prog_8_method_3_code, 2, (some .int), [], [], 3071, false, 0, cd_31)
def jm_32 : JMeth := (⟨"OverlapBench$Signature", "letter", "(II)I"⟩, prog_8_method_4_code, 4, (some .int), [], [], 3075, false, 0, cd_32)
def jm_33 : JMeth := (⟨"OverlapBench$Signature", "begin", "()V"⟩, prog_8_method_5_code, 1, none, [], [], 3079, false, 0, cd_33)
def jm_34 : JMeth := (⟨"OverlapBench$Signature", "addLetter", "(I)V"⟩, prog_8_method_6_code, 3, none, [], [], 3083, false, 1, cd_34)
def jm_35 : JMeth := (⟨"OverlapBench$Parser", "readDigit", "(I)Z"⟩, prog_5_method_11_code, 2, (some .boolean), [], [], 3088, false, 2, cd_35)
def jm_36 : JMeth := (⟨"OverlapBench$Parser", "digit", "()I"⟩, prog_5_method_12_code, 1, (some .int), [], [], 3092, false, 1, cd_36)
def jm_37 : JMeth := (⟨"OverlapBench$Signature", "finish", "(I)V"⟩, prog_8_method_7_code, 2, none, [], [], 3096, false, 0, cd_37)
def jm_38 : JMeth := (⟨"OverlapBench$Parser", "readRule", "()Z"⟩, prog_5_method_6_code, 2, (some .boolean), [], [], 3101, false, 5, cd_38)
def jm_39 : JMeth := (⟨"OverlapBench$State", "rule", "(I)LOverlapBench$Rule;"⟩, prog_9_method_2_code, 3, (some (.object "OverlapBench$Rule")), [], [], 3105, false, 0, cd_39)
def jm_40 : JMeth := (⟨"OverlapBench$Parser", "readTerm", "(LOverlapBench$Term;II)Z"⟩, prog_5_method_13_code, 8, (some .boolean), [], [], 3109, false, 4, cd_40)
def jm_41 : JMeth := (⟨"OverlapBench$Term", "clear", "()V"⟩, prog_10_method_7_code, 1, none, [], [], 3113, false, 0, cd_41)
def jm_42 : JMeth := (⟨"OverlapBench$Parser", "faultOfNode", "(LOverlapBench$Term;II)I"⟩, prog_5_method_15_code, 4, (some .int), [], [], 3117, false, 3, cd_42)
def jm_43 : JMeth := (⟨"OverlapBench$Parser", "variableOfToken", "()I"⟩, prog_5_method_16_code, 1, (some .int), [], [], 3121, false, 1, cd_43)
def jm_44 : JMeth := (⟨"OverlapBench$Term", "variableNode", "(I)I"⟩, prog_10_method_3_code, 1, (some .int), [], [], 3124, true, 0, cd_44)
def jm_45 : JMeth := (⟨"OverlapBench$Term", "count", "(I)I"⟩, prog_10_method_16_code, 4, (some .int), [], [], 3128, false, 1, cd_45)
def jm_46 : JMeth := (⟨"OverlapBench$Term", "get", "(I)I"⟩, prog_10_method_8_code, 2, (some .int), [], [], 3132, false, 0, cd_46)
def jm_47 : JMeth := (⟨"OverlapBench$Parser", "nodeOfToken", "()I"⟩, prog_5_method_17_code, 2, (some .int), [], [], 3137, false, 3, cd_47)
def jm_48 : JMeth := (⟨"OverlapBench$Signature", "arity", "(I)I"⟩, prog_8_method_2_code, 2, (some .int), [], [], 3141, false, 0, cd_48)
def jm_49 : JMeth := (⟨"OverlapBench$Term", "symbolNode", "(II)I"⟩, prog_10_method_2_code, 2, (some .int), [], [], 3144, true, 0, cd_49)
def jm_50 : JMeth := (⟨"OverlapBench$Term", "add", "(I)Z"⟩, prog_10_method_10_code, 2, (some .boolean), [], [], 3148, false, 0, cd_50)
def jm_51 : JMeth := (⟨"OverlapBench$Term", "arityOf", "(I)I"⟩, prog_10_method_4_code, 1, (some .int), [], [], 3151, true, 0, cd_51)
def jm_52 : JMeth := (⟨"OverlapBench$Parser", "closeBrackets", "(I)I"⟩, prog_5_method_14_code, 4, (some .int), [], [], 3155, false, 2, cd_52)
def jm_53 : JMeth := (⟨"OverlapBench$Parser", "readPlainTerm", "()Z"⟩, prog_5_method_7_code, 1, (some .boolean), [], [], 3160, false, 5, cd_53)
def jm_54 : JMeth := (⟨"OverlapBench$State", "term", "(I)LOverlapBench$Term;"⟩, prog_9_method_3_code, 3, (some (.object "OverlapBench$Term")), [], [], 3164, false, 0, cd_54)
def jm_55 : JMeth := (⟨"OverlapBench$Parser", "readCopy", "()Z"⟩, prog_5_method_8_code, 2, (some .boolean), [], [], 3169, false, 3, cd_55)
def jm_56 : JMeth := (⟨"OverlapBench$State", "addTerm", "(LOverlapBench$Term;II)V"⟩, prog_9_method_6_code, 5, none, [], [], 3173, false, 2, cd_56)
def jm_57 : JMeth := (⟨"OverlapBench$Term", "addPart", "(LOverlapBench$Term;II)Z"⟩, prog_10_method_11_code, 5, (some .boolean), [], [], 3179, false, 1, cd_57)
def jm_58 : JMeth := (⟨"OverlapBench$Parser", "readFlip", "()Z"⟩, prog_5_method_9_code, 2, (some .boolean), [], [], 3185, false, 3, cd_58)
def jm_59 : JMeth := (⟨"OverlapBench$Rule", "canTurn", "()Z"⟩, prog_7_method_4_code, 3, (some .boolean), [], [], 3189, false, 2, cd_59)
def jm_60 : JMeth := (⟨"OverlapBench$Rule", "turn", "()V"⟩, prog_7_method_5_code, 2, none, [], [], 3195, false, 0, cd_60)
def jm_61 : JMeth := (⟨"OverlapBench$Parser", "readStep", "()Z"⟩, prog_5_method_10_code, 2, (some .boolean), [], [], 3200, false, 5, cd_61)
def jm_62 : JMeth := (⟨"OverlapBench$Rewriter", "step", "(LOverlapBench$State;LOverlapBench$Term;Z)I"⟩, prog_6_method_8_code, 5, (some .int), [], [], 3204, false, 4, cd_62)
def jm_63 : JMeth := (⟨"OverlapBench$Rewriter", "redex", "(LOverlapBench$State;LOverlapBench$Term;Z)I"⟩, prog_6_method_6_code, 7, (some .int), [], [], 3208, false, 3, cd_63)
def jm_64 : JMeth := (⟨"OverlapBench$Rewriter", "firstRule", "(LOverlapBench$State;LOverlapBench$Term;I)I"⟩, prog_6_method_4_code, 5, (some .int), [], [], 3212, false, 2, cd_64)
def jm_65 : JMeth := (⟨"OverlapBench$Rewriter", "match", "(LOverlapBench$Rule;LOverlapBench$Term;I)Z"⟩, prog_6_method_2_code, 9, (some .boolean), [], [], 3217, false, 1, cd_65)
def jm_66 : JMeth := (⟨"java/util/Arrays", "fill", "([II)V"⟩, prog_43_method_103_code, 4, none, [], [], 3220, true, 0, cd_66)
def jm_67 : JMeth := (⟨"OverlapBench$Term", "sameParts", "(II)Z"⟩, prog_10_method_14_code, 6, (some .boolean), [], [], 3225, false, 0, cd_67)
def jm_68 : JMeth := (⟨"OverlapBench$Term", "end", "(I)I"⟩, prog_10_method_13_code, 5, (some .int), [], [], 3229, false, 0, cd_68)
def jm_69 : JMeth := (⟨"OverlapBench$Rewriter", "buildFirst", "(LOverlapBench$State;LOverlapBench$Term;I)Z"⟩, prog_6_method_7_code, 5, (some .boolean), [], [], 3233, false, 3, cd_69)
def jm_70 : JMeth := (⟨"OverlapBench$Rewriter", "build", "(LOverlapBench$Rule;LOverlapBench$Term;I)Z"⟩, prog_6_method_3_code, 9, (some .boolean), [], [], 3237, false, 2, cd_70)
def jm_71 : JMeth := (⟨"OverlapBench$Term", "copyFrom", "(LOverlapBench$Term;)V"⟩, prog_10_method_12_code, 4, none, [], [], 4004, false, 1, cd_71)
def jm_72 : JMeth := (⟨"java/lang/Math", "min", "(II)I"⟩, prog_29_method_69_code, 2, (some .int), [], [], 4007, true, 0, cd_72)
def jm_73 : JMeth := (⟨"OverlapBench$Signature", "copyFrom", "(LOverlapBench$Signature;)V"⟩, prog_8_method_8_code, 3, none, [], [], 4027, false, 0, cd_73)
def jm_74 : JMeth := (⟨"OverlapBench", "adopt", "(LOverlapBench$State;)V"⟩, prog_1_method_73_code, 2, none, [], [], 4031, false, 4, cd_74)
def jm_75 : JMeth := (⟨"OverlapBench$State", "copyFrom", "(LOverlapBench$State;)V"⟩, prog_9_method_5_code, 3, none, [], [], 4035, false, 3, cd_75)
def jm_76 : JMeth := (⟨"OverlapBench$Rule", "copyFrom", "(LOverlapBench$Rule;)V"⟩, prog_7_method_2_code, 2, none, [], [], 4040, false, 2, cd_76)
def jm_77 : JMeth := (⟨"OverlapBench", "ruleCount", "()I"⟩, prog_1_method_11_code, 1, (some .int), [], [], 4046, false, 8, cd_77)
def jm_78 : JMeth := (⟨"OverlapBench", "requireSystem", "()V"⟩, prog_1_method_65_code, 1, none, [], [], 4050, false, 7, cd_78)
def jm_79 : JMeth := (⟨"OverlapBench", "termCount", "()I"⟩, prog_1_method_18_code, 1, (some .int), [], [], 4069, false, 8, cd_79)
def jm_80 : JMeth := (⟨"OverlapBench", "termSize", "(I)I"⟩, prog_1_method_19_code, 2, (some .int), [], [], 4073, false, 9, cd_80)
def jm_81 : JMeth := (⟨"OverlapBench", "requireTerm", "(I)LOverlapBench$Term;"⟩, prog_1_method_68_code, 2, (some (.object "OverlapBench$Term")), [], [], 4077, false, 8, cd_81)
def jm_82 : JMeth := (⟨"OverlapBench", "requireIndex", "(II)V"⟩, prog_1_method_66_code, 3, none, [], [], 4081, false, 7, cd_82)
def jm_83 : JMeth := (⟨"OverlapBench", "subtermSize", "(II)I"⟩, prog_1_method_23_code, 3, (some .int), [], [], 4086, false, 10, cd_83)
def jm_84 : JMeth := (⟨"OverlapBench", "requireNode", "(II)LOverlapBench$Term;"⟩, prog_1_method_69_code, 4, (some (.object "OverlapBench$Term")), [], [], 4090, false, 9, cd_84)
def jm_85 : JMeth := (⟨"OverlapBench", "matches", "(III)Z"⟩, prog_1_method_27_code, 5, (some .boolean), [], [], 4095, false, 10, cd_85)
def jm_86 : JMeth := (⟨"OverlapBench", "requireRule", "(I)LOverlapBench$Rule;"⟩, prog_1_method_67_code, 2, (some (.object "OverlapBench$Rule")), [], [], 4099, false, 8, cd_86)
def jm_87 : JMeth := (⟨"OverlapBench", "ruleAt", "(II)I"⟩, prog_1_method_28_code, 3, (some .int), [], [], 4105, false, 10, cd_87)
def jm_88 : JMeth := (⟨"OverlapBench", "redexCount", "(I)I"⟩, prog_1_method_29_code, 2, (some .int), [], [], 4110, false, 9, cd_88)
def jm_89 : JMeth := (⟨"OverlapBench$Rewriter", "countRedexes", "(LOverlapBench$State;LOverlapBench$Term;)I"⟩, prog_6_method_5_code, 5, (some .int), [], [], 4114, false, 3, cd_89)
def jm_90 : JMeth := (⟨"OverlapBench", "innermostRedex", "(I)I"⟩, prog_1_method_30_code, 2, (some .int), [], [], 4118, false, 9, cd_90)
def jm_91 : JMeth := (⟨"OverlapBench", "outermostRedex", "(I)I"⟩, prog_1_method_31_code, 2, (some .int), [], [], 4123, false, 9, cd_91)
def jm_92 : JMeth := (⟨"OverlapBench", "isNormalForm", "(I)Z"⟩, prog_1_method_32_code, 2, (some .boolean), [], [], 4127, false, 9, cd_92)
def jm_93 : JMeth := (⟨"OverlapBench", "stepsInnermost", "(I)I"⟩, prog_1_method_34_code, 2, (some .int), [], [], 4131, false, 9, cd_93)
def jm_94 : JMeth := (⟨"OverlapBench$Rewriter", "reduce", "(LOverlapBench$State;LOverlapBench$Term;ZI)I"⟩, prog_6_method_9_code, 7, (some .int), [], [], 4135, false, 4, cd_94)
def jm_95 : JMeth := (⟨"OverlapBench", "stepsOutermost", "(I)I"⟩, prog_1_method_35_code, 2, (some .int), [], [], 4140, false, 9, cd_95)
def jm_96 : JMeth := (⟨"OverlapBench", "normalFormSize", "(I)I"⟩, prog_1_method_36_code, 3, (some .int), [], [], 4144, false, 9, cd_96)
def jm_97 : JMeth := (⟨"OverlapBench", "criticalPairCount", "()I"⟩, prog_1_method_40_code, 1, (some .int), [], [], 4148, false, 8, cd_97)
def jm_98 : JMeth := (⟨"OverlapBench$PairList", "refresh", "(LOverlapBench$State;)V"⟩, prog_4_method_8_code, 7, none, [], [], 4152, false, 5, cd_98)
def jm_99 : JMeth := (⟨"OverlapBench$PairList", "has", "(I)Z"⟩, prog_4_method_2_code, 2, (some .boolean), [], [], 4158, false, 0, cd_99)
def jm_100 : JMeth := (⟨"OverlapBench$PairList", "buildPair", "(LOverlapBench$Rule;LOverlapBench$Rule;I)Z"⟩, prog_4_method_10_code, 13, (some .boolean), [], [], 4162, false, 4, cd_100)
def jm_101 : JMeth := (⟨"OverlapBench$Unifier", "clear", "()V"⟩, prog_11_method_2_code, 1, none, [], [], 4166, false, 1, cd_101)
def jm_102 : JMeth := (⟨"OverlapBench$Unifier", "load", "(LOverlapBench$Term;I)I"⟩, prog_11_method_3_code, 7, (some .int), [], [], 4171, false, 1, cd_102)
def jm_103 : JMeth := (⟨"OverlapBench$Unifier", "shareVariable", "(II)V"⟩, prog_11_method_4_code, 3, none, [], [], 4177, false, 0, cd_103)
def jm_104 : JMeth := (⟨"OverlapBench$Unifier", "solve", "(II)Z"⟩, prog_11_method_6_code, 3, (some .boolean), [], [], 4181, false, 3, cd_104)
def jm_105 : JMeth := (⟨"OverlapBench$Unifier", "merge", "(II)Z"⟩, prog_11_method_7_code, 8, (some .boolean), [], [], 4185, false, 2, cd_105)
def jm_106 : JMeth := (⟨"OverlapBench$Unifier", "push", "(I)V"⟩, prog_11_method_19_code, 2, none, [], [], 4189, false, 0, cd_106)
def jm_107 : JMeth := (⟨"OverlapBench$Unifier", "pop", "()I"⟩, prog_11_method_20_code, 1, (some .int), [], [], 4193, false, 0, cd_107)
def jm_108 : JMeth := (⟨"OverlapBench$Unifier", "root", "(I)I"⟩, prog_11_method_13_code, 4, (some .int), [], [], 4197, false, 0, cd_108)
def jm_109 : JMeth := (⟨"OverlapBench$Unifier", "label", "(I)I"⟩, prog_11_method_14_code, 2, (some .int), [], [], 4201, false, 0, cd_109)
def jm_110 : JMeth := (⟨"OverlapBench$Unifier", "hang", "(II)V"⟩, prog_11_method_18_code, 3, none, [], [], 4206, false, 0, cd_110)
def jm_111 : JMeth := (⟨"OverlapBench$Unifier", "pushArguments", "(II)V"⟩, prog_11_method_8_code, 6, none, [], [], 4210, false, 1, cd_111)
def jm_112 : JMeth := (⟨"OverlapBench$Unifier", "end", "(I)I"⟩, prog_11_method_15_code, 2, (some .int), [], [], 4215, false, 0, cd_112)
def jm_113 : JMeth := (⟨"OverlapBench$Unifier", "isFinite", "()Z"⟩, prog_11_method_9_code, 5, (some .boolean), [], [], 4219, false, 2, cd_113)
def jm_114 : JMeth := (⟨"OverlapBench$Unifier", "isSettled", "(I)Z"⟩, prog_11_method_16_code, 2, (some .boolean), [], [], 4223, false, 0, cd_114)
def jm_115 : JMeth := (⟨"OverlapBench$Unifier", "settles", "(I)Z"⟩, prog_11_method_10_code, 5, (some .boolean), [], [], 4227, false, 1, cd_115)
def jm_116 : JMeth := (⟨"OverlapBench$Unifier", "settle", "(I)V"⟩, prog_11_method_17_code, 2, none, [], [], 4231, false, 0, cd_116)
def jm_117 : JMeth := (⟨"OverlapBench$PairList", "firstTerm", "(I)LOverlapBench$Term;"⟩, prog_4_method_6_code, 3, (some (.object "OverlapBench$Term")), [], [], 4235, false, 1, cd_117)
def jm_118 : JMeth := (⟨"OverlapBench$PairList", "secondTerm", "(I)LOverlapBench$Term;"⟩, prog_4_method_7_code, 3, (some (.object "OverlapBench$Term")), [], [], 4239, false, 1, cd_118)
def jm_119 : JMeth := (⟨"OverlapBench$Unifier", "expand", "(ILOverlapBench$Term;)Z"⟩, prog_11_method_11_code, 5, (some .boolean), [], [], 5004, false, 2, cd_119)
def jm_120 : JMeth := (⟨"OverlapBench$Unifier", "pushReversed", "(I)V"⟩, prog_11_method_12_code, 4, none, [], [], 5009, false, 1, cd_120)
def jm_121 : JMeth := (⟨"OverlapBench$PairList", "nameVariables", "(LOverlapBench$Term;I)I"⟩, prog_4_method_11_code, 6, (some .int), [], [], 5017, false, 1, cd_121)
def jm_122 : JMeth := (⟨"OverlapBench$Term", "variableOf", "(I)I"⟩, prog_10_method_6_code, 1, (some .int), [], [], 5020, true, 0, cd_122)
def jm_123 : JMeth := (⟨"OverlapBench$Term", "set", "(II)V"⟩, prog_10_method_9_code, 3, none, [], [], 5025, false, 0, cd_123)
def jm_124 : JMeth := (⟨"OverlapBench$PairList", "keep", "(III)V"⟩, prog_4_method_9_code, 4, none, [], [], 5029, false, 1, cd_124)
def jm_125 : JMeth := (⟨"OverlapBench", "unjoinedPairs", "()I"⟩, prog_1_method_45_code, 3, (some .int), [], [], 5033, false, 8, cd_125)
def jm_126 : JMeth := (⟨"OverlapBench$PairList", "joins", "(LOverlapBench$State;I)Z"⟩, prog_4_method_12_code, 4, (some .boolean), [], [], 5037, false, 6, cd_126)
def jm_127 : JMeth := (⟨"OverlapBench$Rewriter", "meet", "(LOverlapBench$State;LOverlapBench$Term;LOverlapBench$Term;I)Z"⟩, prog_6_method_10_code, 5, (some .boolean), [], [], 5041, false, 5, cd_127)
def jm_128 : JMeth := (⟨"OverlapBench$Term", "sameAs", "(LOverlapBench$Term;)Z"⟩, prog_10_method_15_code, 3, (some .boolean), [], [], 5046, false, 1, cd_128)
def jm_129 : JMeth := (⟨"OverlapBench", "stepInnermost", "(I)I"⟩, prog_1_method_52_code, 2, (some .int), [], [], 5050, false, 9, cd_129)
def jm_130 : JMeth := (⟨"OverlapBench", "takeStep", "(LOverlapBench$Term;Z)I"⟩, prog_1_method_71_code, 4, (some .int), [], [], 5054, false, 7, cd_130)
def jm_131 : JMeth := (⟨"OverlapBench", "remember", "()V"⟩, prog_1_method_72_code, 1, none, [], [], 5059, false, 5, cd_131)
def jm_132 : JMeth := (⟨"OverlapBench$History", "keep", "(LOverlapBench$State;)V"⟩, prog_2_method_2_code, 3, none, [], [], 5063, false, 4, cd_132)
def jm_133 : JMeth := (⟨"OverlapBench$History", "at", "(I)LOverlapBench$State;"⟩, prog_2_method_4_code, 2, (some (.object "OverlapBench$State")), [], [], 5068, false, 0, cd_133)
def jm_134 : JMeth := (⟨"OverlapBench", "stepOutermost", "(I)I"⟩, prog_1_method_53_code, 2, (some .int), [], [], 5074, false, 9, cd_134)
def jm_135 : JMeth := (⟨"OverlapBench", "normalize", "(I)I"⟩, prog_1_method_54_code, 4, (some .int), [], [], 5078, false, 9, cd_135)
def jm_136 : JMeth := (⟨"OverlapBench", "copySubterm", "(II)I"⟩, prog_1_method_55_code, 4, (some .int), [], [], 5082, false, 10, cd_136)
def jm_137 : JMeth := (⟨"OverlapBench", "replaceSubterm", "(III)I"⟩, prog_1_method_56_code, 7, (some .int), [], [], 5087, false, 10, cd_137)
def jm_138 : JMeth := (⟨"OverlapBench", "swapRules", "(II)I"⟩, prog_1_method_57_code, 7, (some .int), [], [], 5093, false, 9, cd_138)
def jm_139 : JMeth := (⟨"OverlapBench$Rule", "exchange", "(LOverlapBench$Rule;)V"⟩, prog_7_method_3_code, 4, none, [], [], 5097, false, 0, cd_139)
def jm_140 : JMeth := (⟨"OverlapBench", "removeTerm", "(I)I"⟩, prog_1_method_60_code, 2, (some .int), [], [], 5101, false, 9, cd_140)
def jm_141 : JMeth := (⟨"OverlapBench$State", "dropTerm", "(I)V"⟩, prog_9_method_8_code, 3, none, [], [], 5105, false, 2, cd_141)
def jm_142 : JMeth := (⟨"OverlapBench", "undo", "()I"⟩, prog_1_method_61_code, 1, (some .int), [], [], 5109, false, 7, cd_142)
def jm_143 : JMeth := (⟨"OverlapBench$History", "takeBack", "(LOverlapBench$State;)V"⟩, prog_2_method_3_code, 3, none, [], [], 5113, false, 4, cd_143)
def jm_144 : JMeth := (⟨"OverlapBench", "undoCount", "()I"⟩, prog_1_method_62_code, 1, (some .int), [], [], 5117, false, 0, cd_144)
def jm_145 : JMeth := (⟨"OverlapBench", "saveState", "(I)I"⟩, prog_1_method_63_code, 2, (some .int), [], [], 5121, false, 8, cd_145)
def jm_146 : JMeth := (⟨"OverlapBench", "restoreState", "(I)I"⟩, prog_1_method_64_code, 3, (some .int), [], [], 5125, false, 8, cd_146)
def jm_147 : JMeth := (⟨"OverlapBenchLaw", "cell", "([II)I"⟩, method_7_code, 2, (some .int), [], [], 5128, true, 0, cd_147)
def jm_148 : JMeth := (⟨"OverlapBenchLaw", "sys", "([I)LOverlapBenchLaw$Sys;"⟩, method_20_code, 5, (some (.object "OverlapBenchLaw$Sys")), [], [], 5131, true, 10, cd_148)
def jm_149 : JMeth := (⟨"OverlapBenchLaw$Sys", "<init>", "()V"⟩, prog_14_method_1_code, 1, none, [], [], 5136, false, 4, cd_149)
def jm_150 : JMeth := (⟨"java/util/ArrayList", "<init>", "()V"⟩, prog_42_method_2_code, 1, none, [], [], 5142, false, 3, cd_150)
def jm_151 : JMeth := (⟨"java/util/AbstractList", "<init>", "()V"⟩, prog_41_method_1_code, 1, none, [], [], 5145, false, 2, cd_151)
def jm_152 : JMeth := (⟨"java/util/AbstractCollection", "<init>", "()V"⟩, prog_40_method_1_code, 1, none, [], [], 5148, false, 1, cd_152)
def jm_153 : JMeth := (⟨"OverlapBenchLaw", "tree", "([II)LOverlapBenchLaw$Node;"⟩, method_18_code, 4, (some (.object "OverlapBenchLaw$Node")), [], [], 5185, true, 2, cd_153)
def jm_154 : JMeth := (⟨"OverlapBenchLaw", "tree", "([II)LOverlapBenchLaw$Node;"⟩, method_18_code, 4, (some (.object "OverlapBenchLaw$Node")), [], [], 5185, true, 3, cd_154)
def jm_155 : JMeth := (⟨"OverlapBenchLaw", "tree", "([II)LOverlapBenchLaw$Node;"⟩, method_18_code, 4, (some (.object "OverlapBenchLaw$Node")), [], [], 5185, true, 4, cd_155)
def jm_156 : JMeth := (⟨"OverlapBenchLaw", "tree", "([II)LOverlapBenchLaw$Node;"⟩, method_18_code, 4, (some (.object "OverlapBenchLaw$Node")), [], [], 5185, true, 5, cd_156)
def jm_157 : JMeth := (⟨"OverlapBenchLaw", "tree", "([II)LOverlapBenchLaw$Node;"⟩, method_18_code, 4, (some (.object "OverlapBenchLaw$Node")), [], [], 5185, true, 6, cd_157)
def jm_158 : JMeth := (⟨"OverlapBenchLaw$Node", "<init>", "(ILOverlapBenchLaw$Node;LOverlapBenchLaw$Node;)V"⟩, prog_13_method_1_code, 4, none, [], [], 5190, false, 1, cd_158)
def jm_159 : JMeth := (⟨"OverlapBenchLaw", "closed", "(LOverlapBenchLaw$Node;LOverlapBenchLaw$Node;)LOverlapBenchLaw$Node;"⟩, method_19_code, 2, (some (.object "OverlapBenchLaw$Node")), [], [], 5209, true, 5, cd_159)
def jm_160 : JMeth := (⟨"OverlapBenchLaw", "closed", "(LOverlapBenchLaw$Node;LOverlapBenchLaw$Node;)LOverlapBenchLaw$Node;"⟩, method_19_code, 2, (some (.object "OverlapBenchLaw$Node")), [], [], 5209, true, 6, cd_160)
def jm_161 : JMeth := (⟨"OverlapBenchLaw", "closed", "(LOverlapBenchLaw$Node;LOverlapBenchLaw$Node;)LOverlapBenchLaw$Node;"⟩, method_19_code, 2, (some (.object "OverlapBenchLaw$Node")), [], [], 5209, true, 7, cd_161)
def jm_162 : JMeth := (⟨"OverlapBenchLaw", "closed", "(LOverlapBenchLaw$Node;LOverlapBenchLaw$Node;)LOverlapBenchLaw$Node;"⟩, method_19_code, 2, (some (.object "OverlapBenchLaw$Node")), [], [], 5209, true, 8, cd_162)
def jm_163 : JMeth := (⟨"OverlapBenchLaw", "closed", "(LOverlapBenchLaw$Node;LOverlapBenchLaw$Node;)LOverlapBenchLaw$Node;"⟩, method_19_code, 2, (some (.object "OverlapBenchLaw$Node")), [], [], 5209, true, 9, cd_163)
def jm_164 : JMeth := (⟨"OverlapBenchLaw", "uses", "(LOverlapBenchLaw$Node;I)I"⟩, method_11_code, 2, (some .int), [], [], 5212, true, 0, cd_164)
def jm_165 : JMeth := (⟨"OverlapBenchLaw", "uses", "(LOverlapBenchLaw$Node;I)I"⟩, method_11_code, 2, (some .int), [], [], 5212, true, 1, cd_165)
def jm_166 : JMeth := (⟨"OverlapBenchLaw", "uses", "(LOverlapBenchLaw$Node;I)I"⟩, method_11_code, 2, (some .int), [], [], 5212, true, 2, cd_166)
def jm_167 : JMeth := (⟨"OverlapBenchLaw", "uses", "(LOverlapBenchLaw$Node;I)I"⟩, method_11_code, 2, (some .int), [], [], 5212, true, 3, cd_167)
def jm_168 : JMeth := (⟨"OverlapBenchLaw", "uses", "(LOverlapBenchLaw$Node;I)I"⟩, method_11_code, 2, (some .int), [], [], 5212, true, 4, cd_168)
def jm_169 : JMeth := (⟨"java/util/ArrayList", "add", "(Ljava/lang/Object;)Z"⟩, prog_42_method_25_code, 2, (some .boolean), [], [], 5216, false, 5, cd_169)
def jm_170 : JMeth := (⟨"java/util/ArrayList", "add", "(Ljava/lang/Object;[Ljava/lang/Object;I)V"⟩, prog_42_method_24_code, 4, none, [], [], 5220, false, 4, cd_170)
def jm_171 : JMeth := (⟨"java/util/ArrayList", "grow", "()[Ljava/lang/Object;"⟩, prog_42_method_7_code, 1, (some (.array (.object "java/lang/Object"))), [], [], 5224, false, 3, cd_171)
def jm_172 : JMeth := (⟨"java/util/ArrayList", "grow", "(I)[Ljava/lang/Object;"⟩, prog_42_method_6_code, 4, (some (.array (.object "java/lang/Object"))), [], [], 5228, false, 2, cd_172)
def jm_173 : JMeth := (⟨"jdk/internal/util/ArraysSupport", "newLength", "(III)I"⟩, prog_51_method_27_code, 4, (some .int), [], [], 5231, true, 1, cd_173)
def jm_174 : JMeth := (⟨"OverlapBenchLaw", "text", "(LOverlapBenchLaw$Sys;I)Ljava/lang/String;"⟩, method_21_code, 5, (some (.object "java/lang/String")), [], [], 6038, true, 17, cd_174)
def jm_175 : JMeth := (⟨"java/lang/StringBuilder", "<init>", "(Ljava/lang/String;)V"⟩, prog_33_method_3_code, 2, none, [], [], 6044, false, 8, cd_175)
def jm_176 : JMeth := (⟨"java/lang/AbstractStringBuilder", "<init>", "(Ljava/lang/String;)V"⟩, prog_17_method_3_code, 5, none, [], [], 6047, false, 7, cd_176)
def jm_177 : JMeth := (⟨"java/lang/StringBuilder", "append", "(Ljava/lang/String;)Ljava/lang/AbstractStringBuilder;"⟩, prog_33_method_80_code, 2, (some (.object "java/lang/AbstractStringBuilder")), [], [], 6065, false, 6, cd_177)
def jm_178 : JMeth := (⟨"java/lang/StringBuilder", "append", "(Ljava/lang/String;)Ljava/lang/StringBuilder;"⟩, prog_33_method_7_code, 2, (some (.object "java/lang/StringBuilder")), [], [], 6069, false, 5, cd_178)
def jm_179 : JMeth := (⟨"java/lang/AbstractStringBuilder", "append", "(Ljava/lang/String;)Ljava/lang/AbstractStringBuilder;"⟩, prog_17_method_22_code, 3, (some (.object "java/lang/AbstractStringBuilder")), [], [], 6072, false, 4, cd_179)
def jm_180 : JMeth := (⟨"java/lang/AbstractStringBuilder", "ensureCapacityInternal", "(I)V"⟩, prog_17_method_9_code, 3, none, [], [], 6080, false, 3, cd_180)
def jm_181 : JMeth := (⟨"java/lang/AbstractStringBuilder", "newCapacity", "(I)I"⟩, prog_17_method_10_code, 6, (some .int), [], [], 6084, false, 2, cd_181)
def jm_182 : JMeth := (⟨"java/util/Arrays", "copyOf", "([BI)[B"⟩, prog_43_method_121_code, 3, (some (.array .byte)), [], [], 6088, true, 1, cd_182)
def jm_183 : JMeth := (⟨"java/lang/AbstractStringBuilder", "isLatin1", "()Z"⟩, prog_17_method_68_code, 1, (some .boolean), [], [], 6100, false, 0, cd_183)
def jm_184 : JMeth := (⟨"java/lang/AbstractStringBuilder", "putStringAt", "(ILjava/lang/String;)V"⟩, prog_17_method_73_code, 3, none, [], [], 6120, false, 2, cd_184)
def jm_185 : JMeth := (⟨"java/lang/AbstractStringBuilder", "inflateIfNeededFor", "(Ljava/lang/String;)V"⟩, prog_17_method_71_code, 2, none, [], [], 6124, false, 1, cd_185)
def jm_186 : JMeth := (⟨"java/lang/String", "getBytes", "([BIB)V"⟩, prog_32_method_147_code, 4, none, [], [], 6147, false, 1, cd_186)
def jm_187 : JMeth := (⟨"java/util/ArrayList", "size", "()I"⟩, prog_42_method_8_code, 1, (some .int), [], [], 6165, false, 0, cd_187)
def jm_188 : JMeth := (⟨"java/util/ArrayList", "get", "(I)Ljava/lang/Object;"⟩, prog_42_method_20_code, 2, (some (.object "java/lang/Object")), [], [], 6171, false, 2, cd_188)
def jm_189 : JMeth := (⟨"java/util/Objects", "checkIndex", "(II)I"⟩, prog_46_method_17_code, 2, (some .int), [], [], 6174, true, 1, cd_189)
def jm_190 : JMeth := (⟨"java/util/ArrayList", "elementData", "(I)Ljava/lang/Object;"⟩, prog_42_method_18_code, 2, (some (.object "java/lang/Object")), [], [], 6179, false, 0, cd_190)
def jm_191 : JMeth := (⟨"OverlapBenchLaw", "write", "(LOverlapBenchLaw$Node;Ljava/lang/StringBuilder;)V"⟩, method_15_code, 2, none, [], [], 6183, true, 6, cd_191)
def jm_192 : JMeth := (⟨"OverlapBenchLaw", "write", "(LOverlapBenchLaw$Node;Ljava/lang/StringBuilder;)V"⟩, method_15_code, 2, none, [], [], 6183, true, 7, cd_192)
def jm_193 : JMeth := (⟨"OverlapBenchLaw", "write", "(LOverlapBenchLaw$Node;Ljava/lang/StringBuilder;)V"⟩, method_15_code, 2, none, [], [], 6183, true, 8, cd_193)
def jm_194 : JMeth := (⟨"OverlapBenchLaw", "write", "(LOverlapBenchLaw$Node;Ljava/lang/StringBuilder;)V"⟩, method_15_code, 2, none, [], [], 6183, true, 9, cd_194)
def jm_195 : JMeth := (⟨"OverlapBenchLaw", "write", "(LOverlapBenchLaw$Node;Ljava/lang/StringBuilder;)V"⟩, method_15_code, 2, none, [], [], 6183, true, 10, cd_195)
def jm_196 : JMeth := (⟨"java/lang/StringBuilder", "append", "(C)Ljava/lang/StringBuilder;"⟩, prog_33_method_14_code, 2, (some (.object "java/lang/StringBuilder")), [], [], 6187, false, 5, cd_196)
def jm_197 : JMeth := (⟨"java/lang/AbstractStringBuilder", "append", "(C)Ljava/lang/AbstractStringBuilder;"⟩, prog_17_method_31_code, 2, (some (.object "java/lang/AbstractStringBuilder")), [], [], 6190, false, 4, cd_197)
def jm_198 : JMeth := (⟨"java/lang/StringLatin1", "canEncode", "(C)Z"⟩, prog_34_method_3_code, 1, (some .boolean), [], [], 6193, true, 0, cd_198)
def jm_199 : JMeth := (⟨"OverlapBenchLaw$Sys", "inner", "(LOverlapBenchLaw$Node;)I"⟩, prog_14_method_5_code, 3, (some .int), [], [], 6205, false, 12, cd_199)
def jm_200 : JMeth := (⟨"OverlapBenchLaw$Sys", "inner", "(LOverlapBenchLaw$Node;)I"⟩, prog_14_method_5_code, 3, (some .int), [], [], 6205, false, 13, cd_200)
def jm_201 : JMeth := (⟨"OverlapBenchLaw$Sys", "inner", "(LOverlapBenchLaw$Node;)I"⟩, prog_14_method_5_code, 3, (some .int), [], [], 6205, false, 14, cd_201)
def jm_202 : JMeth := (⟨"OverlapBenchLaw$Sys", "inner", "(LOverlapBenchLaw$Node;)I"⟩, prog_14_method_5_code, 3, (some .int), [], [], 6205, false, 15, cd_202)
def jm_203 : JMeth := (⟨"OverlapBenchLaw$Sys", "inner", "(LOverlapBenchLaw$Node;)I"⟩, prog_14_method_5_code, 3, (some .int), [], [], 6205, false, 16, cd_203)
def jm_204 : JMeth := (⟨"OverlapBenchLaw", "size", "(LOverlapBenchLaw$Node;)I"⟩, method_8_code, 1, (some .int), [], [], 6209, true, 0, cd_204)
def jm_205 : JMeth := (⟨"OverlapBenchLaw", "size", "(LOverlapBenchLaw$Node;)I"⟩, method_8_code, 1, (some .int), [], [], 6209, true, 1, cd_205)
def jm_206 : JMeth := (⟨"OverlapBenchLaw", "size", "(LOverlapBenchLaw$Node;)I"⟩, method_8_code, 1, (some .int), [], [], 6209, true, 2, cd_206)
def jm_207 : JMeth := (⟨"OverlapBenchLaw", "size", "(LOverlapBenchLaw$Node;)I"⟩, method_8_code, 1, (some .int), [], [], 6209, true, 3, cd_207)
def jm_208 : JMeth := (⟨"OverlapBenchLaw", "size", "(LOverlapBenchLaw$Node;)I"⟩, method_8_code, 1, (some .int), [], [], 6209, true, 4, cd_208)
def jm_209 : JMeth := (⟨"OverlapBenchLaw", "size", "(LOverlapBenchLaw$Node;)I"⟩, method_8_code, 1, (some .int), [], [], 6209, true, 5, cd_209)
def jm_210 : JMeth := (⟨"OverlapBenchLaw", "size", "(LOverlapBenchLaw$Node;)I"⟩, method_8_code, 1, (some .int), [], [], 6209, true, 6, cd_210)
def jm_211 : JMeth := (⟨"OverlapBenchLaw", "size", "(LOverlapBenchLaw$Node;)I"⟩, method_8_code, 1, (some .int), [], [], 6209, true, 7, cd_211)
def jm_212 : JMeth := (⟨"OverlapBenchLaw$Sys", "rule", "(LOverlapBenchLaw$Node;)I"⟩, prog_14_method_4_code, 3, (some .int), [], [], 6214, false, 11, cd_212)
def jm_213 : JMeth := (⟨"OverlapBenchLaw$Sys", "matches", "(ILOverlapBenchLaw$Node;)Z"⟩, prog_14_method_3_code, 3, (some .boolean), [], [], 6219, false, 10, cd_213)
def jm_214 : JMeth := (⟨"java/util/Arrays", "fill", "([Ljava/lang/Object;Ljava/lang/Object;)V"⟩, prog_43_method_117_code, 4, none, [], [], 6222, true, 0, cd_214)
def jm_215 : JMeth := (⟨"OverlapBenchLaw", "match", "(LOverlapBenchLaw$Node;LOverlapBenchLaw$Node;[LOverlapBenchLaw$Node;)Z"⟩, method_16_code, 3, (some .boolean), [], [], 6227, true, 5, cd_215)
def jm_216 : JMeth := (⟨"OverlapBenchLaw", "match", "(LOverlapBenchLaw$Node;LOverlapBenchLaw$Node;[LOverlapBenchLaw$Node;)Z"⟩, method_16_code, 3, (some .boolean), [], [], 6227, true, 6, cd_216)
def jm_217 : JMeth := (⟨"OverlapBenchLaw", "match", "(LOverlapBenchLaw$Node;LOverlapBenchLaw$Node;[LOverlapBenchLaw$Node;)Z"⟩, method_16_code, 3, (some .boolean), [], [], 6227, true, 7, cd_217)
def jm_218 : JMeth := (⟨"OverlapBenchLaw", "match", "(LOverlapBenchLaw$Node;LOverlapBenchLaw$Node;[LOverlapBenchLaw$Node;)Z"⟩, method_16_code, 3, (some .boolean), [], [], 6227, true, 8, cd_218)
def jm_219 : JMeth := (⟨"OverlapBenchLaw", "match", "(LOverlapBenchLaw$Node;LOverlapBenchLaw$Node;[LOverlapBenchLaw$Node;)Z"⟩, method_16_code, 3, (some .boolean), [], [], 6227, true, 9, cd_219)
def jm_220 : JMeth := (⟨"OverlapBenchLaw", "same", "(LOverlapBenchLaw$Node;LOverlapBenchLaw$Node;)Z"⟩, method_10_code, 2, (some .boolean), [], [], 6230, true, 0, cd_220)
def jm_221 : JMeth := (⟨"OverlapBenchLaw", "same", "(LOverlapBenchLaw$Node;LOverlapBenchLaw$Node;)Z"⟩, method_10_code, 2, (some .boolean), [], [], 6230, true, 1, cd_221)
def jm_222 : JMeth := (⟨"OverlapBenchLaw", "same", "(LOverlapBenchLaw$Node;LOverlapBenchLaw$Node;)Z"⟩, method_10_code, 2, (some .boolean), [], [], 6230, true, 2, cd_222)
def jm_223 : JMeth := (⟨"OverlapBenchLaw", "same", "(LOverlapBenchLaw$Node;LOverlapBenchLaw$Node;)Z"⟩, method_10_code, 2, (some .boolean), [], [], 6230, true, 3, cd_223)
def jm_224 : JMeth := (⟨"OverlapBenchLaw", "same", "(LOverlapBenchLaw$Node;LOverlapBenchLaw$Node;)Z"⟩, method_10_code, 2, (some .boolean), [], [], 6230, true, 4, cd_224)
def jm_225 : JMeth := (⟨"OverlapBenchLaw$Sys", "step", "(LOverlapBenchLaw$Node;I)LOverlapBenchLaw$Node;"⟩, prog_14_method_9_code, 3, (some (.object "OverlapBenchLaw$Node")), [], [], 6235, false, 14, cd_225)
def jm_226 : JMeth := (⟨"OverlapBenchLaw", "at", "(LOverlapBenchLaw$Node;I)LOverlapBenchLaw$Node;"⟩, method_13_code, 3, (some (.object "OverlapBenchLaw$Node")), [], [], 6238, true, 8, cd_226)
def jm_227 : JMeth := (⟨"OverlapBenchLaw", "at", "(LOverlapBenchLaw$Node;I)LOverlapBenchLaw$Node;"⟩, method_13_code, 3, (some (.object "OverlapBenchLaw$Node")), [], [], 6238, true, 9, cd_227)
def jm_228 : JMeth := (⟨"OverlapBenchLaw", "at", "(LOverlapBenchLaw$Node;I)LOverlapBenchLaw$Node;"⟩, method_13_code, 3, (some (.object "OverlapBenchLaw$Node")), [], [], 6238, true, 10, cd_228)
def jm_229 : JMeth := (⟨"OverlapBenchLaw", "at", "(LOverlapBenchLaw$Node;I)LOverlapBenchLaw$Node;"⟩, method_13_code, 3, (some (.object "OverlapBenchLaw$Node")), [], [], 6238, true, 11, cd_229)
def jm_230 : JMeth := (⟨"OverlapBenchLaw", "at", "(LOverlapBenchLaw$Node;I)LOverlapBenchLaw$Node;"⟩, method_13_code, 3, (some (.object "OverlapBenchLaw$Node")), [], [], 6238, true, 12, cd_230)
def jm_231 : JMeth := (⟨"OverlapBenchLaw$Sys", "rewrite", "(ILOverlapBenchLaw$Node;I)LOverlapBenchLaw$Node;"⟩, prog_14_method_8_code, 5, (some (.object "OverlapBenchLaw$Node")), [], [], 7003, false, 13, cd_231)
def jm_232 : JMeth := (⟨"OverlapBenchLaw", "fill", "(LOverlapBenchLaw$Node;[LOverlapBenchLaw$Node;)LOverlapBenchLaw$Node;"⟩, method_17_code, 2, (some (.object "OverlapBenchLaw$Node")), [], [], 7006, true, 2, cd_232)
def jm_233 : JMeth := (⟨"OverlapBenchLaw", "fill", "(LOverlapBenchLaw$Node;[LOverlapBenchLaw$Node;)LOverlapBenchLaw$Node;"⟩, method_17_code, 2, (some (.object "OverlapBenchLaw$Node")), [], [], 7006, true, 3, cd_233)
def jm_234 : JMeth := (⟨"OverlapBenchLaw", "fill", "(LOverlapBenchLaw$Node;[LOverlapBenchLaw$Node;)LOverlapBenchLaw$Node;"⟩, method_17_code, 2, (some (.object "OverlapBenchLaw$Node")), [], [], 7006, true, 4, cd_234)
def jm_235 : JMeth := (⟨"OverlapBenchLaw", "fill", "(LOverlapBenchLaw$Node;[LOverlapBenchLaw$Node;)LOverlapBenchLaw$Node;"⟩, method_17_code, 2, (some (.object "OverlapBenchLaw$Node")), [], [], 7006, true, 5, cd_235)
def jm_236 : JMeth := (⟨"OverlapBenchLaw", "fill", "(LOverlapBenchLaw$Node;[LOverlapBenchLaw$Node;)LOverlapBenchLaw$Node;"⟩, method_17_code, 2, (some (.object "OverlapBenchLaw$Node")), [], [], 7006, true, 6, cd_236)
def jm_237 : JMeth := (⟨"OverlapBenchLaw", "put", "(LOverlapBenchLaw$Node;ILOverlapBenchLaw$Node;)LOverlapBenchLaw$Node;"⟩, method_14_code, 4, (some (.object "OverlapBenchLaw$Node")), [], [], 7010, true, 8, cd_237)
def jm_238 : JMeth := (⟨"OverlapBenchLaw", "put", "(LOverlapBenchLaw$Node;ILOverlapBenchLaw$Node;)LOverlapBenchLaw$Node;"⟩, method_14_code, 4, (some (.object "OverlapBenchLaw$Node")), [], [], 7010, true, 9, cd_238)
def jm_239 : JMeth := (⟨"OverlapBenchLaw", "put", "(LOverlapBenchLaw$Node;ILOverlapBenchLaw$Node;)LOverlapBenchLaw$Node;"⟩, method_14_code, 4, (some (.object "OverlapBenchLaw$Node")), [], [], 7010, true, 10, cd_239)
def jm_240 : JMeth := (⟨"OverlapBenchLaw", "put", "(LOverlapBenchLaw$Node;ILOverlapBenchLaw$Node;)LOverlapBenchLaw$Node;"⟩, method_14_code, 4, (some (.object "OverlapBenchLaw$Node")), [], [], 7010, true, 11, cd_240)
def jm_241 : JMeth := (⟨"OverlapBenchLaw", "put", "(LOverlapBenchLaw$Node;ILOverlapBenchLaw$Node;)LOverlapBenchLaw$Node;"⟩, method_14_code, 4, (some (.object "OverlapBenchLaw$Node")), [], [], 7010, true, 12, cd_241)
def jm_242 : JMeth := (⟨"java/util/ArrayList", "set", "(ILjava/lang/Object;)Ljava/lang/Object;"⟩, prog_42_method_23_code, 4, (some (.object "java/lang/Object")), [], [], 7016, false, 2, cd_242)
def jm_243 : JMeth := (⟨"java/lang/StringBuilder", "toString", "()Ljava/lang/String;"⟩, prog_33_method_42_code, 1, (some (.object "java/lang/String")), [], [], 7020, false, 5, cd_243)
def jm_244 : JMeth := (⟨"java/lang/String", "<init>", "(Ljava/lang/StringBuilder;)V"⟩, prog_32_method_53_code, 2, none, [], [], 7025, false, 4, cd_244)
def jm_245 : JMeth := (⟨"java/lang/String", "<init>", "(Ljava/lang/AbstractStringBuilder;Ljava/lang/Void;)V"⟩, prog_32_method_150_code, 5, none, [], [], 7028, false, 3, cd_245)
def jm_246 : JMeth := (⟨"java/lang/AbstractStringBuilder", "getValue", "()[B"⟩, prog_17_method_64_code, 1, (some (.array .byte)), [], [], 7034, false, 0, cd_246)
def jm_247 : JMeth := (⟨"java/lang/StringBuilder", "length", "()I"⟩, prog_33_method_93_code, 1, (some .int), [], [], 7040, false, 1, cd_247)
def jm_248 : JMeth := (⟨"java/lang/AbstractStringBuilder", "length", "()I"⟩, prog_17_method_6_code, 1, (some .int), [], [], 7042, false, 0, cd_248)
def jm_249 : JMeth := (⟨"java/util/Arrays", "copyOfRange", "([BII)[B"⟩, prog_43_method_132_code, 3, (some (.array .byte)), [], [], 7046, true, 2, cd_249)
def jm_250 : JMeth := (⟨"java/util/Arrays", "copyOfRangeByte", "([BII)[B"⟩, prog_43_method_133_code, 5, (some (.array .byte)), [], [], 7049, true, 1, cd_250)
def jm_251 : JMeth := (⟨"java/util/Arrays", "checkLength", "(II)V"⟩, prog_43_method_131_code, 2, none, [], [], 7052, true, 0, cd_251)
def jm_252 : JMeth := (⟨"OverlapBenchLaw", "told", "(LOverlapBench;[ILjava/lang/CharSequence;)I"⟩, method_22_code, 4, (some .int), [], [], 7076, true, 5, cd_252)
def jm_253 : JMeth := (⟨"OverlapBenchLaw", "put", "(LOverlapBench;[II)V"⟩, method_2_code, 4, none, [], [], 7109, true, 3, cd_253)
def jm_254 : JMeth := (⟨"OverlapBenchLaw", "flush", "(LOverlapBench;[I)V"⟩, method_3_code, 3, none, [], [], 7112, true, 2, cd_254)
def jm_255 : JMeth := (⟨"OverlapBench", "append", "(IIIII)I"⟩, prog_1_method_2_code, 6, (some .int), [], [], 7116, false, 1, cd_255)
def jm_256 : JMeth := (⟨"OverlapBench$Parser", "putFourBytes", "(I)V"⟩, prog_5_method_2_code, 3, none, [], [], 7120, false, 0, cd_256)
def jm_257 : JMeth := (⟨"OverlapBenchLaw", "said", "(LOverlapBench;[I)I"⟩, method_5_code, 3, (some .int), [], [], 7123, true, 4, cd_257)
def jm_258 : JMeth := (⟨"OverlapBenchLaw", "isWhole", "(LOverlapBench;II)Z"⟩, method_26_code, 3, (some .boolean), [], [], 7126, true, 10, cd_258)
def jm_259 : JMeth := (⟨"OverlapBench", "unify", "(II)Z"⟩, prog_1_method_38_code, 4, (some .boolean), [], [], 7130, false, 9, cd_259)
def jm_260 : JMeth := (⟨"OverlapBench$Unifier", "unites", "(LOverlapBench$Term;LOverlapBench$Term;)Z"⟩, prog_11_method_5_code, 5, (some .boolean), [], [], 7134, false, 4, cd_260)
def jm_261 : JMeth := (⟨"OverlapBench", "unifiedSize", "(II)I"⟩, prog_1_method_39_code, 4, (some .int), [], [], 7141, false, 9, cd_261)
def jm_262 : JMeth := (⟨"OverlapBench", "areEqual", "(II)Z"⟩, prog_1_method_25_code, 3, (some .boolean), [], [], 7146, false, 9, cd_262)
def jm_263 : JMeth := (⟨"OverlapBenchLaw", "sees", "(LOverlapBench;[J)V"⟩, method_27_code, 5, none, [], [], 7150, true, 11, cd_263)
def jm_264 : JMeth := (⟨"OverlapBench", "symbolAt", "(II)I"⟩, prog_1_method_21_code, 3, (some .int), [], [], 7159, false, 10, cd_264)
def jm_265 : JMeth := (⟨"OverlapBench$Term", "symbolOf", "(I)I"⟩, prog_10_method_5_code, 1, (some .int), [], [], 7163, true, 0, cd_265)
def jm_266 : JMeth := (⟨"OverlapBench", "variableAt", "(II)I"⟩, prog_1_method_22_code, 3, (some .int), [], [], 7167, false, 10, cd_266)
def jm_267 : JMeth := (⟨"OverlapBench", "writeRule", "(I)I"⟩, prog_1_method_47_code, 3, (some .int), [], [], 7173, false, 9, cd_267)
def jm_268 : JMeth := (⟨"OverlapBench$Output", "addTerm", "(LOverlapBench$Term;LOverlapBench$Signature;)V"⟩, prog_3_method_4_code, 6, none, [], [], 7177, false, 2, cd_268)
def jm_269 : JMeth := (⟨"OverlapBench$Output", "addName", "(ILOverlapBench$Signature;)V"⟩, prog_3_method_5_code, 5, none, [], [], 7182, false, 1, cd_269)
def jm_270 : JMeth := (⟨"OverlapBench$Output", "addByte", "(I)V"⟩, prog_3_method_3_code, 2, none, [], [], 7187, false, 0, cd_270)
def jm_271 : JMeth := (⟨"OverlapBench$Output", "closeBrackets", "(I)I"⟩, prog_3_method_6_code, 3, (some .int), [], [], 7195, false, 1, cd_271)
def jm_272 : JMeth := (⟨"OverlapBench", "outputByte", "(I)I"⟩, prog_1_method_50_code, 2, (some .int), [], [], 7200, false, 8, cd_272)
def jm_273 : JMeth := (⟨"OverlapBench$Output", "byteAt", "(I)I"⟩, prog_3_method_2_code, 2, (some .int), [], [], 7204, false, 0, cd_273)
def jm_274 : JMeth := (⟨"OverlapBenchLaw", "law", "([I)Z"⟩, code, maxLocals, ret, [], [], 0, true, 18, cd_274)
def jmeths_0 : List JMeth := [jm_0, jm_1, jm_2, jm_3, jm_4, jm_5, jm_6, jm_7, jm_8, jm_9, jm_10, jm_11, jm_12, jm_13, jm_14, jm_15, jm_16, jm_17, jm_18, jm_19, jm_20, jm_21, jm_22, jm_23, jm_24, jm_25, jm_26, jm_27, jm_28, jm_29, jm_30, jm_31, jm_32, jm_33, jm_34, jm_35, jm_36, jm_37, jm_38, jm_39, jm_40, jm_41, jm_42, jm_43, jm_44, jm_45, jm_46, jm_47, jm_48, jm_49, jm_50, jm_51, jm_52, jm_53, jm_54, jm_55, jm_56, jm_57, jm_58, jm_59]
def jmeths_1 : List JMeth := [jm_60, jm_61, jm_62, jm_63, jm_64, jm_65, jm_66, jm_67, jm_68, jm_69, jm_70, jm_71, jm_72, jm_73, jm_74, jm_75, jm_76, jm_77, jm_78, jm_79, jm_80, jm_81, jm_82, jm_83, jm_84, jm_85, jm_86, jm_87, jm_88, jm_89, jm_90, jm_91, jm_92, jm_93, jm_94, jm_95, jm_96, jm_97, jm_98, jm_99, jm_100, jm_101, jm_102, jm_103, jm_104, jm_105, jm_106, jm_107, jm_108, jm_109, jm_110, jm_111, jm_112, jm_113, jm_114, jm_115, jm_116, jm_117, jm_118, jm_119]
def jmeths_2 : List JMeth := [jm_120, jm_121, jm_122, jm_123, jm_124, jm_125, jm_126, jm_127, jm_128, jm_129, jm_130, jm_131, jm_132, jm_133, jm_134, jm_135, jm_136, jm_137, jm_138, jm_139, jm_140, jm_141, jm_142, jm_143, jm_144, jm_145, jm_146, jm_147, jm_148, jm_149, jm_150, jm_151, jm_152, jm_153, jm_154, jm_155, jm_156, jm_157, jm_158, jm_159, jm_160, jm_161, jm_162, jm_163, jm_164, jm_165, jm_166, jm_167, jm_168, jm_169, jm_170, jm_171, jm_172, jm_173, jm_174, jm_175, jm_176, jm_177, jm_178, jm_179]
def jmeths_3 : List JMeth := [jm_180, jm_181, jm_182, jm_183, jm_184, jm_185, jm_186, jm_187, jm_188, jm_189, jm_190, jm_191, jm_192, jm_193, jm_194, jm_195, jm_196, jm_197, jm_198, jm_199, jm_200, jm_201, jm_202, jm_203, jm_204, jm_205, jm_206, jm_207, jm_208, jm_209, jm_210, jm_211, jm_212, jm_213, jm_214, jm_215, jm_216, jm_217, jm_218, jm_219, jm_220, jm_221, jm_222, jm_223, jm_224, jm_225, jm_226, jm_227, jm_228, jm_229, jm_230, jm_231, jm_232, jm_233, jm_234, jm_235, jm_236, jm_237, jm_238, jm_239]
def jmeths_4 : List JMeth := [jm_240, jm_241, jm_242, jm_243, jm_244, jm_245, jm_246, jm_247, jm_248, jm_249, jm_250, jm_251, jm_252, jm_253, jm_254, jm_255, jm_256, jm_257, jm_258, jm_259, jm_260, jm_261, jm_262, jm_263, jm_264, jm_265, jm_266, jm_267, jm_268, jm_269, jm_270, jm_271, jm_272, jm_273, jm_274]
def jmeths : List JMeth := jmeths_0 ++ (jmeths_1 ++ (jmeths_2 ++ (jmeths_3 ++ (jmeths_4))))
abbrev m_OB_init : Nat := 0
abbrev m_Object_init : Nat := 1
abbrev m_Signature_init : Nat := 2
abbrev m_State_init : Nat := 3
abbrev m_Rule_init : Nat := 4
abbrev m_Term_init : Nat := 5
abbrev m_Math_max : Nat := 6
abbrev m_Rewriter_init : Nat := 7
abbrev m_Unifier_init : Nat := 8
abbrev m_Parser_init : Nat := 9
abbrev m_PairList_init : Nat := 10
abbrev m_Output_init : Nat := 11
abbrev m_History_init : Nat := 12
abbrev m_OB_parseSystem : Nat := 13
abbrev m_Parser_run : Nat := 14
abbrev m_State_clear : Nat := 15
abbrev m_Parser_next : Nat := 16
abbrev m_Parser_byteAt : Nat := 17
abbrev m_Parser_kindOfByte : Nat := 18
abbrev m_Parser_isWord : Nat := 19
abbrev m_String_length : Nat := 20
abbrev m_String_coder : Nat := 21
abbrev m_String_charAt : Nat := 22
abbrev m_String_isLatin1 : Nat := 23
abbrev m_StringLatin1_charAt : Nat := 24
abbrev m_String_checkIndex : Nat := 25
abbrev m_Preconditions_checkIndex : Nat := 26
abbrev m_Parser_fail : Nat := 27
abbrev m_Parser_readSymbol : Nat := 28
abbrev m_Parser_symbolOfWord : Nat := 29
abbrev m_Parser_isNamed : Nat := 30
abbrev m_Signature_nameLength : Nat := 31
abbrev m_Signature_letter : Nat := 32
abbrev m_Signature_begin : Nat := 33
abbrev m_Signature_addLetter : Nat := 34
abbrev m_Parser_readDigit : Nat := 35
abbrev m_Parser_digit : Nat := 36
abbrev m_Signature_finish : Nat := 37
abbrev m_Parser_readRule : Nat := 38
abbrev m_State_rule : Nat := 39
abbrev m_Parser_readTerm : Nat := 40
abbrev m_Term_clear : Nat := 41
abbrev m_Parser_faultOfNode : Nat := 42
abbrev m_Parser_variableOfToken : Nat := 43
abbrev m_Term_variableNode : Nat := 44
abbrev m_Term_count : Nat := 45
abbrev m_Term_get : Nat := 46
abbrev m_Parser_nodeOfToken : Nat := 47
abbrev m_Signature_arity : Nat := 48
abbrev m_Term_symbolNode : Nat := 49
abbrev m_Term_add : Nat := 50
abbrev m_Term_arityOf : Nat := 51
abbrev m_Parser_closeBrackets : Nat := 52
abbrev m_Parser_readPlainTerm : Nat := 53
abbrev m_State_term : Nat := 54
abbrev m_Parser_readCopy : Nat := 55
abbrev m_State_addTerm : Nat := 56
abbrev m_Term_addPart : Nat := 57
abbrev m_Parser_readFlip : Nat := 58
abbrev m_Rule_canTurn : Nat := 59
abbrev m_Rule_turn : Nat := 60
abbrev m_Parser_readStep : Nat := 61
abbrev m_Rewriter_step : Nat := 62
abbrev m_Rewriter_redex : Nat := 63
abbrev m_Rewriter_firstRule : Nat := 64
abbrev m_Rewriter_match : Nat := 65
abbrev m_Arrays_fill : Nat := 66
abbrev m_Term_sameParts : Nat := 67
abbrev m_Term_end : Nat := 68
abbrev m_Rewriter_buildFirst : Nat := 69
abbrev m_Rewriter_build : Nat := 70
abbrev m_Term_copyFrom : Nat := 71
abbrev m_Math_min : Nat := 72
abbrev m_Signature_copyFrom : Nat := 73
abbrev m_OB_adopt : Nat := 74
abbrev m_State_copyFrom : Nat := 75
abbrev m_Rule_copyFrom : Nat := 76
abbrev m_OB_ruleCount : Nat := 77
abbrev m_OB_requireSystem : Nat := 78
abbrev m_OB_termCount : Nat := 79
abbrev m_OB_termSize : Nat := 80
abbrev m_OB_requireTerm : Nat := 81
abbrev m_OB_requireIndex : Nat := 82
abbrev m_OB_subtermSize : Nat := 83
abbrev m_OB_requireNode : Nat := 84
abbrev m_OB_matches : Nat := 85
abbrev m_OB_requireRule : Nat := 86
abbrev m_OB_ruleAt : Nat := 87
abbrev m_OB_redexCount : Nat := 88
abbrev m_Rewriter_countRedexes : Nat := 89
abbrev m_OB_innermostRedex : Nat := 90
abbrev m_OB_outermostRedex : Nat := 91
abbrev m_OB_isNormalForm : Nat := 92
abbrev m_OB_stepsInnermost : Nat := 93
abbrev m_Rewriter_reduce : Nat := 94
abbrev m_OB_stepsOutermost : Nat := 95
abbrev m_OB_normalFormSize : Nat := 96
abbrev m_OB_criticalPairCount : Nat := 97
abbrev m_PairList_refresh : Nat := 98
abbrev m_PairList_has : Nat := 99
abbrev m_PairList_buildPair : Nat := 100
abbrev m_Unifier_clear : Nat := 101
abbrev m_Unifier_load : Nat := 102
abbrev m_Unifier_shareVariable : Nat := 103
abbrev m_Unifier_solve : Nat := 104
abbrev m_Unifier_merge : Nat := 105
abbrev m_Unifier_push : Nat := 106
abbrev m_Unifier_pop : Nat := 107
abbrev m_Unifier_root : Nat := 108
abbrev m_Unifier_label : Nat := 109
abbrev m_Unifier_hang : Nat := 110
abbrev m_Unifier_pushArguments : Nat := 111
abbrev m_Unifier_end : Nat := 112
abbrev m_Unifier_isFinite : Nat := 113
abbrev m_Unifier_isSettled : Nat := 114
abbrev m_Unifier_settles : Nat := 115
abbrev m_Unifier_settle : Nat := 116
abbrev m_PairList_firstTerm : Nat := 117
abbrev m_PairList_secondTerm : Nat := 118
abbrev m_Unifier_expand : Nat := 119
abbrev m_Unifier_pushReversed : Nat := 120
abbrev m_PairList_nameVariables : Nat := 121
abbrev m_Term_variableOf : Nat := 122
abbrev m_Term_set : Nat := 123
abbrev m_PairList_keep : Nat := 124
abbrev m_OB_unjoinedPairs : Nat := 125
abbrev m_PairList_joins : Nat := 126
abbrev m_Rewriter_meet : Nat := 127
abbrev m_Term_sameAs : Nat := 128
abbrev m_OB_stepInnermost : Nat := 129
abbrev m_OB_takeStep : Nat := 130
abbrev m_OB_remember : Nat := 131
abbrev m_History_keep : Nat := 132
abbrev m_History_at : Nat := 133
abbrev m_OB_stepOutermost : Nat := 134
abbrev m_OB_normalize : Nat := 135
abbrev m_OB_copySubterm : Nat := 136
abbrev m_OB_replaceSubterm : Nat := 137
abbrev m_OB_swapRules : Nat := 138
abbrev m_Rule_exchange : Nat := 139
abbrev m_OB_removeTerm : Nat := 140
abbrev m_State_dropTerm : Nat := 141
abbrev m_OB_undo : Nat := 142
abbrev m_History_takeBack : Nat := 143
abbrev m_OB_undoCount : Nat := 144
abbrev m_OB_saveState : Nat := 145
abbrev m_OB_restoreState : Nat := 146
abbrev m_Lw_cell : Nat := 147
abbrev m_Lw_sys : Nat := 148
abbrev m_Sys_init : Nat := 149
abbrev m_AL_init : Nat := 150
abbrev m_AbstractList_init : Nat := 151
abbrev m_AbstractCollection_init : Nat := 152
abbrev m_Lw_tree0 : Nat := 153
abbrev m_Lw_tree1 : Nat := 154
abbrev m_Lw_tree2 : Nat := 155
abbrev m_Lw_tree3 : Nat := 156
abbrev m_Lw_tree4 : Nat := 157
abbrev m_Node_init : Nat := 158
abbrev m_Lw_closed0 : Nat := 159
abbrev m_Lw_closed1 : Nat := 160
abbrev m_Lw_closed2 : Nat := 161
abbrev m_Lw_closed3 : Nat := 162
abbrev m_Lw_closed4 : Nat := 163
abbrev m_Lw_uses0 : Nat := 164
abbrev m_Lw_uses1 : Nat := 165
abbrev m_Lw_uses2 : Nat := 166
abbrev m_Lw_uses3 : Nat := 167
abbrev m_Lw_uses4 : Nat := 168
abbrev m_AL_add : Nat := 169
abbrev m_AL_add3 : Nat := 170
abbrev m_AL_grow : Nat := 171
abbrev m_AL_growTo : Nat := 172
abbrev m_ArraysSupport_newLength : Nat := 173
abbrev m_Lw_text : Nat := 174
abbrev m_SB_init : Nat := 175
abbrev m_ASB_init : Nat := 176
abbrev m_SB_bridge : Nat := 177
abbrev m_SB_append : Nat := 178
abbrev m_ASB_append : Nat := 179
abbrev m_ASB_ensureCapacityInternal : Nat := 180
abbrev m_ASB_newCapacity : Nat := 181
abbrev m_Arrays_copyOf : Nat := 182
abbrev m_ASB_isLatin1 : Nat := 183
abbrev m_ASB_putStringAt : Nat := 184
abbrev m_ASB_inflateIfNeededFor : Nat := 185
abbrev m_String_getBytes : Nat := 186
abbrev m_AL_size : Nat := 187
abbrev m_AL_get : Nat := 188
abbrev m_Objects_checkIndex : Nat := 189
abbrev m_AL_elementData : Nat := 190
abbrev m_Lw_write0 : Nat := 191
abbrev m_Lw_write1 : Nat := 192
abbrev m_Lw_write2 : Nat := 193
abbrev m_Lw_write3 : Nat := 194
abbrev m_Lw_write4 : Nat := 195
abbrev m_SB_appendC : Nat := 196
abbrev m_ASB_appendC : Nat := 197
abbrev m_StringLatin1_canEncode : Nat := 198
abbrev m_Sys_inner0 : Nat := 199
abbrev m_Sys_inner1 : Nat := 200
abbrev m_Sys_inner2 : Nat := 201
abbrev m_Sys_inner3 : Nat := 202
abbrev m_Sys_inner4 : Nat := 203
abbrev m_Lw_size0 : Nat := 204
abbrev m_Lw_size1 : Nat := 205
abbrev m_Lw_size2 : Nat := 206
abbrev m_Lw_size3 : Nat := 207
abbrev m_Lw_size4 : Nat := 208
abbrev m_Lw_size5 : Nat := 209
abbrev m_Lw_size6 : Nat := 210
abbrev m_Lw_size7 : Nat := 211
abbrev m_Sys_rule : Nat := 212
abbrev m_Sys_matches : Nat := 213
abbrev m_Arrays_fillO : Nat := 214
abbrev m_Lw_match0 : Nat := 215
abbrev m_Lw_match1 : Nat := 216
abbrev m_Lw_match2 : Nat := 217
abbrev m_Lw_match3 : Nat := 218
abbrev m_Lw_match4 : Nat := 219
abbrev m_Lw_same0 : Nat := 220
abbrev m_Lw_same1 : Nat := 221
abbrev m_Lw_same2 : Nat := 222
abbrev m_Lw_same3 : Nat := 223
abbrev m_Lw_same4 : Nat := 224
abbrev m_Sys_step : Nat := 225
abbrev m_Lw_at0 : Nat := 226
abbrev m_Lw_at1 : Nat := 227
abbrev m_Lw_at2 : Nat := 228
abbrev m_Lw_at3 : Nat := 229
abbrev m_Lw_at4 : Nat := 230
abbrev m_Sys_rewrite : Nat := 231
abbrev m_Lw_fill0 : Nat := 232
abbrev m_Lw_fill1 : Nat := 233
abbrev m_Lw_fill2 : Nat := 234
abbrev m_Lw_fill3 : Nat := 235
abbrev m_Lw_fill4 : Nat := 236
abbrev m_Lw_put0 : Nat := 237
abbrev m_Lw_put1 : Nat := 238
abbrev m_Lw_put2 : Nat := 239
abbrev m_Lw_put3 : Nat := 240
abbrev m_Lw_put4 : Nat := 241
abbrev m_AL_set : Nat := 242
abbrev m_SB_toString : Nat := 243
abbrev m_String_init : Nat := 244
abbrev m_String_init2 : Nat := 245
abbrev m_ASB_getValue : Nat := 246
abbrev m_SB_length : Nat := 247
abbrev m_ASB_length : Nat := 248
abbrev m_Arrays_copyOfRange : Nat := 249
abbrev m_Arrays_copyOfRangeByte : Nat := 250
abbrev m_Arrays_checkLength : Nat := 251
abbrev m_Lw_told : Nat := 252
abbrev m_Lw_putc : Nat := 253
abbrev m_Lw_flush : Nat := 254
abbrev m_OB_append : Nat := 255
abbrev m_Parser_putFourBytes : Nat := 256
abbrev m_Lw_said : Nat := 257
abbrev m_Lw_isWhole : Nat := 258
abbrev m_OB_unify : Nat := 259
abbrev m_Unifier_unites : Nat := 260
abbrev m_OB_unifiedSize : Nat := 261
abbrev m_OB_areEqual : Nat := 262
abbrev m_Lw_sees : Nat := 263
abbrev m_OB_symbolAt : Nat := 264
abbrev m_Term_symbolOf : Nat := 265
abbrev m_OB_variableAt : Nat := 266
abbrev m_OB_writeRule : Nat := 267
abbrev m_Output_addTerm : Nat := 268
abbrev m_Output_addName : Nat := 269
abbrev m_Output_addByte : Nat := 270
abbrev m_Output_closeBrackets : Nat := 271
abbrev m_OB_outputByte : Nat := 272
abbrev m_Output_byteAt : Nat := 273
abbrev m_Lw_law : Nat := 274
end
section
/-! THE PURE MACHINE: what the methods do, over a memory of numbered cells; no step of the printed machine is spoken of here. Part 06 holds the printed machine against it. -/
/-- a value: a number, a cell (its number), or another value of the machine as it is -/
abbrev JV : Type := Int ⊕ (Nat ⊕ Value)
/-- memory: shapes (class or kind of array, size), values, cells made, slots made, whether cells may still be numbered, the script -/
abbrev JM : Type := List (Nat × Nat) × (Nat → Nat → JV) × Nat × Nat × Bool × (Nat × (Nat → Int))
abbrev JO : Type := Option JV ⊕ Nat
abbrev JR : Type := (Nat × List JV × List JV × JM) ⊕ ((Nat × List JV × List JV) ⊕ (JO × JM))
abbrev jI (z : Int) : JV := .inl z
abbrev jR (i : Nat) : JV := .inr (.inl i)
abbrev jX (v : Value) : JV := .inr (.inr v)
abbrev jU : JV := .inr (.inr (.retAddr 0))
def jsh (M : JM) (i : Nat) : Option (Nat × Nat) := M.1[i]?
def jget (M : JM) (i k : Nat) : JV := M.2.1 i k
def jset (M : JM) (i k : Nat) (v : JV) : JM := (M.1, fun a j => if a = i ∧ j = k then v else M.2.1 a j, M.2.2)
def jpush (M : JM) (t n : Nat) (f : Nat → JV) : JM := (M.1 ++ [(t, n)], fun a j => if a = M.1.length then f j else M.2.1 a j, M.2.2.1 + 1, M.2.2.2.1 + n, M.2.2.2.2)
def jthrow (M : JM) : JM := (M.1, M.2.1, M.2.2.1 + 1, M.2.2.2.1 + 6, false, M.2.2.2.2.2)
def jcells (M : JM) : Nat := M.2.2.1
def jslots (M : JM) : Nat := M.2.2.2.1
def jclean (M : JM) : Bool := M.2.2.2.2.1
def jL (M : JM) : Nat := M.2.2.2.2.2.1
def jxs (M : JM) : Nat → Int := M.2.2.2.2.2.2
/-- one reference -/
def jeqr : JV → JV → Bool
  | .inr (.inl i), .inr (.inl j) => decide (i = j)
  | .inr (.inr .null), .inr (.inr .null) => true
  | _, _ => false
/-- two references that may be compared -/
def jap : JV → JV → Bool
  | .inr (.inl i), .inr (.inl j) => decide (i = j ∨ (i < 1000000 ∧ j < 1000000))
  | _, _ => true
def jleq : JV → JV → Bool
  | .inr (.inr (.long x)), .inr (.inr (.long y)) => decide (x = y)
  | _, _ => false
def jnl : JV → Bool
  | .inr (.inl _) => true
  | .inr (.inr .null) => true
  | _ => false
/-- 32 bits -/
def wr (z : Int) : Int := z.bmod 4294967296
def jand (x y : Int) : Int := (Int32.ofInt x &&& Int32.ofInt y).toInt
def jshr (x y : Int) : Int := (Int32.ofInt x >>> (Int32.ofInt y &&& 31)).toInt
def jushr (x y : Int) : Int := (((Int32.ofInt x).toUInt32 >>> ((Int32.ofInt y).toUInt32 &&& Int32.toUInt32 31)).toInt32).toInt
def jor (x y : Int) : Int := (Int32.ofInt x ||| Int32.ofInt y).toInt
def jshl (x y : Int) : Int := (Int32.ofInt x <<< (Int32.ofInt y &&& 31)).toInt
def jdiv (x y : Int) : Int := (Int32.ofInt x / Int32.ofInt y).toInt
def jrem (x y : Int) : Int := (Int32.ofInt x - Int32.ofInt x / Int32.ofInt y * Int32.ofInt y).toInt
def jb8 (x : Int) : Int := ((Int32.ofInt x).toInt8.toInt32).toInt
def jc16 (x : Int) : Int := (((Int32.ofInt x).toUInt32 % 65536).toInt32).toInt
def jfields (a : Nat) : List (String × String × String × Bool) := (jFs.getD a ("", [])).2
def jkd (d : String) : Nat := if d = "I" then 0 else if d = "Z" then 1 else if d = "B" then 3 else 2
def jdef (a k : Nat) : JV := if jkd ((jfields a).getD k ("", "", "", false)).2.2.1 = 2 then jX .null else jI 0
/-- the literals' bytes -/
def jlit : Nat → List Int
  | 0 => [115, 121, 115, 116, 101, 109]
  | 1 => [115, 121, 109, 98, 111, 108]
  | 2 => [114, 117, 108, 101]
  | 3 => [116, 101, 114, 109]
  | 4 => [99, 111, 112, 121]
  | 5 => [102, 108, 105, 112]
  | 6 => [115, 116, 101, 112]
  | 7 => [115, 121, 115, 116, 101, 109, 59, 115, 121, 109, 98, 111, 108, 32, 102, 32, 50, 59, 115, 121, 109, 98, 111, 108, 32, 103, 32, 49, 59, 115, 121, 109, 98, 111, 108, 32, 97, 32, 48, 59, 115, 121, 109, 98, 111, 108, 32, 98, 32, 48]
  | 8 => [59, 114, 117, 108, 101, 32]
  | 9 => [102, 103, 97, 98]
  | 10 => [32, 61, 32]
  | 11 => [59, 116, 101, 114, 109, 32]
  | 12 => [59, 99, 111, 112, 121, 32, 49]
  | _ => [59, 115, 116, 101, 112, 32, 48]
def jc2 : JV → Bool
  | .inr (.inr (.long _)) => true
  | .inr (.inr (.double _)) => true
  | _ => false
def jld (ls : List JV) (i : Nat) : JV := ls.getD i jU
def jsto (ls : List JV) (i : Nat) (v : JV) : Option (List JV) := if jc2 ((jU :: ls).getD i jU) = false ∧ i < ls.length then some (ls.set i v) else none
def jsto2 (ls : List JV) (i : Nat) (v : JV) : Option (List JV) := if jc2 ((jU :: ls).getD i jU) = false ∧ i + 1 < ls.length then some ((ls.set i v).set (i + 1) jU) else none
/-- the tag of a cell: a class (below 50; 15: String), an array (100 ..), none -/
def jtag (M : JM) (i : Nat) : Nat := if i < 1000000 then ((jsh M i).getD (99, 0)).1 else if 2000000 ≤ i ∧ i < 2000014 then 15 else 99
def jlen (M : JM) (i : Nat) : Option Nat :=
  if i < 1000000 then (match jsh M i with | some (t, n) => if 100 ≤ t then some n else none | none => none)
  else if i = 1000000 then some (jL M) else if i = 1000001 then some 0 else if 3000000 ≤ i ∧ i < 3000014 then some (jlit (i - 3000000)).length else none
def jm0 : JMeth := (⟨"", "", ""⟩, ⟨#[]⟩, 0, none, [], [], 0, false, 0, [])
def jcode (mi pc : Nat) : Option JI := ((jmeths.getD mi jm0).2.2.2.2.2.2.2.2.2).lookup pc
def jmaxL (mi : Nat) : Nat := (jmeths.getD mi jm0).2.2.1
def jhh (mi : Nat) : List (Nat × Nat × Nat × Nat) := (jmeths.getD mi jm0).2.2.2.2.1
def jown (mi : Nat) : String := (jmeths.getD mi jm0).1.cls
/-- the class whose methods they are, by its number -/
def jcls (mi : Nat) : Nat := if jown mi = "java/lang/AbstractStringBuilder" then 14 else jFs.findIdx (fun q => q.1 == jown mi)
def jN (pc : Nat) (ls st : List JV) (M : JM) : Option JR := some (.inl (pc, ls, st, M))
def jF (v : Option JV) (M : JM) : Option JR := some (.inr (.inr (.inl v, M)))
def jNo (pc : Nat) (o : Option (List JV)) (st : List JV) (M : JM) : Option JR := match o with
  | some ls => jN pc ls st M
  | none => none
/-- words of a stack -/
def jwds (st : List JV) : Nat := (st.map fun v => if jc2 v = true then 2 else 1).sum
/-- a call: n values beside the receiver -/
def jcall (y n : Nat) (virt : Bool) (recv : Bool) (ls st : List JV) (M : JM) : Option JR :=
  let k := if recv then n + 1 else n
  if k ≤ st.length ∧ jwds (st.drop k) ≤ 8 ∧ ((st.take k).all fun v => !jc2 v) = true then
    match recv, (st.take k).reverse with
    | true, .inr (.inl i) :: _ => if virt = false ∨ jtag M i = jcls y then some (.inr (.inl (y, (st.take k).reverse, st.drop k))) else none
    | true, _ => none
    | false, as => some (.inr (.inl (y, as, st.drop k)))
  else none
def jfit (kind : Nat) (v : JV) : Bool := match kind, v with
  | 0, .inl _ => true
  | 1, .inl z => z == 0 || z == 1
  | 2, .inr (.inl _) => true
  | 2, .inr (.inr .null) => true
  | 3, .inl z => decide (-128 ≤ z ∧ z ≤ 127)
  | _, _ => false
def jret (kind : Nat) (z : Int) : Bool := match kind with
  | 0 => true
  | 1 => z == 0 || z == 1
  | 2 => decide (-128 ≤ z ∧ z ≤ 127)
  | _ => decide (0 ≤ z ∧ z ≤ 65535)
def jnan32 (r : UInt32) : Bool := decide (r &&& 0x7fffffff ≤ 0x7f800000)
def jnan64 (r : UInt64) : Bool := decide (r &&& 0x7fffffffffffffff ≤ 0x7ff0000000000000)
def jld1 (x : JV) (st : List JV) (pc : Nat) (ls : List JV) (M : JM) : Option JR := match x with
  | .inl z => jN pc ls (.inl z :: st) M
  | _ => none
def jld2 (x : JV) (st : List JV) (pc : Nat) (ls : List JV) (M : JM) : Option JR := match x with
  | .inr (.inl i) => jN pc ls (.inr (.inl i) :: st) M
  | .inr (.inr .null) => jN pc ls (jX .null :: st) M
  | _ => none
def jldf (x : JV) (st : List JV) (pc : Nat) (ls : List JV) (M : JM) : Option JR := match x with
  | .inr (.inr (.float b)) => jN pc ls (jX (.float b) :: st) M
  | _ => none
def jldd (x : JV) (st : List JV) (pc : Nat) (ls : List JV) (M : JM) : Option JR := match x with
  | .inr (.inr (.double b)) => jN pc ls (jX (.double b) :: st) M
  | _ => none
def jst1 (i : Nat) (st : List JV) (pc : Nat) (ls : List JV) (M : JM) : Option JR := match st with
  | .inl z :: r => jNo pc (jsto ls i (.inl z)) r M
  | _ => none
def jst2 (i : Nat) (st : List JV) (pc : Nat) (ls : List JV) (M : JM) : Option JR := match st with
  | .inr (.inl k) :: r => jNo pc (jsto ls i (.inr (.inl k))) r M
  | .inr (.inr .null) :: r => jNo pc (jsto ls i (jX .null)) r M
  | _ => none
def jbr (c : Bool) (t f : Nat) (ls st : List JV) (M : JM) : Option JR := if c = true then jN t ls st M else jN f ls st M
def jcond (c : Jvm.ClassFile.Cond) (x y : Int) : Bool := match c with
  | .eq => decide (x = y)
  | .ne => decide (¬ x = y)
  | .lt => decide (x < y)
  | .ge => decide (y ≤ x)
  | .gt => decide (y < x)
  | .le => decide (x ≤ y)
def jwrite (t : Nat) (i : Nat) (k : Int) (v : JV) (pc : Nat) (ls st : List JV) (M : JM) : Option JR := match jsh M i with
  | some (t', n) => if i < 1000000 ∧ t' = t ∧ 0 ≤ k ∧ k.toNat < n then jN pc ls st (jset M i k.toNat v) else none
  | none => none
def jread (t : Nat) (i : Nat) (k : Int) (pc : Nat) (ls st : List JV) (M : JM) : Option JR := match jsh M i with
  | some (t', n) => if i < 1000000 ∧ t' = t ∧ 0 ≤ k ∧ k.toNat < n then jN pc ls (jget M i k.toNat :: st) M else none
  | none => none
/-- bytes copied: from a text's row, or from another cell -/
def jsrc (M : JM) (i k : Nat) : JV := if 3000000 ≤ i ∧ i < 3000014 then jI ((jlit (i - 3000000)).getD k 0) else jget M i k
def jbytes (M : JM) (i : Nat) : Option Nat := if 3000000 ≤ i ∧ i < 3000014 then some (jlit (i - 3000000)).length else match jsh M i with
  | some (t, n) => if i < 1000000 ∧ t = 101 then some n else none
  | none => none
def jby1 (v : JV) : Bool := match v with
  | .inl z => decide (-128 ≤ z ∧ z ≤ 127)
  | _ => false
def jcopied (M : JM) (src sp dst dp n : Nat) : JM := (M.1, fun a j => if a = dst ∧ dp ≤ j ∧ j < dp + n then jsrc M src (sp + (j - dp)) else M.2.1 a j, M.2.2)
/-- methods that are called as super's own -/
def jsup (a : Nat) : Bool := decide (a = m_ASB_append ∨ a = m_ASB_appendC ∨ a = m_ASB_length)
def jcopy (pc : Nat) (ls st : List JV) (M : JM) : Option JR := match st with
  | .inl n :: .inl dp :: .inr (.inl dst) :: .inl sp :: .inr (.inl src) :: r => (match jbytes M src, jsh M dst with
    | some a, some (t, b) => if dst < 1000000 ∧ t = 101 ∧ src ≠ dst ∧ 0 ≤ n ∧ 0 ≤ sp ∧ 0 ≤ dp ∧ sp + n ≤ (a : Int) ∧ dp + n ≤ (b : Int) ∧ r.length ≤ 3 ∧ (r.all fun v => !jc2 v) = true ∧ ((List.range n.toNat).all fun k => jby1 (jsrc M src (sp.toNat + k))) = true then jN (pc + 3) ls r (jcopied M src sp.toNat dst dp.toNat n.toNat) else none
    | _, _ => none)
  | _ => none
def jclone (pc : Nat) (ls st : List JV) (M : JM) : Option JR := match st with
  | .inr (.inl i) :: r => (match jsh M i with
    | some (t, n) => if i < 1000000 ∧ t = 101 ∧ n < 60000000 ∧ jclean M = true ∧ M.1.length < 1000000 ∧ r.length ≤ 3 ∧ (r.all fun v => !jc2 v) = true ∧ ((List.range n).all fun k => jby1 (jget M i k)) = true then jN (pc + 3) ls (jR M.1.length :: r) (jpush M 101 n (fun k => jget M i k)) else none
    | none => none)
  | _ => none
def jfilled (M : JM) (i : Nat) (v : JV) : JM := (M.1, fun a j => if a = i then v else M.2.1 a j, M.2.2)
def jfill (pc : Nat) (ls st : List JV) (M : JM) : Option JR := match st with
  | .inr (.inr (.long v)) :: .inr (.inl i) :: r => (match jsh M i with
    | some (t, n) => if i < 1000000 ∧ t = 103 ∧ n < 60000000 ∧ r = [] then jN (pc + 3) ls r (jfilled M i (jX (.long v))) else none
    | none => none)
  | _ => none
/-- two long rows that hold the same -/
def jsame (pc : Nat) (ls st : List JV) (M : JM) : Option JR := match st with
  | .inr (.inl j) :: .inr (.inl i) :: r => if jsh M i = some (103, 60) ∧ jsh M j = some (103, 60) ∧ i < j ∧ j < 1000000 ∧ r = [] ∧ ((List.range 60).all fun k => jleq (jget M i k) (jget M j k)) = true then jN (pc + 3) ls (jI 1 :: r) M else none
  | _ => none
/-- how long the call's row is -/
def jrl (x : JI) : Nat := match x.1 with
  | .invokeinterface _ _ => 5
  | _ => 3
def jstep (x : JI) (pc : Nat) (ls st : List JV) (M : JM) : Option JR :=
  match x with
  | (ins, len, a, b, _) => match ins with
    | .aload_n k => jld2 (jld ls k) st (pc + 1) ls M
    | .aload i => jld2 (jld ls i) st (pc + 2) ls M
    | .iload_n k => jld1 (jld ls k) st (pc + 1) ls M
    | .iload i => jld1 (jld ls i) st (pc + 2) ls M
    | .istore_n k => jst1 k st (pc + 1) ls M
    | .istore i => jst1 i st (pc + 2) ls M
    | .astore_n k => jst2 k st (pc + 1) ls M
    | .astore i => jst2 i st (pc + 2) ls M
    | .iinc i n => (match jld ls i with | .inl z => jNo (pc + 3) (jsto ls i (.inl (wr (z + n)))) st M | _ => none)
    | .iconst n => jN (pc + 1) ls (jI n :: st) M
    | .bipush n => jN (pc + 2) ls (jI n :: st) M
    | .sipush n => jN (pc + 3) ls (jI n :: st) M
    | .lconst n => jN (pc + 1) ls (jX (.long (Int64.ofNat n)) :: st) M
    | .ldc _ => if b = 0 then jN (pc + 2) ls (jI ((a : Int) - 2147483648) :: st) M else if b = 1 then jN (pc + 2) ls (jR (2000000 + a) :: st) M else none
    | .ldc_w _ => if b = 0 then jN (pc + 3) ls (jI ((a : Int) - 2147483648) :: st) M else if b = 1 then jN (pc + 3) ls (jR (2000000 + a) :: st) M else none
    | .getstatic _ => if a = 0 then jN (pc + 3) ls (jI 1 :: st) M else if a = 1 then jN (pc + 3) ls (jR 1000001 :: st) M else none
    | .aconst_null => jN (pc + 1) ls (jX .null :: st) M
    | .ldc2_w _ => jN (pc + 3) ls (jX (.long (Int64.ofNat a)) :: st) M
    | .ior => (match st with | .inl y :: .inl x :: r => jN (pc + 1) ls (.inl (jor x y) :: r) M | _ => none)
    | .ishl => (match st with | .inl y :: .inl x :: r => jN (pc + 1) ls (.inl (jshl x y) :: r) M | _ => none)
    | .idiv => (match st with | .inl y :: .inl x :: r => if 0 < y ∧ y < 2147483648 then jN (pc + 1) ls (.inl (jdiv x y) :: r) M else none | _ => none)
    | .irem => (match st with | .inl y :: .inl x :: r => if 0 < y ∧ y < 2147483648 then jN (pc + 1) ls (.inl (jrem x y) :: r) M else none | _ => none)
    | .ladd => (match st with | .inr (.inr (.long y)) :: .inr (.inr (.long x)) :: r => jN (pc + 1) ls (jX (.long (x + y)) :: r) M | _ => none)
    | .lsub => (match st with | .inr (.inr (.long y)) :: .inr (.inr (.long x)) :: r => jN (pc + 1) ls (jX (.long (x - y)) :: r) M | _ => none)
    | .lmul => (match st with | .inr (.inr (.long y)) :: .inr (.inr (.long x)) :: r => jN (pc + 1) ls (jX (.long (x * y)) :: r) M | _ => none)
    | .l2i => (match st with | .inr (.inr (.long x)) :: r => jN (pc + 1) ls (.inl x.toInt32.toInt :: r) M | _ => none)
    | .dup_x1 => (match st with | v :: w :: r => if jc2 v = false ∧ jc2 w = false then jN (pc + 1) ls (v :: w :: v :: r) M else none | _ => none)
    | .checkcast _ => (match st with
      | .inr (.inl i) :: r => if jtag M i = a ∧ i < 1000000 then jN (pc + 3) ls (.inr (.inl i) :: r) M else none
      | .inr (.inr .null) :: r => jN (pc + 3) ls (jX .null :: r) M
      | _ => none)
    | .if_acmp c _ => (match st with
      | v :: w :: r => if jnl v = true ∧ jnl w = true ∧ jap w v = true then jbr (match c with | .eq => jeqr w v | .ne => !jeqr w v) a (pc + 3) ls r M else none
      | _ => none)
    | .iadd => (match st with | .inl y :: .inl x :: r => jN (pc + 1) ls (.inl (wr (x + y)) :: r) M | _ => none)
    | .isub => (match st with | .inl y :: .inl x :: r => jN (pc + 1) ls (.inl (wr (x - y)) :: r) M | _ => none)
    | .imul => (match st with | .inl y :: .inl x :: r => jN (pc + 1) ls (.inl (wr (x * y)) :: r) M | _ => none)
    | .iand => (match st with | .inl y :: .inl x :: r => jN (pc + 1) ls (.inl (jand x y) :: r) M | _ => none)
    | .ishr => (match st with | .inl y :: .inl x :: r => jN (pc + 1) ls (.inl (jshr x y) :: r) M | _ => none)
    | .iushr => (match st with | .inl y :: .inl x :: r => jN (pc + 1) ls (.inl (jushr x y) :: r) M | _ => none)
    | .i2b => (match st with | .inl x :: r => jN (pc + 1) ls (.inl (jb8 x) :: r) M | _ => none)
    | .i2c => (match st with | .inl x :: r => jN (pc + 1) ls (.inl (jc16 x) :: r) M | _ => none)
    | .i2l => (match st with | .inl x :: r => jN (pc + 1) ls (jX (.long (Int32.ofInt x).toInt64) :: r) M | _ => none)
    | .lcmp => (match st with | .inr (.inr (.long y)) :: .inr (.inr (.long x)) :: r => jN (pc + 1) ls (.inl (lg_cmp x y).toInt :: r) M | _ => none)
    | .dup => (match st with | v :: r => if jc2 v = false then jN (pc + 1) ls (v :: v :: r) M else none | _ => none)
    | .dup2 => (match st with | v :: w :: r => if jc2 v = false ∧ jc2 w = false then jN (pc + 1) ls (v :: w :: v :: w :: r) M else none | _ => none)
    | .pop => (match st with | v :: r => if jc2 v = false then jN (pc + 1) ls r M else none | _ => none)
    | .goto _ => jN a ls st M
    | .ifCond c _ => (match st with | .inl x :: r => jbr (jcond c x 0) a (pc + 3) ls r M | _ => none)
    | .if_icmp c _ => (match st with | .inl y :: .inl x :: r => jbr (jcond c x y) a (pc + 3) ls r M | _ => none)
    | .ifnull _ => (match st with | .inr (.inl _) :: r => jN (pc + 3) ls r M | .inr (.inr .null) :: r => jN a ls r M | _ => none)
    | .ifnonnull _ => (match st with | .inr (.inl _) :: r => jN a ls r M | .inr (.inr .null) :: r => jN (pc + 3) ls r M | _ => none)
    | .getfield _ => (match st with
      | .inr (.inl i) :: r => if a = 15 ∧ 2000000 ≤ i ∧ i < 2000014 then (if b < 2 then jN (pc + 3) ls ((if b = 0 then jR (i + 1000000) else jI 0) :: r) M else none)
          else (match jsh M i with | some (t, n) => if i < 1000000 ∧ t = a % 100 ∧ b < n then jN (pc + 3) ls (jget M i b :: r) M else none | none => none)
      | _ => none)
    | .putfield _ => (match st with
      | v :: .inr (.inl i) :: r => (match jsh M i with | some (t, n) => if i < 1000000 ∧ t = a % 100 ∧ b < n ∧ jfit (a / 100) v = true then jN (pc + 3) ls r (jset M i b v) else none | none => none)
      | _ => none)
    | .arraylength => (match st with
      | .inr (.inl i) :: r => (match jlen M i with | some n => if n < 2147483648 then jN (pc + 1) ls (jI n :: r) M else none | none => none)
      | _ => none)
    | .iaload => (match st with
      | .inl k :: .inr (.inl i) :: r => if i = 1000000 then (if 0 ≤ k ∧ k < jL M then jN (pc + 1) ls (jI (jxs M k.toNat) :: r) M else none) else jread 100 i k (pc + 1) ls r M
      | _ => none)
    | .baload => (match st with
      | .inl k :: .inr (.inl i) :: r => if 3000000 ≤ i ∧ i < 3000014 then (if 0 ≤ k ∧ k.toNat < (jlit (i - 3000000)).length then jN (pc + 1) ls (jI ((jlit (i - 3000000)).getD k.toNat 0) :: r) M else none) else jread (if jtag M i = 101 then 101 else 102) i k (pc + 1) ls r M
      | _ => none)
    | .laload => (match st with | .inl k :: .inr (.inl i) :: r => jread 103 i k (pc + 1) ls r M | _ => none)
    | .aaload => (match st with | .inl k :: .inr (.inl i) :: r => if 105 ≤ jtag M i then jread (jtag M i) i k (pc + 1) ls r M else none | _ => none)
    | .iastore => (match st with | .inl z :: .inl k :: .inr (.inl i) :: r => jwrite 100 i k (.inl z) (pc + 1) ls r M | _ => none)
    | .bastore => (match st with
      | .inl z :: .inl k :: .inr (.inl i) :: r => if jtag M i = 101 then jwrite 101 i k (.inl (jb8 z)) (pc + 1) ls r M else if z = 0 ∨ z = 1 then jwrite 102 i k (.inl z) (pc + 1) ls r M else none
      | _ => none)
    | .lastore => (match st with | .inr (.inr (.long v)) :: .inl k :: .inr (.inl i) :: r => jwrite 103 i k (jX (.long v)) (pc + 1) ls r M | _ => none)
    | .aastore => (match st with
      | .inr (.inl j) :: .inl k :: .inr (.inl i) :: r => if (jtag M i = 105 + jtag M j ∧ jtag M j < 13) ∨ (jtag M i = 199 ∧ j < 1000000 ∧ (jtag M j = 11 ∨ jtag M j = 116)) then jwrite (jtag M i) i k (.inr (.inl j)) (pc + 1) ls r M else none
      | .inr (.inr .null) :: .inl k :: .inr (.inl i) :: r => if jtag M i = 116 then jwrite 116 i k (jX .null) (pc + 1) ls r M else none
      | _ => none)
    | .new _ => if a < 100 then (if jclean M = true ∧ M.1.length < 1000000 then jN (pc + 3) ls (jR M.1.length :: st) (jpush M a (jfields a).length (jdef a)) else none)
        else if st = [] then some (.inr (.inr (.inr (a - 100), jthrow M))) else none
    | .newarray _ => (match st with
      | .inl z :: r => if jclean M = true ∧ M.1.length < 1000000 ∧ 0 ≤ z ∧ z < 60000000 then jN (pc + 2) ls (jR M.1.length :: r) (jpush M a z.toNat (fun _ => if a = 103 then jX (.long 0) else if a = 104 then jX (.double 0) else jI 0)) else none
      | _ => none)
    | .anewarray _ => (match st with
      | .inl z :: r => if jclean M = true ∧ M.1.length < 1000000 ∧ 0 ≤ z ∧ z < 60000000 then jN (pc + 3) ls (jR M.1.length :: r) (jpush M a z.toNat (fun _ => jX .null)) else none
      | _ => none)
    | .invokestatic _ => if a = 8001 then jcopy pc ls st M else if a = 8003 then jfill pc ls st M else if a = 8004 then jsame pc ls st M else jcall a b false false ls st M
    | .invokevirtual _ => if a = 8002 then jclone pc ls st M else jcall a b true true ls st M
    | .invokeinterface _ _ => jcall a b true true ls st M
    | .invokespecial _ => jcall a (b % 100) (jsup a) true ls st M
    | .ireturn => (match st with | [.inl z] => if jret a z = true then jF (some (.inl z)) M else none | _ => none)
    | .areturn => (match st with | [.inr (.inl i)] => jF (some (.inr (.inl i))) M | [.inr (.inr .null)] => jF (some (jX .null)) M | _ => none)
    | .return_ => if st = [] then jF none M else none
    | .nop => (match ls with | [.inl k, .inl n] => if 0 ≤ k ∧ k < n then jF none M else none | _ => none)
    | _ => none
def jargs (mi : Nat) (as : List JV) : List JV := as ++ List.replicate (jmaxL mi - as.length) jU
def jrun : Nat → Nat → Nat → List JV → List JV → JM → Option (JO × JM)
  | 0, _, _, _, _, _ => none
  | n + 1, mi, pc, ls, st, M => match jcode mi pc with
    | none => none
    | some x => match jstep x pc ls st M with
      | none => none
      | some (.inl (pc1, ls1, st1, M1)) => jrun n mi pc1 ls1 st1 M1
      | some (.inr (.inr r)) => some r
      | some (.inr (.inl (y, as, st1))) => match jrun n y 0 (jargs y as) [] M with
        | none => none
        | some (.inl v, M1) => jrun n mi (pc + jrl x) ls (v.toList ++ st1) M1
        | some (.inr E, M1) => some (.inr E, M1)
end
section
/-! THE CALCULUS OVER THE PURE MACHINE: JX: 'the run from here ends, and its end has P' -/
def JX (mi pc : Nat) (ls st : List JV) (M : JM) (P : JO → JM → Prop) : Prop := ∃ (n : Nat) (o : JO) (M1 : JM), jrun n mi pc ls st M = some (o, M1) ∧ P o M1
theorem jrun_mono1 : ∀ (n mi pc : Nat) (ls st : List JV) (M : JM) (r : JO × JM), jrun n mi pc ls st M = some r → jrun (n + 1) mi pc ls st M = some r := by
  intro n
  induction n with
  | zero => intro mi pc ls st M r h; simp [jrun] at h
  | succ n ih =>
    intro mi pc ls st M r h
    rw [jrun] at h ⊢
    split at h
    · cases h
    · split at h
      · cases h
      · exact ih _ _ _ _ _ _ h
      · exact h
      · rename_i y as st1 heq
        split at h
        · cases h
        · rename_i v M1 hy
          rw [ih _ _ _ _ _ _ hy]
          exact ih _ _ _ _ _ _ h
        · rename_i E M1 hy
          rw [ih _ _ _ _ _ _ hy]
          exact h
theorem jrun_mono {n k mi pc : Nat} {ls st : List JV} {M : JM} {r : JO × JM} (h : jrun n mi pc ls st M = some r) (hk : n ≤ k) : jrun k mi pc ls st M = some r := by
  obtain ⟨d, rfl⟩ := Nat.exists_eq_add_of_le hk
  clear hk
  induction d with
  | zero => exact h
  | succ d ih => exact jrun_mono1 _ _ _ _ _ _ _ ih
theorem JX_mono {mi pc : Nat} {ls st : List JV} {M : JM} {P Q : JO → JM → Prop} (h : JX mi pc ls st M P) (hq : ∀ o M1, P o M1 → Q o M1) : JX mi pc ls st M Q := by
  obtain ⟨n, o, M1, h1, h2⟩ := h
  exact ⟨n, o, M1, h1, hq _ _ h2⟩
/-- behind a call -/
theorem JX_call {mi pc : Nat} {ls st : List JV} {M : JM} {P Q : JO → JM → Prop} {x : JI} {y : Nat} {as st1 : List JV} (hc : jcode mi pc = some x) (hs : jstep x pc ls st M = some (.inr (.inl (y, as, st1)))) (hy : JX y 0 (jargs y as) [] M Q) (hq : ∀ v M1, Q (.inl v) M1 → JX mi (pc + jrl x) ls (v.toList ++ st1) M1 P) (hx : ∀ k M1, Q (.inr k) M1 → P (.inr k) M1) : JX mi pc ls st M P := by
  obtain ⟨n, o, M1, h1, h2⟩ := hy
  cases o with
  | inl v =>
    obtain ⟨n2, o2, M2, h3, h4⟩ := hq v M1 h2
    refine ⟨n + n2 + 1, o2, M2, ?_, h4⟩
    rw [jrun, hc]
    simp only [hs, jrun_mono h1 (Nat.le_add_right n n2)]
    exact jrun_mono h3 (Nat.le_add_left n2 n)
  | inr k => exact ⟨n + 1, .inr k, M1, by rw [jrun, hc]; simp only [hs, h1], hx k M1 h2⟩
end
section
/-! THE TABLES HELD AGAINST THE CLASS FILES: each row decodes, each row's word is one of the tables' -/
def jtab (w : Nat) : Option Jvm.Cond := match w / 1000 with
  | 0 => (k2_sels lw_privs)[w % 1000]?
  | 1 => tables_1_1[w % 1000]?
  | 2 => tables_1_2[w % 1000]?
  | 3 => tables_1_3[w % 1000]?
  | 4 => tables_1_4[w % 1000]?
  | 5 => tables_1_5[w % 1000]?
  | 6 => tables_1_6[w % 1000]?
  | 7 => tables_1_7[w % 1000]?
  | 8 => tables_1_8[w % 1000]?
  | 20 => lw_xsel[w % 1000]?
  | _ => none
theorem jtab_mem {w : Nat} {c : Jvm.Cond} (h : jtab w = some c) : c ∈ lw_tbl2 := by
  unfold jtab at h
  have e : lw_tbl2 = lw_xsel ++ (k2_sels lw_privs ++ (tables_1_1 ++ (tables_1_2 ++ (tables_1_3 ++ (tables_1_4 ++ (tables_1_5 ++ (tables_1_6 ++ (tables_1_7 ++ tables_1_8)))))))) := rfl
  rw [e]
  split at h
  all_goals first
    | (have hm := List.mem_of_getElem? h; simp only [List.mem_append]; simp only [hm, true_or, or_true]; done)
    | cases h
/-- the word at that place is this one, and it lasts -/
def jtw (w : Nat) (c : Jvm.Cond) : Bool := decide (jtab w = some c) && goodWord c
def jgood : List Jvm.Cond := lw_tbl2.filter goodWord
theorem jtw_mem {w : Nat} {c : Jvm.Cond} (h : jtw w c = true) : c ∈ jgood := by
  unfold jtw at h
  simp only [Bool.and_eq_true, decide_eq_true_eq] at h
  exact List.mem_filter.mpr ⟨jtab_mem h.1, h.2⟩
def okD (bytes : ByteArray) (l : List (Nat × JI)) : Bool := l.all fun q => match decode bytes q.1 with
  | .ok r => decide (r = (q.2.1, q.2.2.1))
  | .error _ => false
def jnm (a : Nat) : MethodName := (jmeths.getD a jm0).1
def jmb (a : Nat) : ByteArray := (jmeths.getD a jm0).2.1
def jrt (a : Nat) : Option FieldType := (jmeths.getD a jm0).2.2.2.1
def jwp (a : Nat) : Nat := (jmeths.getD a jm0).2.2.2.2.2.2.1
def jsta (a : Nat) : Bool := (jmeths.getD a jm0).2.2.2.2.2.2.2.1
def jht (a : Nat) : Nat := (jmeths.getD a jm0).2.2.2.2.2.2.2.2.1
def jbody (a : Nat) : List (Nat × JI) := (jmeths.getD a jm0).2.2.2.2.2.2.2.2.2
def jfd (a b : Nat) : String × String × String × Bool := (jfields a).getD b ("", "", "", false)
def jclsn (a : Nat) : String := (jFs.getD a ("", [])).1
def jtext : Nat → String
  | 0 => "system"
  | 1 => "symbol"
  | 2 => "rule"
  | 3 => "term"
  | 4 => "copy"
  | 5 => "flip"
  | 6 => "step"
  | 7 => "system;symbol f 2;symbol g 1;symbol a 0;symbol b 0"
  | 8 => ";rule "
  | 9 => "fgab"
  | 10 => " = "
  | 11 => ";term "
  | 12 => ";copy 1"
  | _ => ";step 0"
def jexc : Nat → String
  | 0 => "java/lang/IllegalStateException"
  | 1 => "java/lang/IndexOutOfBoundsException"
  | _ => "java/lang/IllegalArgumentException"
def jaty : Nat → ArrayType
  | 100 => .int
  | 101 => .byte
  | 102 => .boolean
  | _ => .long
def jsorted (ps : List (Int × Int)) : Bool := (ps.zip (ps.drop 1)).all (fun (a, next) => a.1 < next.1)
def jnests : List (String × Nat × MethodName × String) := [("OverlapBench", 15, ⟨"OverlapBench$Signature", "<init>", "()V"⟩, "OverlapBench"), ("OverlapBench$State", 30, ⟨"OverlapBench$Rule", "<init>", "()V"⟩, "OverlapBench"), ("OverlapBench", 29, ⟨"OverlapBench$Rewriter", "<init>", "()V"⟩, "OverlapBench"), ("OverlapBench", 36, ⟨"OverlapBench$Unifier", "<init>", "()V"⟩, "OverlapBench"), ("OverlapBench", 43, ⟨"OverlapBench$Parser", "<init>", "()V"⟩, "OverlapBench"), ("OverlapBench$Parser", 20, ⟨"OverlapBench$Signature", "<init>", "()V"⟩, "OverlapBench"), ("OverlapBench$Parser", 41, ⟨"OverlapBench$Rewriter", "<init>", "()V"⟩, "OverlapBench"), ("OverlapBench$PairList", 21, ⟨"OverlapBench$Unifier", "<init>", "()V"⟩, "OverlapBench"), ("OverlapBench$PairList", 28, ⟨"OverlapBench$Rewriter", "<init>", "()V"⟩, "OverlapBench"), ("OverlapBench", 57, ⟨"OverlapBench$Output", "<init>", "()V"⟩, "OverlapBench"), ("OverlapBenchLaw", 108, ⟨"OverlapBenchLaw$Sys", "<init>", "()V"⟩, "OverlapBenchLaw"), ("OverlapBenchLaw$Sys", 69, ⟨"OverlapBenchLaw", "size", "(LOverlapBenchLaw$Node;)I"⟩, "OverlapBenchLaw"), ("OverlapBenchLaw$Sys", 48, ⟨"OverlapBenchLaw", "match", "(LOverlapBenchLaw$Node;LOverlapBenchLaw$Node;[LOverlapBenchLaw$Node;)Z"⟩, "OverlapBenchLaw"), ("OverlapBenchLaw$Sys", 80, ⟨"OverlapBenchLaw", "at", "(LOverlapBenchLaw$Node;I)LOverlapBenchLaw$Node;"⟩, "OverlapBenchLaw"), ("OverlapBenchLaw$Sys", 84, ⟨"OverlapBenchLaw", "fill", "(LOverlapBenchLaw$Node;[LOverlapBenchLaw$Node;)LOverlapBenchLaw$Node;"⟩, "OverlapBenchLaw"), ("OverlapBenchLaw$Sys", 87, ⟨"OverlapBenchLaw", "put", "(LOverlapBenchLaw$Node;ILOverlapBenchLaw$Node;)LOverlapBenchLaw$Node;"⟩, "OverlapBenchLaw")]
def jfnests : List (String × Nat × Nat × Nat) := [("OverlapBenchLaw", 113, 12, 0), ("OverlapBenchLaw", 123, 12, 1), ("OverlapBenchLaw", 47, 11, 0), ("OverlapBenchLaw$Sys", 58, 11, 1), ("OverlapBenchLaw", 25, 11, 1), ("OverlapBenchLaw$Sys", 66, 11, 2), ("OverlapBenchLaw", 35, 11, 2)]
/-- the string words: class, place in its pool, which text -/
def jstrs : List (String × Nat × Nat) := [("OverlapBench$Parser", 70, 0), ("OverlapBench$Parser", 80, 1), ("OverlapBench$Parser", 86, 2), ("OverlapBench$Parser", 91, 3), ("OverlapBench$Parser", 96, 4), ("OverlapBench$Parser", 101, 5), ("OverlapBench$Parser", 106, 6), ("OverlapBenchLaw", 126, 7), ("OverlapBenchLaw", 134, 8), ("OverlapBenchLaw", 78, 9), ("OverlapBenchLaw", 145, 10), ("OverlapBenchLaw", 147, 11), ("OverlapBenchLaw", 149, 12), ("OverlapBenchLaw", 157, 13)]
def jhost (y : MethodName) : String := if y.cls = "OverlapBenchLaw" ∨ y.cls = "OverlapBenchLaw$Node" ∨ y.cls = "OverlapBenchLaw$Sys" then "OverlapBenchLaw" else "OverlapBench"
def jfillN : MethodName := ⟨"java/util/Arrays", "fill", "([JJ)V"⟩
def jequalN : MethodName := ⟨"java/util/Arrays", "equals", "([J[J)Z"⟩
def jcloneN : MethodName := ⟨"java/lang/Object", "clone", "()Ljava/lang/Object;"⟩
def jcloneB : MethodName := ⟨"[B", "clone", "()Ljava/lang/Object;"⟩
/-- arraycopy's and clone's words -/
def jcasn (a : Nat) : String := if a = 101 then "[B" else if a = 116 then "[LOverlapBenchLaw$Node;" else jclsn a
/-- the class whose row holds the method: a StringBuilder for what its superclass declares -/
def jrcv (a : Nat) : String := if (jnm a).cls = "java/lang/AbstractStringBuilder" then "java/lang/StringBuilder" else (jnm a).cls
/-- the name by which a call asks for method a: the bridge is asked for by its superclass's name -/
def jrefn (a : Nat) : Nat := if a = 177 then 179 else if a = 247 then 248 else a
def jref (a : Nat) : MethodName := jnm (jrefn a)
def okL (y : MethodName) (ht : Nat) (rt : Option FieldType) (q : Nat × JI) : Bool := match q with
  | (pc, ins, _, a, b, w) => match ins with
    | .getfield i => decide (a < 16) && decide (b < (jfields a).length) && (jtw w (.fieldLink y.cls i (jfd a b).1 (jfd a b).2.1 (jfd a b).2.2.1) || (decide ((y.cls, i, a, b) ∈ jfnests) || (decide (a = 13 ∧ b = 0) && jtw w (.fieldLink y.cls i "java/util/ArrayList" (jfd a b).2.1 (jfd a b).2.2.1))))
    | .putfield i => decide (a % 100 < 16) && decide (b < (jfields (a % 100)).length) && (jtw w (.fieldLink y.cls i (jfd (a % 100) b).1 (jfd (a % 100) b).2.1 (jfd (a % 100) b).2.2.1) || (decide (a % 100 = 13 ∧ b = 0) && jtw w (.fieldLink y.cls i "java/util/ArrayList" (jfd (a % 100) b).2.1 (jfd (a % 100) b).2.2.1))) && decide (a / 100 = jkd (jfd (a % 100) b).2.2.1)
        && (!(jfd (a % 100) b).2.2.2 || (decide (y.name = "<init>") && decide ((jfd (a % 100) b).1 = y.cls)))
    | .invokestatic i => if 9000 ≤ a then true else if a = 8001 then jtw w (.methodLink y.cls i arraycopyName) && decide (1 ≤ ht) else if a = 8003 then jtw w (.methodLink y.cls i jfillN) && decide (2 ≤ ht) else if a = 8004 then jtw w (.methodLink y.cls i jequalN) && decide (5 ≤ ht)
        else decide (a < 275) && (jtw w (.methodLink y.cls i (jnm a)) || decide ((y.cls, i, jnm a, jhost y) ∈ jnests)) && jsta a && decide (jht a + 1 ≤ ht) && decide ((parseMethodDescriptor (jnm a).desc).map (fun d => d.parameters.length) = some b)
    | .invokevirtual i => if 9000 ≤ a then true else if a = 8002 then jtw w (.methodLink y.cls i jcloneB) && decide (1 ≤ ht)
        else decide (a < 275) && jtw w (.methodLink y.cls i (jref a)) && !(jsta a) && decide (jht a + 1 ≤ ht) && decide ((parseMethodDescriptor (jnm a).desc).map (fun d => d.parameters.length) = some b)
    | .invokeinterface i n => decide (a < 275) && jtw w (.methodLink y.cls i ⟨"java/lang/CharSequence", (jnm a).name, (jnm a).desc⟩) && !(jsta a) && decide (jht a + 1 ≤ ht) && decide ((parseMethodDescriptor (jnm a).desc).map (fun d => d.parameters.length) = some b) && decide (a = 20 ∨ a = 22) && decide (n = b + 1)
    | .invokespecial i => if 9000 ≤ a then true else decide (a < 275) && (if b < 100 then jtw w (.methodLink y.cls i (jnm a)) else decide ((y.cls, i, jnm a, jhost y) ∈ jnests)) && !(jsta a) && decide (jht a + 1 ≤ ht) && decide ((parseMethodDescriptor (jnm a).desc).map (fun d => d.parameters.length) = some (b % 100)) && ((decide ((jnm a).name = "<init>") && decide (jrt a = none)) || (decide (a = 179 ∨ a = 197 ∨ a = 248) && decide (y.cls = "java/lang/StringBuilder") && decide (b < 100)))
    | .new i => if a < 100 then decide (a < 16) && jtw w (.classLink y.cls i (jclsn a)) else true
    | .newarray t => jtw w (.arrayClass (newarray.typeOf t)) && decide (t = jaty a) && decide (100 ≤ a ∧ a < 104)
    | .anewarray i => jtw w (.classLink y.cls i (if a = 199 then "java/lang/Object" else jclsn (a - 105))) && decide (a = 110 ∨ a = 112 ∨ a = 113 ∨ a = 116 ∨ a = 199)
    | .checkcast i => jtw w (.classLink y.cls i (jcasn a)) && decide (a = 101 ∨ a = 116 ∨ a = 11)
    | .ldc i => if b = 0 then jtw w (.constant y.cls i (Int32.ofInt ((a : Int) - 2147483648))) else if b = 1 then decide (jtab w = some (.stringRef y.cls i (jtext a))) && decide (a < 14) else true
    | .ldc_w i => if b = 0 then jtw w (.constant y.cls i (Int32.ofInt ((a : Int) - 2147483648))) else if b = 1 then decide (jtab w = some (.stringRef y.cls i (jtext a))) && decide (a < 14) else true
    | .ldc2_w i => jtw w (.constantLong y.cls i (Int64.ofNat a))
    | .getstatic i => if a = 0 then jtw w (.fieldLink y.cls i "java/lang/String" "COMPACT_STRINGS" "Z") else if a = 1 then jtw w (.fieldLink y.cls i "java/util/ArrayList" "DEFAULTCAPACITY_EMPTY_ELEMENTDATA" "[Ljava/lang/Object;") else true
    | .goto off => decide ((pc : Int) + off = a)
    | .ifCond _ off => decide ((pc : Int) + off = a)
    | .if_icmp _ off => decide ((pc : Int) + off = a)
    | .if_acmp _ off => decide ((pc : Int) + off = a)
    | .ifnull off => decide ((pc : Int) + off = a)
    | .ifnonnull off => decide ((pc : Int) + off = a)
    | .bipush n => decide ((Int8.ofInt n).toInt32 = Int32.ofInt n)
    | .sipush n => decide ((Int16.ofInt n).toInt32 = Int32.ofInt n)
    | .ireturn => (match a with | 0 => decide (rt = some .int) | 1 => decide (rt = some .boolean) | 2 => decide (rt = some .byte) | _ => decide (rt = some .char))
    | .areturn => (match rt with | some (.object _) => true | some (.array _) => true | _ => false)
    | .return_ => decide (rt = none)
    | .iinc _ n => decide (-32768 ≤ n ∧ n ≤ 32767)
    | .iconst n => decide (-1 ≤ n ∧ n ≤ 5)
    | .tableswitch _ _ _ _ => false
    | .lookupswitch _ _ => false
    | _ => true
def okM (q : JMeth) : Bool := okD q.2.1 q.2.2.2.2.2.2.2.2.2 && q.2.2.2.2.2.2.2.2.2.all (okL q.1 q.2.2.2.2.2.2.2.2.1 q.2.2.2.1)
theorem ok_0 : okM jm_0 = true := by decide +kernel
theorem ok_1 : okM jm_1 = true := by decide +kernel
theorem ok_2 : okM jm_2 = true := by decide +kernel
theorem ok_3 : okM jm_3 = true := by decide +kernel
theorem ok_4 : okM jm_4 = true := by decide +kernel
theorem ok_5 : okM jm_5 = true := by decide +kernel
theorem ok_6 : okM jm_6 = true := by decide +kernel
theorem ok_7 : okM jm_7 = true := by decide +kernel
theorem ok_8 : okM jm_8 = true := by decide +kernel
theorem ok_9 : okM jm_9 = true := by decide +kernel
theorem ok_10 : okM jm_10 = true := by decide +kernel
theorem ok_11 : okM jm_11 = true := by decide +kernel
theorem ok_12 : okM jm_12 = true := by decide +kernel
theorem ok_13 : okM jm_13 = true := by decide +kernel
theorem ok_14 : okM jm_14 = true := by decide +kernel
theorem ok_15 : okM jm_15 = true := by decide +kernel
theorem ok_16 : okM jm_16 = true := by decide +kernel
theorem ok_17 : okM jm_17 = true := by decide +kernel
theorem ok_18 : okM jm_18 = true := by decide +kernel
theorem ok_19 : okM jm_19 = true := by decide +kernel
theorem ok_20 : okM jm_20 = true := by decide +kernel
theorem ok_21 : okM jm_21 = true := by decide +kernel
theorem ok_22 : okM jm_22 = true := by decide +kernel
theorem ok_23 : okM jm_23 = true := by decide +kernel
theorem ok_24 : okM jm_24 = true := by decide +kernel
theorem ok_26 : okM jm_26 = true := by decide +kernel
theorem ok_27 : okM jm_27 = true := by decide +kernel
theorem ok_28 : okM jm_28 = true := by decide +kernel
theorem ok_29 : okM jm_29 = true := by decide +kernel
theorem ok_30 : okM jm_30 = true := by decide +kernel
theorem ok_31 : okM jm_31 = true := by decide +kernel
theorem ok_32 : okM jm_32 = true := by decide +kernel
theorem ok_33 : okM jm_33 = true := by decide +kernel
theorem ok_34 : okM jm_34 = true := by decide +kernel
theorem ok_35 : okM jm_35 = true := by decide +kernel
theorem ok_36 : okM jm_36 = true := by decide +kernel
theorem ok_37 : okM jm_37 = true := by decide +kernel
theorem ok_38 : okM jm_38 = true := by decide +kernel
theorem ok_39 : okM jm_39 = true := by decide +kernel
theorem ok_40 : okM jm_40 = true := by decide +kernel
theorem ok_41 : okM jm_41 = true := by decide +kernel
theorem ok_42 : okM jm_42 = true := by decide +kernel
theorem ok_43 : okM jm_43 = true := by decide +kernel
theorem ok_44 : okM jm_44 = true := by decide +kernel
theorem ok_45 : okM jm_45 = true := by decide +kernel
theorem ok_46 : okM jm_46 = true := by decide +kernel
theorem ok_47 : okM jm_47 = true := by decide +kernel
theorem ok_48 : okM jm_48 = true := by decide +kernel
theorem ok_49 : okM jm_49 = true := by decide +kernel
theorem ok_50 : okM jm_50 = true := by decide +kernel
theorem ok_51 : okM jm_51 = true := by decide +kernel
theorem ok_52 : okM jm_52 = true := by decide +kernel
theorem ok_53 : okM jm_53 = true := by decide +kernel
theorem ok_54 : okM jm_54 = true := by decide +kernel
theorem ok_55 : okM jm_55 = true := by decide +kernel
theorem ok_56 : okM jm_56 = true := by decide +kernel
theorem ok_57 : okM jm_57 = true := by decide +kernel
theorem ok_58 : okM jm_58 = true := by decide +kernel
theorem ok_59 : okM jm_59 = true := by decide +kernel
theorem ok_60 : okM jm_60 = true := by decide +kernel
theorem ok_61 : okM jm_61 = true := by decide +kernel
theorem ok_62 : okM jm_62 = true := by decide +kernel
theorem ok_63 : okM jm_63 = true := by decide +kernel
theorem ok_64 : okM jm_64 = true := by decide +kernel
theorem ok_65 : okM jm_65 = true := by decide +kernel
theorem ok_66 : okM jm_66 = true := by decide +kernel
theorem ok_67 : okM jm_67 = true := by decide +kernel
theorem ok_68 : okM jm_68 = true := by decide +kernel
theorem ok_69 : okM jm_69 = true := by decide +kernel
theorem ok_70 : okM jm_70 = true := by decide +kernel
theorem ok_71 : okM jm_71 = true := by decide +kernel
theorem ok_72 : okM jm_72 = true := by decide +kernel
theorem ok_73 : okM jm_73 = true := by decide +kernel
theorem ok_74 : okM jm_74 = true := by decide +kernel
theorem ok_75 : okM jm_75 = true := by decide +kernel
theorem ok_76 : okM jm_76 = true := by decide +kernel
theorem ok_77 : okM jm_77 = true := by decide +kernel
theorem ok_78 : okM jm_78 = true := by decide +kernel
theorem ok_79 : okM jm_79 = true := by decide +kernel
theorem ok_80 : okM jm_80 = true := by decide +kernel
theorem ok_81 : okM jm_81 = true := by decide +kernel
theorem ok_82 : okM jm_82 = true := by decide +kernel
theorem ok_83 : okM jm_83 = true := by decide +kernel
theorem ok_84 : okM jm_84 = true := by decide +kernel
theorem ok_85 : okM jm_85 = true := by decide +kernel
theorem ok_86 : okM jm_86 = true := by decide +kernel
theorem ok_87 : okM jm_87 = true := by decide +kernel
theorem ok_88 : okM jm_88 = true := by decide +kernel
theorem ok_89 : okM jm_89 = true := by decide +kernel
theorem ok_90 : okM jm_90 = true := by decide +kernel
theorem ok_91 : okM jm_91 = true := by decide +kernel
theorem ok_92 : okM jm_92 = true := by decide +kernel
theorem ok_93 : okM jm_93 = true := by decide +kernel
theorem ok_94 : okM jm_94 = true := by decide +kernel
theorem ok_95 : okM jm_95 = true := by decide +kernel
theorem ok_96 : okM jm_96 = true := by decide +kernel
theorem ok_97 : okM jm_97 = true := by decide +kernel
theorem ok_98 : okM jm_98 = true := by decide +kernel
theorem ok_99 : okM jm_99 = true := by decide +kernel
theorem ok_100 : okM jm_100 = true := by decide +kernel
theorem ok_101 : okM jm_101 = true := by decide +kernel
theorem ok_102 : okM jm_102 = true := by decide +kernel
theorem ok_103 : okM jm_103 = true := by decide +kernel
theorem ok_104 : okM jm_104 = true := by decide +kernel
theorem ok_105 : okM jm_105 = true := by decide +kernel
theorem ok_106 : okM jm_106 = true := by decide +kernel
theorem ok_107 : okM jm_107 = true := by decide +kernel
theorem ok_108 : okM jm_108 = true := by decide +kernel
theorem ok_109 : okM jm_109 = true := by decide +kernel
theorem ok_110 : okM jm_110 = true := by decide +kernel
theorem ok_111 : okM jm_111 = true := by decide +kernel
theorem ok_112 : okM jm_112 = true := by decide +kernel
theorem ok_113 : okM jm_113 = true := by decide +kernel
theorem ok_114 : okM jm_114 = true := by decide +kernel
theorem ok_115 : okM jm_115 = true := by decide +kernel
theorem ok_116 : okM jm_116 = true := by decide +kernel
theorem ok_117 : okM jm_117 = true := by decide +kernel
theorem ok_118 : okM jm_118 = true := by decide +kernel
theorem ok_119 : okM jm_119 = true := by decide +kernel
theorem ok_120 : okM jm_120 = true := by decide +kernel
theorem ok_121 : okM jm_121 = true := by decide +kernel
theorem ok_122 : okM jm_122 = true := by decide +kernel
theorem ok_123 : okM jm_123 = true := by decide +kernel
theorem ok_124 : okM jm_124 = true := by decide +kernel
theorem ok_125 : okM jm_125 = true := by decide +kernel
theorem ok_126 : okM jm_126 = true := by decide +kernel
theorem ok_127 : okM jm_127 = true := by decide +kernel
theorem ok_128 : okM jm_128 = true := by decide +kernel
theorem ok_129 : okM jm_129 = true := by decide +kernel
theorem ok_130 : okM jm_130 = true := by decide +kernel
theorem ok_131 : okM jm_131 = true := by decide +kernel
theorem ok_132 : okM jm_132 = true := by decide +kernel
theorem ok_133 : okM jm_133 = true := by decide +kernel
theorem ok_134 : okM jm_134 = true := by decide +kernel
theorem ok_135 : okM jm_135 = true := by decide +kernel
theorem ok_136 : okM jm_136 = true := by decide +kernel
theorem ok_137 : okM jm_137 = true := by decide +kernel
theorem ok_138 : okM jm_138 = true := by decide +kernel
theorem ok_139 : okM jm_139 = true := by decide +kernel
theorem ok_140 : okM jm_140 = true := by decide +kernel
theorem ok_141 : okM jm_141 = true := by decide +kernel
theorem ok_142 : okM jm_142 = true := by decide +kernel
theorem ok_143 : okM jm_143 = true := by decide +kernel
theorem ok_144 : okM jm_144 = true := by decide +kernel
theorem ok_145 : okM jm_145 = true := by decide +kernel
theorem ok_146 : okM jm_146 = true := by decide +kernel
theorem ok_147 : okM jm_147 = true := by decide +kernel
theorem ok_148 : okM jm_148 = true := by decide +kernel
theorem ok_149 : okM jm_149 = true := by decide +kernel
theorem ok_150 : okM jm_150 = true := by decide +kernel
theorem ok_151 : okM jm_151 = true := by decide +kernel
theorem ok_152 : okM jm_152 = true := by decide +kernel
theorem ok_153 : okM jm_153 = true := by decide +kernel
theorem ok_154 : okM jm_154 = true := by decide +kernel
theorem ok_155 : okM jm_155 = true := by decide +kernel
theorem ok_156 : okM jm_156 = true := by decide +kernel
theorem ok_157 : okM jm_157 = true := by decide +kernel
theorem ok_158 : okM jm_158 = true := by decide +kernel
theorem ok_159 : okM jm_159 = true := by decide +kernel
theorem ok_160 : okM jm_160 = true := by decide +kernel
theorem ok_161 : okM jm_161 = true := by decide +kernel
theorem ok_162 : okM jm_162 = true := by decide +kernel
theorem ok_163 : okM jm_163 = true := by decide +kernel
theorem ok_164 : okM jm_164 = true := by decide +kernel
theorem ok_165 : okM jm_165 = true := by decide +kernel
theorem ok_166 : okM jm_166 = true := by decide +kernel
theorem ok_167 : okM jm_167 = true := by decide +kernel
theorem ok_168 : okM jm_168 = true := by decide +kernel
theorem ok_169 : okM jm_169 = true := by decide +kernel
theorem ok_170 : okM jm_170 = true := by decide +kernel
theorem ok_171 : okM jm_171 = true := by decide +kernel
theorem ok_172 : okM jm_172 = true := by decide +kernel
theorem ok_173 : okM jm_173 = true := by decide +kernel
theorem ok_174 : okM jm_174 = true := by decide +kernel
theorem ok_175 : okM jm_175 = true := by decide +kernel
theorem ok_176 : okM jm_176 = true := by decide +kernel
theorem ok_177 : okM jm_177 = true := by decide +kernel
theorem ok_178 : okM jm_178 = true := by decide +kernel
theorem ok_179 : okM jm_179 = true := by decide +kernel
theorem ok_180 : okM jm_180 = true := by decide +kernel
theorem ok_181 : okM jm_181 = true := by decide +kernel
theorem ok_182 : okM jm_182 = true := by decide +kernel
theorem ok_183 : okM jm_183 = true := by decide +kernel
theorem ok_184 : okM jm_184 = true := by decide +kernel
theorem ok_185 : okM jm_185 = true := by decide +kernel
theorem ok_186 : okM jm_186 = true := by decide +kernel
theorem ok_187 : okM jm_187 = true := by decide +kernel
theorem ok_188 : okM jm_188 = true := by decide +kernel
theorem ok_189 : okM jm_189 = true := by decide +kernel
theorem ok_190 : okM jm_190 = true := by decide +kernel
theorem ok_191 : okM jm_191 = true := by decide +kernel
theorem ok_192 : okM jm_192 = true := by decide +kernel
theorem ok_193 : okM jm_193 = true := by decide +kernel
theorem ok_194 : okM jm_194 = true := by decide +kernel
theorem ok_195 : okM jm_195 = true := by decide +kernel
theorem ok_196 : okM jm_196 = true := by decide +kernel
theorem ok_197 : okM jm_197 = true := by decide +kernel
theorem ok_198 : okM jm_198 = true := by decide +kernel
theorem ok_199 : okM jm_199 = true := by decide +kernel
theorem ok_200 : okM jm_200 = true := by decide +kernel
theorem ok_201 : okM jm_201 = true := by decide +kernel
theorem ok_202 : okM jm_202 = true := by decide +kernel
theorem ok_203 : okM jm_203 = true := by decide +kernel
theorem ok_204 : okM jm_204 = true := by decide +kernel
theorem ok_205 : okM jm_205 = true := by decide +kernel
theorem ok_206 : okM jm_206 = true := by decide +kernel
theorem ok_207 : okM jm_207 = true := by decide +kernel
theorem ok_208 : okM jm_208 = true := by decide +kernel
theorem ok_209 : okM jm_209 = true := by decide +kernel
theorem ok_210 : okM jm_210 = true := by decide +kernel
theorem ok_211 : okM jm_211 = true := by decide +kernel
theorem ok_212 : okM jm_212 = true := by decide +kernel
theorem ok_213 : okM jm_213 = true := by decide +kernel
theorem ok_214 : okM jm_214 = true := by decide +kernel
theorem ok_215 : okM jm_215 = true := by decide +kernel
theorem ok_216 : okM jm_216 = true := by decide +kernel
theorem ok_217 : okM jm_217 = true := by decide +kernel
theorem ok_218 : okM jm_218 = true := by decide +kernel
theorem ok_219 : okM jm_219 = true := by decide +kernel
theorem ok_220 : okM jm_220 = true := by decide +kernel
theorem ok_221 : okM jm_221 = true := by decide +kernel
theorem ok_222 : okM jm_222 = true := by decide +kernel
theorem ok_223 : okM jm_223 = true := by decide +kernel
theorem ok_224 : okM jm_224 = true := by decide +kernel
theorem ok_225 : okM jm_225 = true := by decide +kernel
theorem ok_226 : okM jm_226 = true := by decide +kernel
theorem ok_227 : okM jm_227 = true := by decide +kernel
theorem ok_228 : okM jm_228 = true := by decide +kernel
theorem ok_229 : okM jm_229 = true := by decide +kernel
theorem ok_230 : okM jm_230 = true := by decide +kernel
theorem ok_231 : okM jm_231 = true := by decide +kernel
theorem ok_232 : okM jm_232 = true := by decide +kernel
theorem ok_233 : okM jm_233 = true := by decide +kernel
theorem ok_234 : okM jm_234 = true := by decide +kernel
theorem ok_235 : okM jm_235 = true := by decide +kernel
theorem ok_236 : okM jm_236 = true := by decide +kernel
theorem ok_237 : okM jm_237 = true := by decide +kernel
theorem ok_238 : okM jm_238 = true := by decide +kernel
theorem ok_239 : okM jm_239 = true := by decide +kernel
theorem ok_240 : okM jm_240 = true := by decide +kernel
theorem ok_241 : okM jm_241 = true := by decide +kernel
theorem ok_242 : okM jm_242 = true := by decide +kernel
theorem ok_243 : okM jm_243 = true := by decide +kernel
theorem ok_244 : okM jm_244 = true := by decide +kernel
theorem ok_245 : okM jm_245 = true := by decide +kernel
theorem ok_246 : okM jm_246 = true := by decide +kernel
theorem ok_247 : okM jm_247 = true := by decide +kernel
theorem ok_248 : okM jm_248 = true := by decide +kernel
theorem ok_249 : okM jm_249 = true := by decide +kernel
theorem ok_250 : okM jm_250 = true := by decide +kernel
theorem ok_251 : okM jm_251 = true := by decide +kernel
theorem ok_252 : okM jm_252 = true := by decide +kernel
theorem ok_253 : okM jm_253 = true := by decide +kernel
theorem ok_254 : okM jm_254 = true := by decide +kernel
theorem ok_255 : okM jm_255 = true := by decide +kernel
theorem ok_256 : okM jm_256 = true := by decide +kernel
theorem ok_257 : okM jm_257 = true := by decide +kernel
theorem ok_258 : okM jm_258 = true := by decide +kernel
theorem ok_259 : okM jm_259 = true := by decide +kernel
theorem ok_260 : okM jm_260 = true := by decide +kernel
theorem ok_261 : okM jm_261 = true := by decide +kernel
theorem ok_262 : okM jm_262 = true := by decide +kernel
theorem ok_263 : okM jm_263 = true := by decide +kernel
theorem ok_264 : okM jm_264 = true := by decide +kernel
theorem ok_265 : okM jm_265 = true := by decide +kernel
theorem ok_266 : okM jm_266 = true := by decide +kernel
theorem ok_267 : okM jm_267 = true := by decide +kernel
theorem ok_268 : okM jm_268 = true := by decide +kernel
theorem ok_269 : okM jm_269 = true := by decide +kernel
theorem ok_270 : okM jm_270 = true := by decide +kernel
theorem ok_271 : okM jm_271 = true := by decide +kernel
theorem ok_272 : okM jm_272 = true := by decide +kernel
theorem ok_273 : okM jm_273 = true := by decide +kernel
end
section
/-! THE PRINTED MACHINE HELD AGAINST THE PURE ONE: what they have in common -/
def jcl : List vw_C := jFs.map fun q => (q.1, (fun k => q.2.getD k ("", "", "", false)), q.2.length)
theorem jcl_get {t : Nat} (ht : t < 16) : jcl[t]? = some (jclsn t, (fun k => jfd t k), (jfields t).length) := by
  have hl : t < jFs.length := by have : jFs.length = 16 := by decide +kernel
                                 omega
  unfold jcl jclsn jfd jfields
  rw [List.getElem?_map, List.getElem?_eq_getElem hl]
  simp only [Option.map_some, List.getD_eq_getElem?_getD, List.getElem?_eq_getElem hl, Option.getD_some]
/-- the types of arrays by their tags -/
def jfty : Nat → FieldType
  | 100 => .int
  | 101 => .byte
  | 102 => .boolean
  | 103 => .long
  | 116 => .object "OverlapBenchLaw$Node"
  | 199 => .object "java/lang/Object"
  | 110 => .object "OverlapBench$Rule"
  | 112 => .object "OverlapBench$State"
  | _ => .object "OverlapBench$Term"
def jtagok (t : Nat) : Prop := (100 ≤ t ∧ t < 104) ∨ (t = 110 ∨ t = 112 ∨ t = 113 ∨ t = 116 ∨ t = 199)
/-- what the run has fixed: the classes' numbers, the arrays' classes, the first cell, the script's place and contents, the literals' places, the empty row of lists -/
abbrev JE : Type := va_G × (Nat → ClassId) × Nat × Nat × Nat × (Nat → Int32) × (Nat → Nat) × (Nat → Nat) × Nat
def jD (E : JE) : va_G := E.1
def jC (E : JE) : Nat → ClassId := E.2.1
def jB (E : JE) : Nat := E.2.2.1
def jbs (E : JE) : Nat := E.2.2.2.1
def jLx (E : JE) : Nat := E.2.2.2.2.1
def jsx (E : JE) : Nat → Int32 := E.2.2.2.2.2.1
def jaK (E : JE) : Nat → Nat := E.2.2.2.2.2.2.1
def jaV (E : JE) : Nat → Nat := E.2.2.2.2.2.2.2.1
def jem (E : JE) : Nat := E.2.2.2.2.2.2.2.2
def jA (E : JE) : Nat → Prop := fun q => jB E ≤ q
def jad (E : JE) (i : Nat) : Nat := if i < 1000000 then jB E + i else if i = 1000000 then jbs E else if i = 1000001 then jem E else if i < 3000000 then jaK E (i - 2000000) else jaV E (i - 3000000)
def jval (E : JE) (v : JV) : Value := match v with
  | .inl z => .int (Int32.ofInt z)
  | .inr (.inl i) => .ref (jad E i)
  | .inr (.inr v) => v
def jok (v : JV) : Prop := match v with
  | .inl z => -2147483648 ≤ z ∧ z ≤ 2147483647
  | .inr (.inr (.retAddr _)) => False
  | _ => True
theorem jad_i {E : JE} {i : Nat} (h : i < 1000000) : jad E i = jB E + i := if_pos h
def jbyt : List (List Int32) := (List.range 14).map fun k => (jlit k).map Int32.ofInt
def jlenl : List Nat := (List.range 14).map fun k => (jlit k).length
/-- what may be put into a row of objects -/
def jobjs : List String := ["OverlapBenchLaw$Node", "[LOverlapBenchLaw$Node;"]
def jcsN (nm d : String) : MethodName := ⟨"java/lang/CharSequence", nm, d⟩
def jstN (nm d : String) : MethodName := ⟨"java/lang/String", nm, d⟩
def jifs : List (String × String) := [("length", "()I"), ("charAt", "(I)C")]
/-- what Arrays.equals asks of the rows' class -/
def jFz (A : Nat → Prop) (s : State) (H : Heap) : Prop := (va_Z "jdk/internal/misc/Unsafe" "ARRAY_LONG_BASE_OFFSET" "I" (.int 16) A s H ∧ va_Z "jdk/internal/util/ArraysSupport" "LOG2_ARRAY_LONG_INDEX_SCALE" "I" (.int 3) A s H) ∧ (∃ u, va_Z "jdk/internal/util/ArraysSupport" "U" "Ljdk/internal/misc/Unsafe;" (.ref u) A s H ∧ va_O "jdk/internal/misc/Unsafe" u A s H)
/-- what lies outside the run's own cells, at a state and a heap -/
def jFx (E : JE) (s : State) (H : Heap) : Prop :=
  va_K (jD E) jcl [] s ∧ (∀ t, jtagok t → ArrOfT s (jC E t) (jfty t) ∧ s.vm.findClass ("[" ++ (jfty t).toString) = some (jC E t) ∧ (105 ≤ t → va_RA s (jC E t) (jfty t)))
  ∧ (va_X (jbs E) (jLx E) (jsx E) s H ∧ ¬ jA E (jbs E)) ∧ vk_S 14 jlenl jbyt (jaK E) (jaV E) (jA E) s H
  ∧ (∀ q ∈ jstrs, vk_R q.1 q.2.1 (jtext q.2.2) (jaK E q.2.2) s) ∧ (∀ q ∈ jnests, va_Nw (.methodLinkNest q.1 q.2.1 q.2.2.1 q.2.2.2) s)
  ∧ (∀ q ∈ jfnests, va_Nw (.fieldLinkNest q.1 q.2.1 (jfd q.2.2.1 q.2.2.2).1 (jfd q.2.2.1 q.2.2.2).2.1 (jfd q.2.2.1 q.2.2.2).2.2.1 "OverlapBenchLaw") s)
  ∧ (va_Z "java/util/ArrayList" "DEFAULTCAPACITY_EMPTY_ELEMENTDATA" "[Ljava/lang/Object;" (.ref (jem E)) (jA E) s H ∧ va_T (.object "java/lang/Object") (jem E) 0 (fun _ => .null) (jA E) s H)
  ∧ va_Z "java/lang/String" "COMPACT_STRINGS" "Z" (.int 1) (jA E) s H ∧ va_Zq "jdk/internal/util/Preconditions" "SIOOBE_FORMATTER" "Ljava/util/function/BiFunction;" (jA E) s H
  ∧ ((∀ q ∈ jobjs, va_Nw (.castable q "java/lang/Object") s) ∧ (∀ q ∈ jifs, va_Fw "java/lang/String" (jcsN q.1 q.2) (jstN q.1 q.2) s) ∧ va_Nw (.castable "[B" "java/lang/Cloneable") s) ∧ (jB E ≤ H.size ∧ (∀ a, a < 12 → va_AO (jclsn a) s ∨ (a ≠ 5 ∧ a ≠ 7 ∧ a ≠ 8 ∧ a ≠ 11)) ∧ va_AO "java/lang/Object" s) ∧ jFz (jA E) s H
theorem va_X_moved {b L : Nat} {xs : Nat → Int32} {s U : State} {H : Heap} (hvm : s.vm.Alike U.vm) (h : va_X b L xs s H) : va_X b L xs U H := by
  obtain ⟨scr, h1, h2, h3⟩ := h
  exact ⟨scr, h1, State.isArrayOf_alike hvm h2, h3⟩
theorem va_X_kept {b L : Nat} {xs : Nat → Int32} {s : State} {H H1 : Heap} (hq : H1[b]? = H[b]?) (h : va_X b L xs s H) : va_X b L xs s H1 := by
  obtain ⟨scr, h1, h3⟩ := h
  exact ⟨scr, hq.trans h1, h3⟩
theorem jFx.scr {E : JE} {s : State} {H : Heap} (h : jFx E s H) : va_X (jbs E) (jLx E) (jsx E) s H ∧ ¬ jA E (jbs E) := h.2.2.1
theorem jFx.lit {E : JE} {s : State} {H : Heap} (h : jFx E s H) : vk_S 14 jlenl jbyt (jaK E) (jaV E) (jA E) s H := h.2.2.2.1
theorem jFx.str {E : JE} {s : State} {H : Heap} (h : jFx E s H) : ∀ q ∈ jstrs, vk_R q.1 q.2.1 (jtext q.2.2) (jaK E q.2.2) s := h.2.2.2.2.1
theorem jFx.nest {E : JE} {s : State} {H : Heap} (h : jFx E s H) : ∀ q ∈ jnests, va_Nw (.methodLinkNest q.1 q.2.1 q.2.2.1 q.2.2.2) s := h.2.2.2.2.2.1
theorem jFx.fnest {E : JE} {s : State} {H : Heap} (h : jFx E s H) : ∀ q ∈ jfnests, va_Nw (.fieldLinkNest q.1 q.2.1 (jfd q.2.2.1 q.2.2.2).1 (jfd q.2.2.1 q.2.2.2).2.1 (jfd q.2.2.1 q.2.2.2).2.2.1 "OverlapBenchLaw") s := h.2.2.2.2.2.2.1
theorem jFx.emp {E : JE} {s : State} {H : Heap} (h : jFx E s H) : va_Z "java/util/ArrayList" "DEFAULTCAPACITY_EMPTY_ELEMENTDATA" "[Ljava/lang/Object;" (.ref (jem E)) (jA E) s H ∧ va_T (.object "java/lang/Object") (jem E) 0 (fun _ => .null) (jA E) s H := h.2.2.2.2.2.2.2.1
theorem jFx.compact {E : JE} {s : State} {H : Heap} (h : jFx E s H) : va_Z "java/lang/String" "COMPACT_STRINGS" "Z" (.int 1) (jA E) s H := h.2.2.2.2.2.2.2.2.1
theorem jFx.sio {E : JE} {s : State} {H : Heap} (h : jFx E s H) : va_Zq "jdk/internal/util/Preconditions" "SIOOBE_FORMATTER" "Ljava/util/function/BiFunction;" (jA E) s H := h.2.2.2.2.2.2.2.2.2.1
theorem jFx.cast {E : JE} {s : State} {H : Heap} (h : jFx E s H) : ∀ q ∈ jobjs, va_Nw (.castable q "java/lang/Object") s := h.2.2.2.2.2.2.2.2.2.2.1.1
theorem jFx.ifs {E : JE} {s : State} {H : Heap} (h : jFx E s H) : ∀ q ∈ jifs, va_Fw "java/lang/String" (jcsN q.1 q.2) (jstN q.1 q.2) s := h.2.2.2.2.2.2.2.2.2.2.1.2.1
theorem jFx.clo {E : JE} {s : State} {H : Heap} (h : jFx E s H) : va_Nw (.castable "[B" "java/lang/Cloneable") s := h.2.2.2.2.2.2.2.2.2.2.1.2.2
theorem jFx.size {E : JE} {s : State} {H : Heap} (h : jFx E s H) : jB E ≤ H.size := h.2.2.2.2.2.2.2.2.2.2.2.1.1
theorem jFx.ao {E : JE} {s : State} {H : Heap} (h : jFx E s H) : ∀ a, a < 12 → va_AO (jclsn a) s ∨ (a ≠ 5 ∧ a ≠ 7 ∧ a ≠ 8 ∧ a ≠ 11) := h.2.2.2.2.2.2.2.2.2.2.2.1.2.1
theorem jFx.aoO {E : JE} {s : State} {H : Heap} (h : jFx E s H) : va_AO "java/lang/Object" s := h.2.2.2.2.2.2.2.2.2.2.2.1.2.2
theorem jFx.fz {E : JE} {s : State} {H : Heap} (h : jFx E s H) : jFz (jA E) s H := h.2.2.2.2.2.2.2.2.2.2.2.2
theorem jFz_moved {A : Nat → Prop} {s U : State} {H : Heap} (hvm : s.vm.Alike U.vm) (h : jFz A s H) : jFz A U H := by
  obtain ⟨⟨h1, h2⟩, u, h3, h4⟩ := h
  exact ⟨⟨h1.moved hvm, h2.moved hvm⟩, u, h3.moved hvm, va_O.moved hvm h4⟩
theorem jFz_kept {A : Nat → Prop} {s : State} {H H1 : Heap} (hq : ∀ a : Nat, a < H.size → ¬ A a → H1[a]? = H[a]?) (h : jFz A s H) : jFz A s H1 := by
  obtain ⟨⟨h1, h2⟩, u, h3, h4⟩ := h
  exact ⟨⟨h1.kept hq, h2.kept hq⟩, u, h3.kept hq, h4.kept hq⟩
theorem jifs_cls {q : String × String} : (jcsN q.1 q.2).cls ≠ "java/lang/invoke/MethodHandle" ∧ (jcsN q.1 q.2).cls ≠ "java/lang/invoke/VarHandle" := by
  show "java/lang/CharSequence" ≠ "java/lang/invoke/MethodHandle" ∧ "java/lang/CharSequence" ≠ "java/lang/invoke/VarHandle"
  decide +kernel
theorem jFx_warm {E : JE} {s U : State} {H : Heap} (hW : s.WarmedH U.vm) (h : jFx E s H) : jFx E U H := by
  obtain ⟨h1, h2, ⟨h3, h3'⟩, h4, h5, h6, h7, ⟨h8, h8'⟩, h9, h10, ⟨h11, h11', h11''⟩, ⟨h12, h13, h14⟩, h15⟩ := h
  have hvm := hW.alike
  exact ⟨va_K.moved hvm h1, fun t ht => ⟨arrOfT_moved hvm (h2 t ht).1, by rw [hvm.findClass]; exact (h2 t ht).2.1, fun z => va_RA.moved hvm ((h2 t ht).2.2 z)⟩, ⟨va_X_moved hvm h3, h3'⟩, vk_S.moved hvm h4, fun q hq => (h5 q hq).warm hW, fun q hq => va_Nw.warmM hW (h6 q hq), fun q hq => va_Nw.warmF hW (h7 q hq), ⟨h8.moved hvm, va_T.moved hvm h8'⟩, h9.moved hvm, va_Zq.moved hvm h10, ⟨fun q hq => va_Nw.warmC hW (h11 q hq), fun q hq => va_Fw.moved jifs_cls hvm (h11' q hq), va_Nw.warmC hW h11''⟩, ⟨h12, fun a ha => (h13 a ha).imp (va_AO.moved hvm) id, va_AO.moved hvm h14⟩, jFz_moved hvm h15⟩
theorem jFx_kept {E : JE} {s : State} {H H1 : Heap} (hq : ∀ a : Nat, a < H.size → ¬ jA E a → H1[a]? = H[a]?) (hs : H.size ≤ H1.size) (h : jFx E s H) : jFx E s H1 := by
  obtain ⟨h1, h2, ⟨h3, h3'⟩, h4, h5, h6, h7, ⟨h8, h8'⟩, h9, h10, h11, ⟨h12, h13⟩, h15⟩ := h
  have hb : jbs E < H.size := Nat.lt_of_lt_of_le (Nat.not_le.mp h3') h12
  exact ⟨h1, h2, ⟨va_X_kept (hq _ hb h3') h3, h3'⟩, h4.kept hq, h5, h6, h7, ⟨h8.kept hq, h8'.kept hq⟩, h9.kept hq, va_Zq.kept h10 hq, h11, ⟨Nat.le_trans h12 hs, h13⟩, jFz_kept hq h15⟩
/-- one cell -/
def jcellAt (E : JE) (a t n : Nat) (V : Nat → Value) (H : Heap) : Prop :=
  if t < 16 then n = (jfields t).length ∧ t_OB a ((jD E).1 t) n ((jD E).2 t) H V else jtagok t ∧ H[a]? = some (arrV (jC E t) n V)
theorem jcellAt_kept {E : JE} {a t n : Nat} {V : Nat → Value} {H H1 : Heap} (h : jcellAt E a t n V H) (hq : H1[a]? = H[a]?) : jcellAt E a t n V H1 := by
  unfold jcellAt at h ⊢
  by_cases ht : t < 16
  · rw [if_pos ht] at h ⊢
    exact ⟨h.1, h.2.kept hq⟩
  · rw [if_neg ht] at h ⊢
    exact ⟨h.1, hq.trans h.2⟩
theorem jcellAt_to {E : JE} {a t n : Nat} {V V1 : Nat → Value} {H : Heap} (h : jcellAt E a t n V H) (hv : ∀ k, k < n → V k = V1 k) : jcellAt E a t n V1 H := by
  unfold jcellAt at h ⊢
  by_cases ht : t < 16
  · rw [if_pos ht] at h ⊢
    exact ⟨h.1, h.2.to hv⟩
  · rw [if_neg ht] at h ⊢
    refine ⟨h.1, h.2.trans ?_⟩
    have e : (fun j : Fin n => V j.1) = fun j : Fin n => V1 j.1 := funext fun j => hv j.1 j.2
    unfold arrV
    rw [e]
theorem jcellAt_lt {E : JE} {a t n : Nat} {V : Nat → Value} {H : Heap} (h : jcellAt E a t n V H) : a < H.size := by
  unfold jcellAt at h
  split at h
  · obtain ⟨-, cell, h1, -⟩ := h
    exact (Array.getElem?_eq_some_iff.mp h1).1
  · exact (Array.getElem?_eq_some_iff.mp h.2).1
/-- the memory is what the heap holds -/
def jRel (E : JE) (M : JM) (H : Heap) : Prop :=
  (∀ i t n, jsh M i = some (t, n) → jcellAt E (jB E + i) t n (fun k => jval E (jget M i k)) H ∧ (∀ k, k < n → jok (jget M i k)) ∧ n < 2147483648) ∧ (jclean M = true → H.size = jB E + M.1.length) ∧ (jL M = jLx E ∧ ∀ k, k < jLx E → jxs M k = (jsx E k).toInt)
theorem jRel_kept {E : JE} {M : JM} {H H1 : Heap} (h : jRel E M H) (hq : ∀ q : Nat, q < H.size → H1[q]? = H[q]?) (hc : jclean M = true → H1.size = H.size) : jRel E M H1 := by
  refine ⟨fun i t n hi => ?_, fun c => (hc c).trans (h.2.1 c), h.2.2⟩
  obtain ⟨h1, h2⟩ := h.1 i t n hi
  exact ⟨jcellAt_kept h1 (hq _ (jcellAt_lt h1)), h2⟩
/-- the locals -/
def jLoc (E : JE) (lsA : Array Slot) (nL : Nat) (ls : List JV) : Prop := lsA.size = nL ∧ ls.length = nL ∧ lv_wf lsA ∧ ∀ (i : Nat) (v : JV), ls[i]? = some v → (∀ q, v ≠ .inr (.inr (.retAddr q))) → lsA[i]? = some (Slot.val (jval E v)) ∧ jok v
def jkn (v : JV) : Bool := match v with
  | .inr (.inr (.retAddr _)) => false
  | _ => true
theorem jkn_iff {v : JV} : jkn v = true ↔ ∀ q, v ≠ .inr (.inr (.retAddr q)) := by
  rcases v with z | z | z
  · simp [jkn]
  · simp [jkn]
  · cases z <;> simp [jkn]
def jlv (E : JE) : Nat → List JV → List (Nat × Value)
  | _, [] => []
  | i, v :: r => if jkn v = true then (i, jval E v) :: jlv E (i + 1) r else jlv E (i + 1) r
theorem jlv_mem {E : JE} : ∀ (ls : List JV) (i : Nat) (q : Nat × Value), q ∈ jlv E i ls ↔ ∃ (k : Nat) (v : JV), ls[k]? = some v ∧ jkn v = true ∧ q = (i + k, jval E v) := by
  intro ls
  induction ls with
  | nil => intro i q; simp [jlv]
  | cons v r ih =>
    intro i q
    have key : (∃ (k : Nat) (w : JV), (v :: r)[k]? = some w ∧ jkn w = true ∧ q = (i + k, jval E w)) ↔ (jkn v = true ∧ q = (i, jval E v)) ∨ ∃ (k : Nat) (w : JV), r[k]? = some w ∧ jkn w = true ∧ q = (i + 1 + k, jval E w) := by
      constructor
      · rintro ⟨k, w, h1, h2, h3⟩
        cases k with
        | zero => simp at h1; subst h1; exact Or.inl ⟨h2, h3⟩
        | succ k => exact Or.inr ⟨k, w, by simpa using h1, h2, by rw [h3]; congr 1; omega⟩
      · rintro (⟨h1, h2⟩ | ⟨k, w, h1, h2, h3⟩)
        · exact ⟨0, v, rfl, h1, h2⟩
        · exact ⟨k + 1, w, by simpa using h1, h2, by rw [h3]; congr 1; omega⟩
    rw [key, jlv]
    split
    · rename_i hv
      rw [List.mem_cons, ih]
      simp [hv]
    · rename_i hv
      rw [ih]
      simp [hv]
theorem jLoc_has {E : JE} {lsA : Array Slot} {nL : Nat} {ls : List JV} (h : jLoc E lsA nL ls) : lv_has lsA nL (jlv E 0 ls) := by
  refine ⟨h.1, h.2.2.1, fun q hq => ?_⟩
  obtain ⟨k, v, h1, h2, h3⟩ := (jlv_mem ls 0 q).mp hq
  subst h3
  rw [Nat.zero_add]
  exact (h.2.2.2 k v h1 (jkn_iff.mp h2)).1
theorem jLoc_of {E : JE} {lsA : Array Slot} {nL : Nat} {ls : List JV} {lv : List (Nat × Value)} (h : lv_has lsA nL lv) (hn : ls.length = nL) (hm : ∀ (i : Nat) (v : JV), ls[i]? = some v → jkn v = true → (i, jval E v) ∈ lv ∧ jok v) : jLoc E lsA nL ls :=
  ⟨h.1, hn, h.2.1, fun i v hv hk => ⟨h.2.2 _ (hm i v hv (jkn_iff.mpr hk)).1, (hm i v hv (jkn_iff.mpr hk)).2⟩⟩
theorem jLoc_at {E : JE} {lsA : Array Slot} {nL : Nat} {ls : List JV} (h : jLoc E lsA nL ls) {i : Nat} {v : JV} (hv : jld ls i = v) (hk : jkn v = true) : lsA[i]? = some (Slot.val (jval E v)) ∧ jok v := by
  unfold jld at hv
  rw [List.getD_eq_getElem?_getD] at hv
  cases hg : ls[i]? with
  | none => rw [hg] at hv; subst hv; cases hk
  | some w => rw [hg] at hv; simp at hv; subst hv; exact h.2.2.2 i w hg (jkn_iff.mp hk)
/-- the locals behind a store -/
theorem jLoc_sto {E : JE} {nL i : Nat} {ls ls1 : List JV} {v : JV} {lsA : Array Slot} (h : jLoc E lsA nL ls) (hs : jsto ls i v = some ls1) (hv : jok v) {ls' : Array Slot} (h' : lv_has ls' nL ((i, jval E v) :: (jlv E 0 ls).filter (fun q => !(q.1 == i) && !(q.1 + 1 == i && q.2.category == 2)))) : jLoc E ls' nL ls1 := by
  unfold jsto at hs
  split at hs
  · rename_i hc
    cases hs
    refine jLoc_of h' (by rw [List.length_set]; exact h.2.1) fun k w hw hk => ?_
    by_cases hki : k = i
    · subst hki
      rw [List.getElem?_set_self hc.2] at hw
      cases hw
      exact ⟨List.mem_cons_self, hv⟩
    · rw [List.getElem?_set_ne (Ne.symm hki)] at hw
      have hok := (h.2.2.2 k w hw (jkn_iff.mp hk)).2
      refine ⟨List.mem_cons_of_mem _ (List.mem_filter.mpr ⟨(jlv_mem ls 0 _).mpr ⟨k, w, hw, hk, by rw [Nat.zero_add]⟩, ?_⟩), hok⟩
      simp only [beq_iff_eq, Bool.and_eq_true, Bool.not_eq_true', Bool.and_eq_false_iff, beq_eq_false_iff_ne, ne_eq]
      refine ⟨hki, ?_⟩
      by_cases hk1 : k + 1 = i
      · right
        subst hk1
        have e : jc2 w = false := by
          have := hc.1
          rw [List.getD_eq_getElem?_getD, List.getElem?_cons_succ, hw] at this
          exact this
        rcases w with z | z | z
        · simp [jval, Value.category]
        · simp [jval, Value.category]
        · cases z <;> simp_all [jval, Value.category, jc2]
      · exact Or.inl hk1
  · cases hs
theorem jLoc_sto2 {E : JE} {nL i : Nat} {ls ls1 : List JV} {x : UInt64} {lsA : Array Slot} (h : jLoc E lsA nL ls) (hs : jsto2 ls i (jX (.double x)) = some ls1) {ls' : Array Slot} (h' : lv_has ls' nL ((i, Value.double x) :: (jlv E 0 ls).filter (fun q => !(q.1 == i) && (!(q.1 == i + 1) && !(q.1 + 1 == i && q.2.category == 2))))) : jLoc E ls' nL ls1 := by
  unfold jsto2 at hs
  split at hs
  · rename_i hc
    cases hs
    refine jLoc_of h' (by simp only [List.length_set]; exact h.2.1) fun k w hw hk => ?_
    by_cases hk2 : k = i + 1
    · subst hk2
      rw [List.getElem?_set_self (by simp; exact hc.2)] at hw
      cases hw
      cases hk
    · rw [List.getElem?_set_ne (Ne.symm hk2)] at hw
      by_cases hki : k = i
      · subst hki
        rw [List.getElem?_set_self (Nat.lt_of_succ_lt hc.2)] at hw
        cases hw
        exact ⟨List.mem_cons_self, trivial⟩
      · rw [List.getElem?_set_ne (Ne.symm hki)] at hw
        have hok := (h.2.2.2 k w hw (jkn_iff.mp hk)).2
        refine ⟨List.mem_cons_of_mem _ (List.mem_filter.mpr ⟨(jlv_mem ls 0 _).mpr ⟨k, w, hw, hk, by rw [Nat.zero_add]⟩, ?_⟩), hok⟩
        simp only [beq_iff_eq, Bool.and_eq_true, Bool.not_eq_true', Bool.and_eq_false_iff, beq_eq_false_iff_ne, ne_eq]
        refine ⟨hki, hk2, ?_⟩
        by_cases hk1 : k + 1 = i
        · right
          subst hk1
          have e : jc2 w = false := by
            have := hc.1
            rw [List.getD_eq_getElem?_getD, List.getElem?_cons_succ, hw] at this
            exact this
          rcases w with z | z | z
          · simp [jval, Value.category]
          · simp [jval, Value.category]
          · cases z <;> simp_all [jval, Value.category, jc2]
        · exact Or.inl hk1
  · cases hs
theorem jval_c2 {E : JE} {v : JV} (h : jc2 v = false) : (jval E v).category = 1 := by
  rcases v with z | z | z
  · rfl
  · rfl
  · cases z <;> simp_all [jval, Value.category, jc2]
theorem jwr_ok (x : Int32) : -2147483648 ≤ x.toInt ∧ x.toInt ≤ 2147483647 := by
  have h1 := x.le_toInt
  have h2 := x.toInt_lt
  omega
theorem jofi {z : Int} (h : -2147483648 ≤ z ∧ z ≤ 2147483647) : (Int32.ofInt z).toInt = z := by
  rw [Int32.toInt_ofInt, show Int32.size = 4294967296 from rfl, Int.bmod_eq_of_le (by omega) (by omega)]
theorem jof_toInt (x : Int32) : Int32.ofInt x.toInt = x := Int32.ofInt_toInt x
theorem jofi_add (x y : Int) : Int32.ofInt x + Int32.ofInt y = Int32.ofInt (wr (x + y)) := by
  apply Int32.toInt_inj.mp
  simp only [Int32.toInt_add, Int32.toInt_ofInt, wr]
  simp [Int.bmod_add_bmod, Int.add_bmod_bmod]
end
section
/-! THE PRINTED MACHINE HELD AGAINST THE PURE ONE: one instruction after another -/
theorem jofi_sub (x y : Int) : Int32.ofInt x - Int32.ofInt y = Int32.ofInt (wr (x - y)) := by
  apply Int32.toInt_inj.mp
  simp only [Int32.toInt_sub, Int32.toInt_ofInt, wr]
  simp [Int.sub_bmod_bmod, Int.bmod_sub_bmod]
theorem jofi_mul (x y : Int) : Int32.ofInt x * Int32.ofInt y = Int32.ofInt (wr (x * y)) := by
  apply Int32.toInt_inj.mp
  simp only [Int32.toInt_mul, Int32.toInt_ofInt, wr]
  simp [Int.bmod_mul_bmod, Int.mul_bmod_bmod]
theorem jwr_rng (z : Int) : -2147483648 ≤ wr z ∧ wr z ≤ 2147483647 := by
  unfold wr
  have h1 := @Int.le_bmod z 4294967296 (by decide)
  have h2 := @Int.bmod_lt z 4294967296 (by decide)
  omega
theorem jlt_iff {x y : Int} (hx : jok (.inl x)) (hy : jok (.inl y)) : Int32.ofInt x < Int32.ofInt y ↔ x < y := by
  rw [Int32.lt_iff_toInt_lt, jofi hx, jofi hy]
theorem jle_iff {x y : Int} (hx : jok (.inl x)) (hy : jok (.inl y)) : Int32.ofInt x ≤ Int32.ofInt y ↔ x ≤ y := by
  rw [Int32.le_iff_toInt_le, jofi hx, jofi hy]
theorem jeq_iff {x y : Int} (hx : jok (.inl x)) (hy : jok (.inl y)) : Int32.ofInt x = Int32.ofInt y ↔ x = y := by
  rw [← Int32.toInt_inj, jofi hx, jofi hy]
theorem jof0 : Int32.ofInt 0 = 0 := by decide +kernel
theorem jok0 : jok (.inl 0) := by unfold jok; omega
theorem jkn_ok {v : JV} (h : jok v) : jkn v = true := by
  rcases v with z | z | z
  · rfl
  · rfl
  · cases z <;> first | rfl | cases h
theorem jofi_rng {n : Int} (h : (Int32.ofInt n).toInt = n) : -2147483648 ≤ n ∧ n ≤ 2147483647 := by
  have h1 := jwr_ok (Int32.ofInt n)
  rw [h] at h1
  exact h1
/-- what a method's walk stands on -/
def jCtx (E : JE) (mi : Nat) (p : Program) (l : Launch) (s : State) (m : MethodId) (args : Array Value) (meth : Method) (c : Code) : Prop :=
  p.tables.exec = Jvm.exec ∧ c.code = jmb mi ∧ c.maxLocals = jmaxL mi ∧ s.vm.findClass (jnm mi).cls = some m.cls ∧ (∀ w ∈ jgood, w.before args s = true) ∧ jFx E s s.heap ∧ meth.locks = false ∧ meth.name = (jnm mi).name ∧ l.flags = flags0 ∧ jB E ≤ s.heap.size
/-- what holds at each place of it -/
def jInv (E : JE) (mi : Nat) (s : State) (lsA : Array Slot) (H : Heap) (locs : List Loc) (ls st : List JV) (M : JM) : Prop :=
  jLoc E lsA (jmaxL mi) ls ∧ jRel E M H ∧ (∀ v ∈ st, jok v ∧ jkn v = true) ∧ va_S (jA E) s.heap H locs
def jGo (E : JE) (mi : Nat) (p : Program) (l : Launch) (e : Env) (R : Room) (s : State) (m : MethodId) (args : Array Value) (below : List Frame) (meth : Method) (c : Code) (Q : State → Prop) (c0 s0 : Nat) (pc : Nat) (ls st : List JV) (M : JM) : Prop :=
  ∀ (lsA : Array Slot) (H : Heap) (locs : List Loc), jInv E mi s lsA H locs ls st M → W p l e R s m args below meth c H locs (jcells M - c0) (jslots M - s0) Q (F0 m pc lsA (st.map (jval E)))
section J10
variable {E : JE} {mi : Nat} {p : Program} {l : Launch} {e : Env} {R : Room} {s : State} {m : MethodId} {args : Array Value} {below : List Frame} {meth : Method} {c : Code} {Q : State → Prop} {c0 s0 pc : Nat} {ls st : List JV} {M : JM}
theorem jInv.re {lsA : Array Slot} {H : Heap} {locs : List Loc} {st1 : List JV} (h : jInv E mi s lsA H locs ls st M) (h1 : ∀ v ∈ st1, jok v ∧ jkn v = true) : jInv E mi s lsA H locs ls st1 M := ⟨h.1, h.2.1, h1, h.2.2.2⟩
theorem jInv.hd {lsA : Array Slot} {H : Heap} {locs : List Loc} {v : JV} (h : jInv E mi s lsA H locs ls (v :: st) M) : jok v ∧ jkn v = true := h.2.2.1 v List.mem_cons_self
theorem jInv.tl {lsA : Array Slot} {H : Heap} {locs : List Loc} {v : JV} (h : jInv E mi s lsA H locs ls (v :: st) M) : jInv E mi s lsA H locs ls st M := h.re fun w hw => h.2.2.1 w (List.mem_cons_of_mem _ hw)
theorem jInv.push {lsA : Array Slot} {H : Heap} {locs : List Loc} {v : JV} (h : jInv E mi s lsA H locs ls st M) (h1 : jok v) (h2 : jkn v = true) : jInv E mi s lsA H locs ls (v :: st) M := h.re fun w hw => (List.mem_cons.mp hw).elim (fun q => by rw [q]; exact ⟨h1, h2⟩) (h.2.2.1 w)
theorem jInv.pushI {lsA : Array Slot} {H : Heap} {locs : List Loc} {z : Int} (h : jInv E mi s lsA H locs ls st M) (h1 : -2147483648 ≤ z ∧ z ≤ 2147483647) : jInv E mi s lsA H locs ls (.inl z :: st) M := h.push h1 rfl
theorem j_aload_n {k0 : Fin 4} {z : Nat} (C : jCtx E mi p l s m args meth c) (hd : decode (jmb mi) pc = .ok (.aload_n k0, 1)) (hl : jld ls k0 = .inr (.inl z)) (k : jGo E mi p l e R s m args below meth c Q c0 s0 (pc + 1) ls (.inr (.inl z) :: st) M) : jGo E mi p l e R s m args below meth c Q c0 s0 pc ls (st) M := by
  intro lsA H locs I
  obtain ⟨h1, h2⟩ := jLoc_at I.1 hl rfl
  exact lv_aload_n C.1 C.2.1 hd rfl h1 (k lsA H locs (I.push h2 rfl))
theorem j_iload_n {k0 : Fin 4} {z : Int} (C : jCtx E mi p l s m args meth c) (hd : decode (jmb mi) pc = .ok (.iload_n k0, 1)) (hl : jld ls k0 = .inl z) (k : jGo E mi p l e R s m args below meth c Q c0 s0 (pc + 1) ls (.inl z :: st) M) : jGo E mi p l e R s m args below meth c Q c0 s0 pc ls (st) M := by
  intro lsA H locs I
  obtain ⟨h1, h2⟩ := jLoc_at I.1 hl rfl
  exact lv_iload_n C.1 C.2.1 hd rfl h1 (k lsA H locs (I.push h2 rfl))
theorem j_aload {i : Nat} {z : Nat} (C : jCtx E mi p l s m args meth c) (hd : decode (jmb mi) pc = .ok (.aload i, 2)) (hl : jld ls i = .inr (.inl z)) (k : jGo E mi p l e R s m args below meth c Q c0 s0 (pc + 2) ls (.inr (.inl z) :: st) M) : jGo E mi p l e R s m args below meth c Q c0 s0 pc ls (st) M := by
  intro lsA H locs I
  obtain ⟨h1, h2⟩ := jLoc_at I.1 hl rfl
  exact lv_aload C.1 C.2.1 hd h1 (k lsA H locs (I.push h2 rfl))
theorem j_iload {i : Nat} {z : Int} (C : jCtx E mi p l s m args meth c) (hd : decode (jmb mi) pc = .ok (.iload i, 2)) (hl : jld ls i = .inl z) (k : jGo E mi p l e R s m args below meth c Q c0 s0 (pc + 2) ls (.inl z :: st) M) : jGo E mi p l e R s m args below meth c Q c0 s0 pc ls (st) M := by
  intro lsA H locs I
  obtain ⟨h1, h2⟩ := jLoc_at I.1 hl rfl
  exact lv_iload C.1 C.2.1 hd h1 (k lsA H locs (I.push h2 rfl))
theorem j_istore_n {k0 : Fin 4} {z : Int} {ls1 : List JV} (C : jCtx E mi p l s m args meth c) (hd : decode (jmb mi) pc = .ok (.istore_n k0, 1)) (hl : jsto ls (k0 : Nat) (.inl z) = some ls1) (k : jGo E mi p l e R s m args below meth c Q c0 s0 (pc + 1) ls1 (st) M) : jGo E mi p l e R s m args below meth c Q c0 s0 pc ls (.inl z :: st) M := by
  intro lsA H locs I
  have hn : (k0 : Nat) < jmaxL mi := by
    unfold jsto at hl
    split at hl
    · rename_i hc
      rw [← I.1.2.1]; exact hc.2
    · cases hl
  exact lv_istore_n C.1 C.2.1 hd rfl (jLoc_has I.1) hn rfl fun ls9 h9 => k ls9 H locs ⟨jLoc_sto I.1 hl I.hd.1 h9, I.2.1, I.tl.2.2.1, I.2.2.2⟩
theorem j_istore {i : Nat} {z : Int} {ls1 : List JV} (C : jCtx E mi p l s m args meth c) (hd : decode (jmb mi) pc = .ok (.istore i, 2)) (hl : jsto ls i (.inl z) = some ls1) (k : jGo E mi p l e R s m args below meth c Q c0 s0 (pc + 2) ls1 (st) M) : jGo E mi p l e R s m args below meth c Q c0 s0 pc ls (.inl z :: st) M := by
  intro lsA H locs I
  have hn : i < jmaxL mi := by
    unfold jsto at hl
    split at hl
    · rename_i hc
      rw [← I.1.2.1]; exact hc.2
    · cases hl
  exact lv_istore C.1 C.2.1 hd (jLoc_has I.1) hn rfl fun ls9 h9 => k ls9 H locs ⟨jLoc_sto I.1 hl I.hd.1 h9, I.2.1, I.tl.2.2.1, I.2.2.2⟩
theorem j_astore_n {k0 : Fin 4} {z : Nat} {ls1 : List JV} (C : jCtx E mi p l s m args meth c) (hd : decode (jmb mi) pc = .ok (.astore_n k0, 1)) (hl : jsto ls (k0 : Nat) (.inr (.inl z)) = some ls1) (k : jGo E mi p l e R s m args below meth c Q c0 s0 (pc + 1) ls1 (st) M) : jGo E mi p l e R s m args below meth c Q c0 s0 pc ls (.inr (.inl z) :: st) M := by
  intro lsA H locs I
  have hn : (k0 : Nat) < jmaxL mi := by
    unfold jsto at hl
    split at hl
    · rename_i hc
      rw [← I.1.2.1]; exact hc.2
    · cases hl
  exact lv_astore_n C.1 C.2.1 hd rfl (jLoc_has I.1) hn rfl fun ls9 h9 => k ls9 H locs ⟨jLoc_sto I.1 hl I.hd.1 h9, I.2.1, I.tl.2.2.1, I.2.2.2⟩
theorem j_astore {i : Nat} {z : Nat} {ls1 : List JV} (C : jCtx E mi p l s m args meth c) (hd : decode (jmb mi) pc = .ok (.astore i, 2)) (hl : jsto ls i (.inr (.inl z)) = some ls1) (k : jGo E mi p l e R s m args below meth c Q c0 s0 (pc + 2) ls1 (st) M) : jGo E mi p l e R s m args below meth c Q c0 s0 pc ls (.inr (.inl z) :: st) M := by
  intro lsA H locs I
  have hn : i < jmaxL mi := by
    unfold jsto at hl
    split at hl
    · rename_i hc
      rw [← I.1.2.1]; exact hc.2
    · cases hl
  exact lv_astore C.1 C.2.1 hd (jLoc_has I.1) hn rfl fun ls9 h9 => k ls9 H locs ⟨jLoc_sto I.1 hl I.hd.1 h9, I.2.1, I.tl.2.2.1, I.2.2.2⟩
theorem j_aload_nN {k0 : Fin 4} (C : jCtx E mi p l s m args meth c) (hd : decode (jmb mi) pc = .ok (.aload_n k0, 1)) (hl : jld ls k0 = .inr (.inr .null)) (k : jGo E mi p l e R s m args below meth c Q c0 s0 (pc + 1) ls (.inr (.inr .null) :: st) M) : jGo E mi p l e R s m args below meth c Q c0 s0 pc ls (st) M := by
  intro lsA H locs I
  obtain ⟨h1, h2⟩ := jLoc_at I.1 hl rfl
  exact lv_aload_nN C.1 C.2.1 hd rfl h1 (k lsA H locs (I.push h2 rfl))
theorem j_aloadN {i : Nat} (C : jCtx E mi p l s m args meth c) (hd : decode (jmb mi) pc = .ok (.aload i, 2)) (hl : jld ls i = .inr (.inr .null)) (k : jGo E mi p l e R s m args below meth c Q c0 s0 (pc + 2) ls (.inr (.inr .null) :: st) M) : jGo E mi p l e R s m args below meth c Q c0 s0 pc ls (st) M := by
  intro lsA H locs I
  obtain ⟨h1, h2⟩ := jLoc_at I.1 hl rfl
  exact lv_aloadN C.1 C.2.1 hd h1 (k lsA H locs (I.push h2 rfl))
theorem j_astore_nN {k0 : Fin 4} {ls1 : List JV} (C : jCtx E mi p l s m args meth c) (hd : decode (jmb mi) pc = .ok (.astore_n k0, 1)) (hl : jsto ls k0 (.inr (.inr .null)) = some ls1) (k : jGo E mi p l e R s m args below meth c Q c0 s0 (pc + 1) ls1 (st) M) : jGo E mi p l e R s m args below meth c Q c0 s0 pc ls (.inr (.inr .null) :: st) M := by
  intro lsA H locs I
  have hn : (k0 : Nat) < jmaxL mi := by
    unfold jsto at hl
    split at hl
    · rename_i hc
      rw [← I.1.2.1]; exact hc.2
    · cases hl
  exact lv_astore_nN C.1 C.2.1 hd rfl (jLoc_has I.1) hn rfl fun ls9 h9 => k ls9 H locs ⟨jLoc_sto (v := .inr (.inr .null)) I.1 hl trivial h9, I.2.1, I.tl.2.2.1, I.2.2.2⟩
theorem j_astoreN {i : Nat} {ls1 : List JV} (C : jCtx E mi p l s m args meth c) (hd : decode (jmb mi) pc = .ok (.astore i, 2)) (hl : jsto ls i (.inr (.inr .null)) = some ls1) (k : jGo E mi p l e R s m args below meth c Q c0 s0 (pc + 2) ls1 (st) M) : jGo E mi p l e R s m args below meth c Q c0 s0 pc ls (.inr (.inr .null) :: st) M := by
  intro lsA H locs I
  have hn : i < jmaxL mi := by
    unfold jsto at hl
    split at hl
    · rename_i hc
      rw [← I.1.2.1]; exact hc.2
    · cases hl
  exact lv_astoreN C.1 C.2.1 hd (jLoc_has I.1) hn rfl fun ls9 h9 => k ls9 H locs ⟨jLoc_sto (v := .inr (.inr .null)) I.1 hl trivial h9, I.2.1, I.tl.2.2.1, I.2.2.2⟩
theorem j_iinc {i : Nat} {n z : Int} {ls1 : List JV} (C : jCtx E mi p l s m args meth c) (hd : decode (jmb mi) pc = .ok (.iinc i n, 3)) (hz : jld ls i = .inl z) (hl : jsto ls i (.inl (wr (z + n))) = some ls1) (k : jGo E mi p l e R s m args below meth c Q c0 s0 (pc + 3) ls1 (st) M) : jGo E mi p l e R s m args below meth c Q c0 s0 pc ls (st) M := by
  intro lsA H locs I
  have hn : i < jmaxL mi := by
    unfold jsto at hl
    split at hl
    · rename_i hc
      rw [← I.1.2.1]; exact hc.2
    · cases hl
  have hg : ls[i]? = some (.inl z) := by
    unfold jld at hz
    rw [List.getD_eq_getElem?_getD] at hz
    cases hq : ls[i]? with
    | none => rw [hq] at hz; cases hz
    | some w => rw [hq] at hz; simp at hz; rw [hz]
  obtain ⟨q, hq⟩ := List.mem_iff_getElem?.mp ((jlv_mem (E := E) ls 0 (i, Value.int (Int32.ofInt z))).mpr ⟨i, .inl z, hg, rfl, by rw [Nat.zero_add]; rfl⟩)
  exact lv_iinc C.1 C.2.1 hd (jLoc_has I.1) hq (jofi_add z n) hn rfl fun ls9 h9 => k ls9 H locs ⟨jLoc_sto I.1 hl (jwr_rng _) h9, I.2.1, I.2.2.1, I.2.2.2⟩
theorem j_iconst {n : Int} (C : jCtx E mi p l s m args meth c) (hd : decode (jmb mi) pc = .ok (.iconst n, 1)) (hn : -1 ≤ n ∧ n ≤ 5) (k : jGo E mi p l e R s m args below meth c Q c0 s0 (pc + 1) ls (.inl n :: st) M) : jGo E mi p l e R s m args below meth c Q c0 s0 pc ls (st) M := by
  intro lsA H locs I
  exact lv_iconst C.1 C.2.1 hd rfl (k lsA H locs (I.pushI (by omega)))
theorem j_bipush {n : Int} (C : jCtx E mi p l s m args meth c) (hd : decode (jmb mi) pc = .ok (.bipush n, 2)) (hn : (Int8.ofInt n).toInt32 = Int32.ofInt n) (hn2 : (Int32.ofInt n).toInt = n) (k : jGo E mi p l e R s m args below meth c Q c0 s0 (pc + 2) ls (.inl n :: st) M) : jGo E mi p l e R s m args below meth c Q c0 s0 pc ls (st) M := by
  intro lsA H locs I
  exact lv_bipush C.1 C.2.1 hd hn (k lsA H locs (I.pushI (jofi_rng hn2)))
theorem j_sipush {n : Int} (C : jCtx E mi p l s m args meth c) (hd : decode (jmb mi) pc = .ok (.sipush n, 3)) (hn : (Int16.ofInt n).toInt32 = Int32.ofInt n) (hn2 : (Int32.ofInt n).toInt = n) (k : jGo E mi p l e R s m args below meth c Q c0 s0 (pc + 3) ls (.inl n :: st) M) : jGo E mi p l e R s m args below meth c Q c0 s0 pc ls (st) M := by
  intro lsA H locs I
  exact lv_sipush C.1 C.2.1 hd hn (k lsA H locs (I.pushI (jofi_rng hn2)))
theorem j_lconst {n : Fin 2} (C : jCtx E mi p l s m args meth c) (hd : decode (jmb mi) pc = .ok (.lconst n, 1)) (k : jGo E mi p l e R s m args below meth c Q c0 s0 (pc + 1) ls (.inr (.inr (.long (Int64.ofNat n))) :: st) M) : jGo E mi p l e R s m args below meth c Q c0 s0 pc ls (st) M := by
  intro lsA H locs I
  exact lv_lconst C.1 C.2.1 hd rfl (k lsA H locs (I.push trivial rfl))
theorem j_aconst_null  (C : jCtx E mi p l s m args meth c) (hd : decode (jmb mi) pc = .ok (.aconst_null, 1)) (k : jGo E mi p l e R s m args below meth c Q c0 s0 (pc + 1) ls (.inr (.inr .null) :: st) M) : jGo E mi p l e R s m args below meth c Q c0 s0 pc ls (st) M := by
  intro lsA H locs I
  exact lv_null C.1 C.2.1 hd (k lsA H locs (I.push (v := .inr (.inr .null)) trivial rfl))
theorem j_ldc2 {n a : Nat} (C : jCtx E mi p l s m args meth c) (hd : decode (jmb mi) pc = .ok (.ldc2_w n, 3)) (hl : Cond.constantLong (jnm mi).cls n (Int64.ofNat a) ∈ jgood) (k : jGo E mi p l e R s m args below meth c Q c0 s0 (pc + 3) ls (.inr (.inr (.long (Int64.ofNat a))) :: st) M) : jGo E mi p l e R s m args below meth c Q c0 s0 pc ls (st) M := by
  intro lsA H locs I
  exact lv_ldc2 C.1 C.2.1 C.2.2.2.1 (C.2.2.2.2.1 _ hl) hd (k lsA H locs (I.push trivial rfl))
theorem j_ior {x y : Int} (C : jCtx E mi p l s m args meth c) (hd : decode (jmb mi) pc = .ok (.ior, 1)) (k : jGo E mi p l e R s m args below meth c Q c0 s0 (pc + 1) ls (.inl (jor x y) :: st) M) : jGo E mi p l e R s m args below meth c Q c0 s0 pc ls (.inl y :: .inl x :: st) M := by
  intro lsA H locs I
  refine lv_ior C.1 C.2.1 hd ?_
  rw [← jof_toInt (Int32.ofInt x ||| Int32.ofInt y)]
  exact k lsA H locs (I.tl.tl.pushI (jwr_ok _))
theorem j_ishl {x y : Int} (C : jCtx E mi p l s m args meth c) (hd : decode (jmb mi) pc = .ok (.ishl, 1)) (k : jGo E mi p l e R s m args below meth c Q c0 s0 (pc + 1) ls (.inl (jshl x y) :: st) M) : jGo E mi p l e R s m args below meth c Q c0 s0 pc ls (.inl y :: .inl x :: st) M := by
  intro lsA H locs I
  refine lv_ishl C.1 C.2.1 hd ?_
  rw [← jof_toInt (Int32.ofInt x <<< (Int32.ofInt y &&& 31))]
  exact k lsA H locs (I.tl.tl.pushI (jwr_ok _))
theorem j_idiv {x y : Int} (C : jCtx E mi p l s m args meth c) (hd : decode (jmb mi) pc = .ok (.idiv, 1)) (hy : 0 < y) (k : jGo E mi p l e R s m args below meth c Q c0 s0 (pc + 1) ls (.inl (jdiv x y) :: st) M) : jGo E mi p l e R s m args below meth c Q c0 s0 pc ls (.inl y :: .inl x :: st) M := by
  intro lsA H locs I
  have hne : ¬ Int32.ofInt y = 0 := by
    intro q
    have h0 := (jeq_iff (x := y) (y := 0) I.hd.1 jok0).mp (by rw [q]; exact jof0.symm)
    omega
  refine lv_idiv C.1 C.2.1 hd hne ?_
  rw [← jof_toInt (Int32.ofInt x / Int32.ofInt y)]
  exact k lsA H locs (I.tl.tl.pushI (jwr_ok _))
theorem j_irem {x y : Int} (C : jCtx E mi p l s m args meth c) (hd : decode (jmb mi) pc = .ok (.irem, 1)) (hy : 0 < y) (k : jGo E mi p l e R s m args below meth c Q c0 s0 (pc + 1) ls (.inl (jrem x y) :: st) M) : jGo E mi p l e R s m args below meth c Q c0 s0 pc ls (.inl y :: .inl x :: st) M := by
  intro lsA H locs I
  have hne : ¬ Int32.ofInt y = 0 := by
    intro q
    have h0 := (jeq_iff (x := y) (y := 0) I.hd.1 jok0).mp (by rw [q]; exact jof0.symm)
    omega
  refine lv_irem C.1 C.2.1 hd hne ?_
  rw [← jof_toInt (Int32.ofInt x - Int32.ofInt x / Int32.ofInt y * Int32.ofInt y)]
  exact k lsA H locs (I.tl.tl.pushI (jwr_ok _))
theorem j_ladd {x y : Int64} (C : jCtx E mi p l s m args meth c) (hd : decode (jmb mi) pc = .ok (.ladd, 1)) (k : jGo E mi p l e R s m args below meth c Q c0 s0 (pc + 1) ls (.inr (.inr (.long (x + y))) :: st) M) : jGo E mi p l e R s m args below meth c Q c0 s0 pc ls (.inr (.inr (.long y)) :: .inr (.inr (.long x)) :: st) M := by
  intro lsA H locs I
  exact lv_ladd C.1 C.2.1 hd (k lsA H locs (I.tl.tl.push (v := .inr (.inr (.long (x + y)))) trivial rfl))
theorem j_lsub {x y : Int64} (C : jCtx E mi p l s m args meth c) (hd : decode (jmb mi) pc = .ok (.lsub, 1)) (k : jGo E mi p l e R s m args below meth c Q c0 s0 (pc + 1) ls (.inr (.inr (.long (x - y))) :: st) M) : jGo E mi p l e R s m args below meth c Q c0 s0 pc ls (.inr (.inr (.long y)) :: .inr (.inr (.long x)) :: st) M := by
  intro lsA H locs I
  exact lv_lsub C.1 C.2.1 hd (k lsA H locs (I.tl.tl.push (v := .inr (.inr (.long (x - y)))) trivial rfl))
theorem j_lmul {x y : Int64} (C : jCtx E mi p l s m args meth c) (hd : decode (jmb mi) pc = .ok (.lmul, 1)) (k : jGo E mi p l e R s m args below meth c Q c0 s0 (pc + 1) ls (.inr (.inr (.long (x * y))) :: st) M) : jGo E mi p l e R s m args below meth c Q c0 s0 pc ls (.inr (.inr (.long y)) :: .inr (.inr (.long x)) :: st) M := by
  intro lsA H locs I
  exact lv_lmul C.1 C.2.1 hd (k lsA H locs (I.tl.tl.push (v := .inr (.inr (.long (x * y)))) trivial rfl))
theorem j_l2i {x : Int64} (C : jCtx E mi p l s m args meth c) (hd : decode (jmb mi) pc = .ok (.l2i, 1)) (k : jGo E mi p l e R s m args below meth c Q c0 s0 (pc + 1) ls (.inl x.toInt32.toInt :: st) M) : jGo E mi p l e R s m args below meth c Q c0 s0 pc ls (.inr (.inr (.long x)) :: st) M := by
  intro lsA H locs I
  exact lv_l2i C.1 C.2.1 hd (v := Int32.ofInt x.toInt32.toInt) (jof_toInt _).symm (k lsA H locs (I.tl.pushI (jwr_ok _)))
theorem j_dup_x1 {v w : JV} (C : jCtx E mi p l s m args meth c) (hd : decode (jmb mi) pc = .ok (.dup_x1, 1)) (hc : jc2 v = false) (hc2 : jc2 w = false) (k : jGo E mi p l e R s m args below meth c Q c0 s0 (pc + 1) ls (v :: w :: v :: st) M) : jGo E mi p l e R s m args below meth c Q c0 s0 pc ls (v :: w :: st) M := by
  intro lsA H locs I
  exact lv_dup_x1 C.1 C.2.1 hd (jval_c2 hc) (jval_c2 hc2) (k lsA H locs (((I.tl.tl.push I.hd.1 I.hd.2).push I.tl.hd.1 I.tl.hd.2).push I.hd.1 I.hd.2))
theorem j_castN {n : Nat} (C : jCtx E mi p l s m args meth c) (hd : decode (jmb mi) pc = .ok (.checkcast n, 3)) (k : jGo E mi p l e R s m args below meth c Q c0 s0 (pc + 3) ls (.inr (.inr .null) :: st) M) : jGo E mi p l e R s m args below meth c Q c0 s0 pc ls (.inr (.inr .null) :: st) M := by
  intro lsA H locs I
  exact lv_castN C.1 C.2.1 hd (k lsA H locs I)
theorem j_iadd {x y : Int} (C : jCtx E mi p l s m args meth c) (hd : decode (jmb mi) pc = .ok (.iadd, 1)) (k : jGo E mi p l e R s m args below meth c Q c0 s0 (pc + 1) ls (.inl (wr (x + y)) :: st) M) : jGo E mi p l e R s m args below meth c Q c0 s0 pc ls (.inl y :: .inl x :: st) M := by
  intro lsA H locs I
  refine lv_iadd C.1 C.2.1 hd ?_
  rw [jofi_add]
  exact k lsA H locs (I.tl.tl.pushI (jwr_rng _))
theorem j_isub {x y : Int} (C : jCtx E mi p l s m args meth c) (hd : decode (jmb mi) pc = .ok (.isub, 1)) (k : jGo E mi p l e R s m args below meth c Q c0 s0 (pc + 1) ls (.inl (wr (x - y)) :: st) M) : jGo E mi p l e R s m args below meth c Q c0 s0 pc ls (.inl y :: .inl x :: st) M := by
  intro lsA H locs I
  refine lv_isub C.1 C.2.1 hd ?_
  rw [jofi_sub]
  exact k lsA H locs (I.tl.tl.pushI (jwr_rng _))
theorem j_imul {x y : Int} (C : jCtx E mi p l s m args meth c) (hd : decode (jmb mi) pc = .ok (.imul, 1)) (k : jGo E mi p l e R s m args below meth c Q c0 s0 (pc + 1) ls (.inl (wr (x * y)) :: st) M) : jGo E mi p l e R s m args below meth c Q c0 s0 pc ls (.inl y :: .inl x :: st) M := by
  intro lsA H locs I
  refine lv_imul C.1 C.2.1 hd ?_
  rw [jofi_mul]
  exact k lsA H locs (I.tl.tl.pushI (jwr_rng _))
theorem j_iand {x y : Int} (C : jCtx E mi p l s m args meth c) (hd : decode (jmb mi) pc = .ok (.iand, 1)) (k : jGo E mi p l e R s m args below meth c Q c0 s0 (pc + 1) ls (.inl (jand x y) :: st) M) : jGo E mi p l e R s m args below meth c Q c0 s0 pc ls (.inl y :: .inl x :: st) M := by
  intro lsA H locs I
  refine lv_iand C.1 C.2.1 hd ?_
  rw [← jof_toInt (Int32.ofInt x &&& Int32.ofInt y)]
  exact k lsA H locs (I.tl.tl.pushI (jwr_ok _))
theorem j_ishr {x y : Int} (C : jCtx E mi p l s m args meth c) (hd : decode (jmb mi) pc = .ok (.ishr, 1)) (k : jGo E mi p l e R s m args below meth c Q c0 s0 (pc + 1) ls (.inl (jshr x y) :: st) M) : jGo E mi p l e R s m args below meth c Q c0 s0 pc ls (.inl y :: .inl x :: st) M := by
  intro lsA H locs I
  refine lv_ishr C.1 C.2.1 hd ?_
  rw [← jof_toInt (Int32.ofInt x >>> (Int32.ofInt y &&& 31))]
  exact k lsA H locs (I.tl.tl.pushI (jwr_ok _))
theorem j_iushr {x y : Int} (C : jCtx E mi p l s m args meth c) (hd : decode (jmb mi) pc = .ok (.iushr, 1)) (k : jGo E mi p l e R s m args below meth c Q c0 s0 (pc + 1) ls (.inl (jushr x y) :: st) M) : jGo E mi p l e R s m args below meth c Q c0 s0 pc ls (.inl y :: .inl x :: st) M := by
  intro lsA H locs I
  exact lv_iushr C.1 C.2.1 hd (v := Int32.ofInt (jushr x y)) (jof_toInt _).symm (k lsA H locs (I.tl.tl.pushI (jwr_ok _)))
theorem j_i2b {x : Int} (C : jCtx E mi p l s m args meth c) (hd : decode (jmb mi) pc = .ok (.i2b, 1)) (k : jGo E mi p l e R s m args below meth c Q c0 s0 (pc + 1) ls (.inl (jb8 x) :: st) M) : jGo E mi p l e R s m args below meth c Q c0 s0 pc ls (.inl x :: st) M := by
  intro lsA H locs I
  exact lv_i2b C.1 C.2.1 hd (v := Int32.ofInt (jb8 x)) (jof_toInt _).symm (k lsA H locs (I.tl.pushI (jwr_ok _)))
theorem j_i2c {x : Int} (C : jCtx E mi p l s m args meth c) (hd : decode (jmb mi) pc = .ok (.i2c, 1)) (k : jGo E mi p l e R s m args below meth c Q c0 s0 (pc + 1) ls (.inl (jc16 x) :: st) M) : jGo E mi p l e R s m args below meth c Q c0 s0 pc ls (.inl x :: st) M := by
  intro lsA H locs I
  exact lv_i2c C.1 C.2.1 hd (v := Int32.ofInt (jc16 x)) (jof_toInt _).symm (k lsA H locs (I.tl.pushI (jwr_ok _)))
theorem j_i2l {x : Int} (C : jCtx E mi p l s m args meth c) (hd : decode (jmb mi) pc = .ok (.i2l, 1)) (k : jGo E mi p l e R s m args below meth c Q c0 s0 (pc + 1) ls (.inr (.inr (.long (Int32.ofInt x).toInt64)) :: st) M) : jGo E mi p l e R s m args below meth c Q c0 s0 pc ls (.inl x :: st) M := by
  intro lsA H locs I
  exact lv_i2l C.1 C.2.1 hd rfl (k lsA H locs (I.tl.push trivial rfl))
theorem j_lcmp {x y : Int64} (C : jCtx E mi p l s m args meth c) (hd : decode (jmb mi) pc = .ok (.lcmp, 1)) (k : jGo E mi p l e R s m args below meth c Q c0 s0 (pc + 1) ls (.inl (lg_cmp x y).toInt :: st) M) : jGo E mi p l e R s m args below meth c Q c0 s0 pc ls (.inr (.inr (.long y)) :: .inr (.inr (.long x)) :: st) M := by
  intro lsA H locs I
  refine W.lcmp C.1 C.2.1 hd ?_
  have h := k lsA H locs (I.tl.tl.pushI (jwr_ok _))
  rw [show List.map (jval E) (Sum.inl (lg_cmp x y).toInt :: st) = Value.int (Int32.ofInt (lg_cmp x y).toInt) :: st.map (jval E) from rfl, jof_toInt] at h
  exact h
theorem j_dup {v : JV} (C : jCtx E mi p l s m args meth c) (hd : decode (jmb mi) pc = .ok (.dup, 1)) (hc : jc2 v = false) (k : jGo E mi p l e R s m args below meth c Q c0 s0 (pc + 1) ls (v :: v :: st) M) : jGo E mi p l e R s m args below meth c Q c0 s0 pc ls (v :: st) M := by
  intro lsA H locs I
  exact lv_dup C.1 C.2.1 hd (jval_c2 hc) (k lsA H locs (I.push I.hd.1 I.hd.2))
theorem j_dup2 {v w : JV} (C : jCtx E mi p l s m args meth c) (hd : decode (jmb mi) pc = .ok (.dup2, 1)) (hc : jc2 v = false) (hc2 : jc2 w = false) (k : jGo E mi p l e R s m args below meth c Q c0 s0 (pc + 1) ls (v :: w :: v :: w :: st) M) : jGo E mi p l e R s m args below meth c Q c0 s0 pc ls (v :: w :: st) M := by
  intro lsA H locs I
  exact lv_dup2_11 C.1 C.2.1 hd (jval_c2 hc) (jval_c2 hc2) (k lsA H locs ((I.push I.tl.hd.1 I.tl.hd.2).push I.hd.1 I.hd.2))
theorem j_pop {v : JV} (C : jCtx E mi p l s m args meth c) (hd : decode (jmb mi) pc = .ok (.pop, 1)) (hc : jc2 v = false) (k : jGo E mi p l e R s m args below meth c Q c0 s0 (pc + 1) ls (st) M) : jGo E mi p l e R s m args below meth c Q c0 s0 pc ls (v :: st) M := by
  intro lsA H locs I
  exact lv_pop C.1 C.2.1 hd (jval_c2 hc) (k lsA H locs I.tl)
theorem j_goto {off : Int} {a : Nat} (C : jCtx E mi p l s m args meth c) (hd : decode (jmb mi) pc = .ok (.goto off, 3)) (ht : (pc : Int) + off = (a : Int)) (k : jGo E mi p l e R s m args below meth c Q c0 s0 (a) ls (st) M) : jGo E mi p l e R s m args below meth c Q c0 s0 pc ls (st) M := by
  intro lsA H locs I
  exact lv_goto C.1 C.2.1 hd ht (k lsA H locs I)
theorem j_ifnull {off : Int} {i : Nat} (C : jCtx E mi p l s m args meth c) (hd : decode (jmb mi) pc = .ok (.ifnull off, 3)) (k : jGo E mi p l e R s m args below meth c Q c0 s0 (pc + 3) ls (st) M) : jGo E mi p l e R s m args below meth c Q c0 s0 pc ls (.inr (.inl i) :: st) M := by
  intro lsA H locs I
  exact lv_ifnull C.1 C.2.1 hd (k lsA H locs I.tl)
theorem j_ifnonnull {off : Int} {i a : Nat} (C : jCtx E mi p l s m args meth c) (hd : decode (jmb mi) pc = .ok (.ifnonnull off, 3)) (ht : (pc : Int) + off = (a : Int)) (k : jGo E mi p l e R s m args below meth c Q c0 s0 (a) ls (st) M) : jGo E mi p l e R s m args below meth c Q c0 s0 pc ls (.inr (.inl i) :: st) M := by
  intro lsA H locs I
  exact lv_ifnonnull C.1 C.2.1 hd ht (k lsA H locs I.tl)
theorem j_ifnullN {off : Int} {a : Nat} (C : jCtx E mi p l s m args meth c) (hd : decode (jmb mi) pc = .ok (.ifnull off, 3)) (ht : (pc : Int) + off = (a : Int)) (k : jGo E mi p l e R s m args below meth c Q c0 s0 (a) ls (st) M) : jGo E mi p l e R s m args below meth c Q c0 s0 pc ls (.inr (.inr .null) :: st) M := by
  intro lsA H locs I
  exact lv_ifnullN C.1 C.2.1 hd ht (k lsA H locs I.tl)
theorem j_ifnonnullN {off : Int} (C : jCtx E mi p l s m args meth c) (hd : decode (jmb mi) pc = .ok (.ifnonnull off, 3)) (k : jGo E mi p l e R s m args below meth c Q c0 s0 (pc + 3) ls (st) M) : jGo E mi p l e R s m args below meth c Q c0 s0 pc ls (.inr (.inr .null) :: st) M := by
  intro lsA H locs I
  exact lv_ifnonnullN C.1 C.2.1 hd (k lsA H locs I.tl)
theorem j_ifCond_eq {x : Int} {off : Int} {a : Nat} (C : jCtx E mi p l s m args meth c) (hd : decode (jmb mi) pc = .ok (.ifCond .eq off, 3)) (ht : (pc : Int) + off = (a : Int)) (k1 : jcond .eq x 0 = true → jGo E mi p l e R s m args below meth c Q c0 s0 a ls st M) (k2 : jcond .eq x 0 = false → jGo E mi p l e R s m args below meth c Q c0 s0 (pc + 3) ls st M) : jGo E mi p l e R s m args below meth c Q c0 s0 pc ls (.inl x :: st) M := by
  intro lsA H locs I
  have hy : jok (.inl 0) := jok0
  have hx : jok (.inl x) := I.hd.1
  have hiff := jeq_iff hx hy
  rw [jof0] at hiff
  refine lv_if_eq C.1 C.2.1 hd ht (fun h => k1 ?_ lsA H locs I.tl) (fun h => k2 ?_ lsA H locs I.tl)
  · exact decide_eq_true (hiff.mp h)
  · exact decide_eq_false (fun q => h (hiff.mpr q))
theorem j_if_icmp_eq {x y : Int} {off : Int} {a : Nat} (C : jCtx E mi p l s m args meth c) (hd : decode (jmb mi) pc = .ok (.if_icmp .eq off, 3)) (ht : (pc : Int) + off = (a : Int)) (k1 : jcond .eq x y = true → jGo E mi p l e R s m args below meth c Q c0 s0 a ls st M) (k2 : jcond .eq x y = false → jGo E mi p l e R s m args below meth c Q c0 s0 (pc + 3) ls st M) : jGo E mi p l e R s m args below meth c Q c0 s0 pc ls (.inl y :: .inl x :: st) M := by
  intro lsA H locs I
  have hy : jok (.inl y) := I.hd.1
  have hx : jok (.inl x) := I.tl.hd.1
  have hiff := jeq_iff hx hy
  refine lv_icmp_eq C.1 C.2.1 hd ht (fun h => k1 ?_ lsA H locs I.tl.tl) (fun h => k2 ?_ lsA H locs I.tl.tl)
  · exact decide_eq_true (hiff.mp h)
  · exact decide_eq_false (fun q => h (hiff.mpr q))
theorem j_ifCond_ne {x : Int} {off : Int} {a : Nat} (C : jCtx E mi p l s m args meth c) (hd : decode (jmb mi) pc = .ok (.ifCond .ne off, 3)) (ht : (pc : Int) + off = (a : Int)) (k1 : jcond .ne x 0 = true → jGo E mi p l e R s m args below meth c Q c0 s0 a ls st M) (k2 : jcond .ne x 0 = false → jGo E mi p l e R s m args below meth c Q c0 s0 (pc + 3) ls st M) : jGo E mi p l e R s m args below meth c Q c0 s0 pc ls (.inl x :: st) M := by
  intro lsA H locs I
  have hy : jok (.inl 0) := jok0
  have hx : jok (.inl x) := I.hd.1
  have hiff := jeq_iff hx hy
  rw [jof0] at hiff
  refine lv_if_ne C.1 C.2.1 hd ht (fun h => k1 ?_ lsA H locs I.tl) (fun h => k2 ?_ lsA H locs I.tl)
  · exact decide_eq_true (fun q => h (hiff.mpr q))
  · exact decide_eq_false (fun q => q (hiff.mp h))
theorem j_if_icmp_ne {x y : Int} {off : Int} {a : Nat} (C : jCtx E mi p l s m args meth c) (hd : decode (jmb mi) pc = .ok (.if_icmp .ne off, 3)) (ht : (pc : Int) + off = (a : Int)) (k1 : jcond .ne x y = true → jGo E mi p l e R s m args below meth c Q c0 s0 a ls st M) (k2 : jcond .ne x y = false → jGo E mi p l e R s m args below meth c Q c0 s0 (pc + 3) ls st M) : jGo E mi p l e R s m args below meth c Q c0 s0 pc ls (.inl y :: .inl x :: st) M := by
  intro lsA H locs I
  have hy : jok (.inl y) := I.hd.1
  have hx : jok (.inl x) := I.tl.hd.1
  have hiff := jeq_iff hx hy
  refine lv_icmp_ne C.1 C.2.1 hd ht (fun h => k1 ?_ lsA H locs I.tl.tl) (fun h => k2 ?_ lsA H locs I.tl.tl)
  · exact decide_eq_true (fun q => h (hiff.mpr q))
  · exact decide_eq_false (fun q => q (hiff.mp h))
theorem j_ifCond_lt {x : Int} {off : Int} {a : Nat} (C : jCtx E mi p l s m args meth c) (hd : decode (jmb mi) pc = .ok (.ifCond .lt off, 3)) (ht : (pc : Int) + off = (a : Int)) (k1 : jcond .lt x 0 = true → jGo E mi p l e R s m args below meth c Q c0 s0 a ls st M) (k2 : jcond .lt x 0 = false → jGo E mi p l e R s m args below meth c Q c0 s0 (pc + 3) ls st M) : jGo E mi p l e R s m args below meth c Q c0 s0 pc ls (.inl x :: st) M := by
  intro lsA H locs I
  have hy : jok (.inl 0) := jok0
  have hx : jok (.inl x) := I.hd.1
  have hiff := jlt_iff hx hy
  rw [jof0] at hiff
  refine lv_if_lt C.1 C.2.1 hd ht (fun h => k1 ?_ lsA H locs I.tl) (fun h => k2 ?_ lsA H locs I.tl)
  · exact decide_eq_true (hiff.mp h)
  · exact decide_eq_false (fun q => h (hiff.mpr q))
theorem j_if_icmp_lt {x y : Int} {off : Int} {a : Nat} (C : jCtx E mi p l s m args meth c) (hd : decode (jmb mi) pc = .ok (.if_icmp .lt off, 3)) (ht : (pc : Int) + off = (a : Int)) (k1 : jcond .lt x y = true → jGo E mi p l e R s m args below meth c Q c0 s0 a ls st M) (k2 : jcond .lt x y = false → jGo E mi p l e R s m args below meth c Q c0 s0 (pc + 3) ls st M) : jGo E mi p l e R s m args below meth c Q c0 s0 pc ls (.inl y :: .inl x :: st) M := by
  intro lsA H locs I
  have hy : jok (.inl y) := I.hd.1
  have hx : jok (.inl x) := I.tl.hd.1
  have hiff := jlt_iff hx hy
  refine lv_icmp_lt C.1 C.2.1 hd ht (fun h => k1 ?_ lsA H locs I.tl.tl) (fun h => k2 ?_ lsA H locs I.tl.tl)
  · exact decide_eq_true (hiff.mp h)
  · exact decide_eq_false (fun q => h (hiff.mpr q))
theorem j_ifCond_ge {x : Int} {off : Int} {a : Nat} (C : jCtx E mi p l s m args meth c) (hd : decode (jmb mi) pc = .ok (.ifCond .ge off, 3)) (ht : (pc : Int) + off = (a : Int)) (k1 : jcond .ge x 0 = true → jGo E mi p l e R s m args below meth c Q c0 s0 a ls st M) (k2 : jcond .ge x 0 = false → jGo E mi p l e R s m args below meth c Q c0 s0 (pc + 3) ls st M) : jGo E mi p l e R s m args below meth c Q c0 s0 pc ls (.inl x :: st) M := by
  intro lsA H locs I
  have hy : jok (.inl 0) := jok0
  have hx : jok (.inl x) := I.hd.1
  have hiff := jle_iff hy hx
  rw [jof0] at hiff
  refine lv_if_ge C.1 C.2.1 hd ht (fun h => k1 ?_ lsA H locs I.tl) (fun h => k2 ?_ lsA H locs I.tl)
  · exact decide_eq_true (hiff.mp h)
  · exact decide_eq_false (fun q => h (hiff.mpr q))
theorem j_if_icmp_ge {x y : Int} {off : Int} {a : Nat} (C : jCtx E mi p l s m args meth c) (hd : decode (jmb mi) pc = .ok (.if_icmp .ge off, 3)) (ht : (pc : Int) + off = (a : Int)) (k1 : jcond .ge x y = true → jGo E mi p l e R s m args below meth c Q c0 s0 a ls st M) (k2 : jcond .ge x y = false → jGo E mi p l e R s m args below meth c Q c0 s0 (pc + 3) ls st M) : jGo E mi p l e R s m args below meth c Q c0 s0 pc ls (.inl y :: .inl x :: st) M := by
  intro lsA H locs I
  have hy : jok (.inl y) := I.hd.1
  have hx : jok (.inl x) := I.tl.hd.1
  have hiff := jle_iff hy hx
  refine lv_icmp_ge C.1 C.2.1 hd ht (fun h => k1 ?_ lsA H locs I.tl.tl) (fun h => k2 ?_ lsA H locs I.tl.tl)
  · exact decide_eq_true (hiff.mp h)
  · exact decide_eq_false (fun q => h (hiff.mpr q))
theorem j_ifCond_gt {x : Int} {off : Int} {a : Nat} (C : jCtx E mi p l s m args meth c) (hd : decode (jmb mi) pc = .ok (.ifCond .gt off, 3)) (ht : (pc : Int) + off = (a : Int)) (k1 : jcond .gt x 0 = true → jGo E mi p l e R s m args below meth c Q c0 s0 a ls st M) (k2 : jcond .gt x 0 = false → jGo E mi p l e R s m args below meth c Q c0 s0 (pc + 3) ls st M) : jGo E mi p l e R s m args below meth c Q c0 s0 pc ls (.inl x :: st) M := by
  intro lsA H locs I
  have hy : jok (.inl 0) := jok0
  have hx : jok (.inl x) := I.hd.1
  have hiff := jlt_iff hy hx
  rw [jof0] at hiff
  refine lv_if_gt C.1 C.2.1 hd ht (fun h => k1 ?_ lsA H locs I.tl) (fun h => k2 ?_ lsA H locs I.tl)
  · exact decide_eq_true (hiff.mp h)
  · exact decide_eq_false (fun q => h (hiff.mpr q))
theorem j_if_icmp_gt {x y : Int} {off : Int} {a : Nat} (C : jCtx E mi p l s m args meth c) (hd : decode (jmb mi) pc = .ok (.if_icmp .gt off, 3)) (ht : (pc : Int) + off = (a : Int)) (k1 : jcond .gt x y = true → jGo E mi p l e R s m args below meth c Q c0 s0 a ls st M) (k2 : jcond .gt x y = false → jGo E mi p l e R s m args below meth c Q c0 s0 (pc + 3) ls st M) : jGo E mi p l e R s m args below meth c Q c0 s0 pc ls (.inl y :: .inl x :: st) M := by
  intro lsA H locs I
  have hy : jok (.inl y) := I.hd.1
  have hx : jok (.inl x) := I.tl.hd.1
  have hiff := jlt_iff hy hx
  refine lv_icmp_gt C.1 C.2.1 hd ht (fun h => k1 ?_ lsA H locs I.tl.tl) (fun h => k2 ?_ lsA H locs I.tl.tl)
  · exact decide_eq_true (hiff.mp h)
  · exact decide_eq_false (fun q => h (hiff.mpr q))
theorem j_ifCond_le {x : Int} {off : Int} {a : Nat} (C : jCtx E mi p l s m args meth c) (hd : decode (jmb mi) pc = .ok (.ifCond .le off, 3)) (ht : (pc : Int) + off = (a : Int)) (k1 : jcond .le x 0 = true → jGo E mi p l e R s m args below meth c Q c0 s0 a ls st M) (k2 : jcond .le x 0 = false → jGo E mi p l e R s m args below meth c Q c0 s0 (pc + 3) ls st M) : jGo E mi p l e R s m args below meth c Q c0 s0 pc ls (.inl x :: st) M := by
  intro lsA H locs I
  have hy : jok (.inl 0) := jok0
  have hx : jok (.inl x) := I.hd.1
  have hiff := jle_iff hx hy
  rw [jof0] at hiff
  refine lv_if_le C.1 C.2.1 hd ht (fun h => k1 ?_ lsA H locs I.tl) (fun h => k2 ?_ lsA H locs I.tl)
  · exact decide_eq_true (hiff.mp h)
  · exact decide_eq_false (fun q => h (hiff.mpr q))
theorem j_if_icmp_le {x y : Int} {off : Int} {a : Nat} (C : jCtx E mi p l s m args meth c) (hd : decode (jmb mi) pc = .ok (.if_icmp .le off, 3)) (ht : (pc : Int) + off = (a : Int)) (k1 : jcond .le x y = true → jGo E mi p l e R s m args below meth c Q c0 s0 a ls st M) (k2 : jcond .le x y = false → jGo E mi p l e R s m args below meth c Q c0 s0 (pc + 3) ls st M) : jGo E mi p l e R s m args below meth c Q c0 s0 pc ls (.inl y :: .inl x :: st) M := by
  intro lsA H locs I
  have hy : jok (.inl y) := I.hd.1
  have hx : jok (.inl x) := I.tl.hd.1
  have hiff := jle_iff hx hy
  refine lv_icmp_le C.1 C.2.1 hd ht (fun h => k1 ?_ lsA H locs I.tl.tl) (fun h => k2 ?_ lsA H locs I.tl.tl)
  · exact decide_eq_true (hiff.mp h)
  · exact decide_eq_false (fun q => h (hiff.mpr q))
end J10
/-- the words of the classes -/
def jcwk (a : Nat) : Bool := (u_ws (jclsn a) (fun k => jfd a k) (jfields a).length).all (fun w => decide (w ∈ lw_tbl2) && goodWord w) && decide (Cond.instantiable (jclsn a) (jfields a).length ∈ lw_tbl2) && goodWord (Cond.instantiable (jclsn a) (jfields a).length) && decide (Cond.initialized (jclsn a) ∈ lw_tbl2) && goodWord (Cond.initialized (jclsn a))
theorem jcwk_all : (List.range 16).all jcwk = true := by decide +kernel
theorem jcw {a : Nat} (ha : a < 16) : (∀ w ∈ u_ws (jclsn a) (fun k => jfd a k) (jfields a).length, w ∈ jgood) ∧ Cond.instantiable (jclsn a) (jfields a).length ∈ jgood ∧ Cond.initialized (jclsn a) ∈ jgood := by
  have h := List.all_eq_true.mp jcwk_all a (List.mem_range.mpr ha)
  unfold jcwk at h
  simp only [Bool.and_eq_true, List.all_eq_true, decide_eq_true_eq] at h
  obtain ⟨⟨⟨⟨h1, h2⟩, h3⟩, h4⟩, h5⟩ := h
  exact ⟨fun w hw => List.mem_filter.mpr ⟨(h1 w hw).1, (h1 w hw).2⟩, List.mem_filter.mpr ⟨h2, h3⟩, List.mem_filter.mpr ⟨h4, h5⟩⟩
def jty (a k : Nat) : FieldType := (parseFieldDescriptor (jfd a k).2.2.1).getD .int
def jtyk (t : FieldType) : Nat := match t with
  | .int => 0
  | .boolean => 1
  | .byte => 3
  | .object _ => 2
  | .array _ => 2
  | _ => 9
def jfck (a : Nat) : Bool := (List.range (jfields a).length).all fun k => decide (parseFieldDescriptor (jfd a k).2.2.1 = some (jty a k)) && decide (jtyk (jty a k) = jkd (jfd a k).2.2.1) && (List.range (jfields a).length).all fun j => decide (k = j) || decide ((jfd a k).2.1 ≠ (jfd a j).2.1)
theorem jfck_all : (List.range 16).all jfck = true := by decide +kernel
theorem jfc {a : Nat} (ha : a < 16) : (∀ k, k < (jfields a).length → parseFieldDescriptor (jfd a k).2.2.1 = some (jty a k)) ∧ (∀ k, k < (jfields a).length → jtyk (jty a k) = jkd (jfd a k).2.2.1) ∧ (∀ x, x < (jfields a).length → ∀ y, y < (jfields a).length → x ≠ y → (jfd a x).2.1 ≠ (jfd a y).2.1) := by
  have h := List.all_eq_true.mp jfck_all a (List.mem_range.mpr ha)
  unfold jfck at h
  simp only [Bool.and_eq_true, List.all_eq_true, decide_eq_true_eq, List.mem_range, Bool.or_eq_true] at h
  exact ⟨fun k hk => (h k hk).1.1, fun k hk => (h k hk).1.2, fun x hx y hy hxy => ((h x hx).2 y hy).resolve_left hxy⟩
theorem jdef_val {E : JE} {a k : Nat} (ha : a < 16) (hk : k < (jfields a).length) : defaultValue (jty a k) = jval E (jdef a k) := by
  have h := (jfc ha).2.1 k hk
  unfold jdef
  unfold jfd at h
  by_cases h2 : jkd ((jfields a).getD k ("", "", "", false)).2.2.1 = 2
  · rw [if_pos h2]
    rw [h2] at h
    cases hq : jty a k <;> rw [hq] at h <;> first | rfl | cases h
  · rw [if_neg h2]
    cases hq : jty a k <;> rw [hq] at h <;> first | rfl | exact absurd h.symm h2 | (unfold jkd at h; split at h <;> first | cases h | (split at h <;> first | cases h | (split at h <;> cases h)))
theorem jfits_b {z : Int} (h : -128 ≤ z ∧ z ≤ 127) : Jvm.fits .byte (.int (Int32.ofInt z)) = true := by
  show (decide (-128 ≤ Int32.ofInt z) && decide (Int32.ofInt z ≤ 127)) = true
  rw [Bool.and_eq_true, decide_eq_true_eq, decide_eq_true_eq, Int32.le_iff_toInt_le, Int32.le_iff_toInt_le, jofi (by omega)]
  exact ⟨h.1, h.2⟩
theorem jfit_ok {E : JE} {a k : Nat} {v : JV} (ha : a < 16) (hk : k < (jfields a).length) (hv : jfit (jkd (jfd a k).2.2.1) v = true) : narrow (jty a k) (jval E v) = jval E v ∧ Jvm.fits (jty a k) (jval E v) = true := by
  have h := (jfc ha).2.1 k hk
  rw [← h] at hv
  cases hq : jty a k <;> rw [hq] at hv
  case int => rcases v with z | z | z <;> first | exact ⟨rfl, rfl⟩ | cases hv
  case boolean =>
    rcases v with z | z | z
    · simp only [jtyk, jfit, Bool.or_eq_true, beq_iff_eq] at hv
      rcases hv with rfl | rfl
      · exact ⟨by show narrow .boolean (.int (Int32.ofInt 0)) = .int (Int32.ofInt 0); decide +kernel, by show Jvm.fits .boolean (.int (Int32.ofInt 0)) = true; decide +kernel⟩
      · exact ⟨by show narrow .boolean (.int (Int32.ofInt 1)) = .int (Int32.ofInt 1); decide +kernel, by show Jvm.fits .boolean (.int (Int32.ofInt 1)) = true; decide +kernel⟩
    · cases hv
    · cases hv
  case object => rcases v with z | z | z <;> first | exact ⟨rfl, rfl⟩ | cases hv | (cases z <;> first | exact ⟨rfl, rfl⟩ | cases hv)
  case array => rcases v with z | z | z <;> first | exact ⟨rfl, rfl⟩ | cases hv | (cases z <;> first | exact ⟨rfl, rfl⟩ | cases hv)
  case byte =>
    rcases v with z | z | z
    · have hz : -128 ≤ z ∧ z ≤ 127 := of_decide_eq_true hv
      have e : narrow .byte (.int (Int32.ofInt z)) = .int (Int32.ofInt z) := by
        show Value.int (Int32.ofInt z).toInt8.toInt32 = Value.int (Int32.ofInt z)
        congr 1
        apply Int32.toInt_inj.mp
        rw [Int8.toInt_toInt32, Int32.toInt_toInt8, jofi (by omega), Int.bmod_eq_of_le (by omega) (by omega)]
      exact ⟨e, jfits_b hz⟩
    · cases hv
    · cases hv
  all_goals (rcases v with z | z | z <;> cases hv)
/-- a value is written into a cell -/
theorem jRel_set {E : JE} {M : JM} {H H1 : Heap} (h : jRel E M H) {i b t n : Nat} {v : JV} (hs : jsh M i = some (t, n)) (hv : jok v) (hc : jcellAt E (jB E + i) t n (updV (fun k => jval E (jget M i k)) b (jval E v)) H1) (z : H1.size = H.size) (o : ∀ q : Nat, q ≠ jB E + i → H1[q]? = H[q]?) : jRel E (jset M i b v) H1 := by
  refine ⟨fun j t1 n1 hj => ?_, fun c => z.trans (h.2.1 c), h.2.2⟩
  have hj' : jsh M j = some (t1, n1) := hj
  obtain ⟨h1, h2, h3⟩ := h.1 j t1 n1 hj'
  by_cases hij : j = i
  · subst hij
    rw [hs] at hj'
    cases hj'
    refine ⟨jcellAt_to hc fun k hk => ?_, fun k hk => ?_, h3⟩
    · unfold updV jget jset
      simp only [true_and]
      split <;> rfl
    · unfold jget jset
      simp only [true_and]
      split
      · exact hv
      · exact h2 k hk
  · have e : ∀ k, jget (jset M i b v) j k = jget M j k := fun k => by
      unfold jget jset
      simp [hij]
    refine ⟨jcellAt_to (jcellAt_kept h1 (o _ (by omega))) fun k _ => by rw [e], fun k hk => by rw [e]; exact h2 k hk, h3⟩
/-- a cell is made -/
theorem jRel_push {E : JE} {M : JM} {H H1 : Heap} (h : jRel E M H) (hcl : jclean M = true) {t n : Nat} {f : Nat → JV} (hf : ∀ k, k < n → jok (f k)) (hn : n < 2147483648) (hc : jcellAt E H.size t n (fun k => jval E (f k)) H1) (z : H1.size = H.size + 1) (o : ∀ q : Nat, q < H.size → H1[q]? = H[q]?) : jRel E (jpush M t n f) H1 := by
  have hz := h.2.1 hcl
  refine ⟨fun j t1 n1 hj => ?_, fun _ => ?_, h.2.2⟩
  · unfold jsh jpush at hj
    by_cases hl : j < M.1.length
    · rw [List.getElem?_append_left hl] at hj
      obtain ⟨h1, h2, h3⟩ := h.1 j t1 n1 hj
      have e : ∀ k, jget (jpush M t n f) j k = jget M j k := fun k => by
        unfold jget jpush
        simp [show j ≠ M.1.length by omega]
      exact ⟨jcellAt_to (jcellAt_kept h1 (o _ (jcellAt_lt h1))) fun k _ => by rw [e], fun k hk => by rw [e]; exact h2 k hk, h3⟩
    · have hjl : j = M.1.length := by
        rw [List.getElem?_append_right (by omega)] at hj
        have := (List.getElem?_eq_some_iff.mp hj).1
        simp at this
        omega
      subst hjl
      rw [List.getElem?_append_right (Nat.le_refl _), Nat.sub_self] at hj
      cases hj
      have e : ∀ k, jget (jpush M t n f) M.1.length k = f k := fun k => by
        unfold jget jpush
        simp
      refine ⟨?_, fun k hk => by rw [e]; exact hf k hk, hn⟩
      rw [← hz]
      exact jcellAt_to hc fun k _ => by rw [e]
  · show H1.size = jB E + (M.1 ++ [(t, n)]).length
    rw [z, hz]; simp; omega
section J10M
variable {E : JE} {mi : Nat} {p : Program} {l : Launch} {e : Env} {R : Room} {s : State} {m : MethodId} {args : Array Value} {below : List Frame} {meth : Method} {c : Code} {Q : State → Prop} {c0 s0 pc : Nat} {ls st : List JV} {M : JM}
theorem jsm_mod : Cond.sameField "java/util/ArrayList" "java/util/AbstractList" "modCount" "I" ∈ jgood := jtw_mem (w := 5156) (by decide +kernel)
theorem jsame_of {ref : String} {a b : Nat} (C : jCtx E mi p l s m args meth c) (hr : ref = (jfd a b).1 ∨ (a = 13 ∧ b = 0 ∧ ref = "java/util/ArrayList")) (x : ClassId × Class × Nat × Field) (h : s.fieldFound? (jfd a b).1 (jfd a b).2.1 (jfd a b).2.2.1 = some x) : s.fieldFound? ref (jfd a b).2.1 (jfd a b).2.2.1 = some x := by
  rcases hr with rfl | ⟨rfl, rfl, rfl⟩
  · exact h
  · exact u_same (C.2.2.2.2.1 _ jsm_mod) x h
theorem jcellP {i a nn : Nat} {lsA : Array Slot} {H : Heap} {locs : List Loc} {st0 : List JV} (I : jInv E mi s lsA H locs ls st0 M) (ha : a < 16) (hs : jsh M i = some (a, nn)) : nn = (jfields a).length ∧ va_P (jD E) jcl [(jB E + i, .inr (a, (List.range (jfields a).length).map (fun k => jval E (jget M i k))))] H := by
  obtain ⟨h1, h2, h3⟩ := I.2.1.1 i a nn hs
  unfold jcellAt at h1
  rw [if_pos ha] at h1
  obtain ⟨rfl, hOB⟩ := h1
  refine ⟨rfl, ?_⟩
  intro q x hx
  have hq : q = 0 := by have := (List.getElem?_eq_some_iff.mp hx).1; simp at this; exact this
  subst hq
  cases hx
  exact ⟨_, jcl_get ha, hOB.to fun k hk => by simp only [vp_V, List.getD_eq_getElem?_getD, List.getElem?_map, List.getElem?_range hk]; rfl⟩
theorem j_getfield {n i a b nn : Nat} {ref : String} (C : jCtx E mi p l s m args meth c) (hd : decode (jmb mi) pc = .ok (.getfield n, 3)) (hl : Cond.fieldLink (jnm mi).cls n ref (jfd a b).2.1 (jfd a b).2.2.1 ∈ jgood) (hr : ref = (jfd a b).1 ∨ (a = 13 ∧ b = 0 ∧ ref = "java/util/ArrayList")) (ha : a < 16) (hb : b < (jfields a).length) (hs : jsh M i = some (a, nn)) (hi : i < 1000000) (k : jGo E mi p l e R s m args below meth c Q c0 s0 (pc + 3) ls (jget M i b :: st) M) : jGo E mi p l e R s m args below meth c Q c0 s0 pc ls (.inr (.inl i) :: st) M := by
  intro lsA H locs I
  obtain ⟨rfl, hP⟩ := jcellP I ha hs
  have h2 := (I.2.1.1 i a _ hs).2.1
  have kk := k lsA H locs (I.tl.push (h2 b hb) (jkn_ok (h2 b hb)))
  show W p l e R s m args below meth c H locs _ _ Q (F0 m pc lsA (.ref (jad E i) :: st.map (jval E)))
  rw [jad_i hi]
  exact va_get C.1 C.2.1 (Ts := jgood) C.2.2.2.2.1 (jcw ha).1 C.2.2.2.1 C.2.2.2.2.2.1.1 hP 0 rfl (jcl_get ha) b hb (C.2.2.2.2.1 _ hl) (jsame_of C hr) (v := jval E (jget M i b)) (by simp [hb]) hd kk
theorem j_getfieldN {n i a b nn : Nat} (C : jCtx E mi p l s m args meth c) (hd : decode (jmb mi) pc = .ok (.getfield n, 3)) (hl : ((jnm mi).cls, n, a, b) ∈ jfnests) (ha : a < 16) (hb : b < (jfields a).length) (hs : jsh M i = some (a, nn)) (hi : i < 1000000) (k : jGo E mi p l e R s m args below meth c Q c0 s0 (pc + 3) ls (jget M i b :: st) M) : jGo E mi p l e R s m args below meth c Q c0 s0 pc ls (.inr (.inl i) :: st) M := by
  intro lsA H locs I
  obtain ⟨rfl, hP⟩ := jcellP I ha hs
  have h2 := (I.2.1.1 i a _ hs).2.1
  have kk := k lsA H locs (I.tl.push (h2 b hb) (jkn_ok (h2 b hb)))
  show W p l e R s m args below meth c H locs _ _ Q (F0 m pc lsA (.ref (jad E i) :: st.map (jval E)))
  rw [jad_i hi]
  exact va_getN C.1 C.2.1 (Ts := jgood) C.2.2.2.2.1 (jcw ha).1 C.2.2.2.1 C.2.2.2.2.2.1.1 hP 0 rfl (jcl_get ha) b hb (va_Nw.use (A := args) rfl (C.2.2.2.2.2.1.fnest _ hl)) (fun x h => h) (v := jval E (jget M i b)) (by simp [hb]) hd kk
theorem j_putfield {n i a b nn : Nat} {v : JV} {ref : String} (C : jCtx E mi p l s m args meth c) (hd : decode (jmb mi) pc = .ok (.putfield n, 3)) (hl : Cond.fieldLink (jnm mi).cls n ref (jfd a b).2.1 (jfd a b).2.2.1 ∈ jgood) (hr : ref = (jfd a b).1 ∨ (a = 13 ∧ b = 0 ∧ ref = "java/util/ArrayList")) (ha : a < 16) (hb : b < (jfields a).length) (hs : jsh M i = some (a, nn)) (hi : i < 1000000) (hfin : (jfd a b).2.2.2 = false ∨ ((jnm mi).name = "<init>" ∧ (jfd a b).1 = (jnm mi).cls)) (hfit : jfit (jkd (jfd a b).2.2.1) v = true) (k : jGo E mi p l e R s m args below meth c Q c0 s0 (pc + 3) ls st (jset M i b v)) : jGo E mi p l e R s m args below meth c Q c0 s0 pc ls (v :: .inr (.inl i) :: st) M := by
  intro lsA H locs I
  obtain ⟨h1, h2, h3⟩ := I.2.1.1 i a nn hs
  unfold jcellAt at h1
  rw [if_pos ha] at h1
  obtain ⟨rfl, cell, q1, q2, q3, q4⟩ := h1
  have hts := C.2.2.2.2.1
  have hown := C.2.2.2.1
  have hK := C.2.2.2.2.2.1.1
  have hin := (jcw ha).1
  have hcl := jcl_get ha
  have hap := va_apart (own := (jnm mi).cls) hts hin (jty a) (jfc ha).1 (jfc ha).2.2 hK hcl
  obtain ⟨hS, hfc, kC, hkC, hkind⟩ := hK.1 a _ hcl
  obtain ⟨cf, kf, fi, f, hi9, hsl⟩ := hS b hb
  have hlay := hts _ (hin _ (u_in_lay hb))
  have hst := (u_facts hfc hkC (u_lays hts hin hb) hi9).1
  obtain ⟨hn, hft⟩ := jfit_ok (E := E) ha hb hfit
  have hlink := hts _ hl
  have fin : ∀ H' : Heap, H'[jB E + i]? = some (cell.setSlot f.slot (jval E v)) → H'.size = H.size → (∀ q, q ≠ jB E + i → H'[q]? = H[q]?) → W p l e R s m args below meth c H' (locs ++ [⟨jB E + i, f.slot⟩]) (jcells M - c0) (jslots M - s0) Q (F0 m (pc + 3) lsA (st.map (jval E))) := by
    intro H' e1 e2 e3
    refine k lsA H' _ ⟨I.1, jRel_set I.2.1 hs I.hd.1 ?_ e2 e3, I.tl.tl.2.2.1, I.2.2.2.put e2 e3 (Nat.le_add_right _ _)⟩
    unfold jcellAt
    rw [if_pos ha]
    rw [hsl] at e1
    exact ⟨rfl, _, e1, q2, q3, t_set q4 hap hb (jval E v)⟩
  show W p l e R s m args below meth c H locs _ _ Q (F0 m pc lsA (jval E v :: .ref (jad E i) :: st.map (jval E)))
  rw [jad_i hi]
  rcases hfin with hfin | ⟨hin2, hdecl⟩
  · unfold u_lay at hlay
    rw [if_neg (by rw [hfin]; decide)] at hlay
    exact W.putK C.1 C.2.1 (f := f) ⟨hown, hlink, ⟨_, _, _, jsame_of C hr _ hi9⟩, hst⟩ (by rw [q2]; exact u_store hfc hkC hkind hlay hi9 ((jfc ha).1 b hb) hn hft) q1 q3 (by rw [hsl]; exact k2_hasslot (q4 b hb)) rfl rfl hd fin
  · by_cases hff : (jfd a b).2.2.2 = true
    · unfold u_lay at hlay
      rw [if_pos hff] at hlay
      have hcf : m.cls = cf := by
        obtain ⟨_, _, c', _, _, _, -, -, hf', -, -, -, hown2, -⟩ := Cond.laysFinal_spec hlay
        have e1 : c' = cf := by have := hi9.symm.trans hf'; simp at this; exact this.1.symm
        rw [hdecl] at hown2
        rw [← e1]; exact Option.some.inj (hown.symm.trans hown2)
      exact W.putFinK C.1 C.2.1 hown hlink (jsame_of C hr _ hi9) hst hcf (by rw [C.2.2.2.2.2.2.2.1]; exact hin2) (by rw [q2]; exact u_fits hfc hkC hkind (Or.inr hlay) hi9 ((jfc ha).1 b hb) hn hft) q1 q3 (by rw [hsl]; exact k2_hasslot (q4 b hb)) rfl rfl hd fin
    · unfold u_lay at hlay
      rw [if_neg hff] at hlay
      exact W.putK C.1 C.2.1 (f := f) ⟨hown, hlink, ⟨_, _, _, jsame_of C hr _ hi9⟩, hst⟩ (by rw [q2]; exact u_store hfc hkC hkind hlay hi9 ((jfc ha).1 b hb) hn hft) q1 q3 (by rw [hsl]; exact k2_hasslot (q4 b hb)) rfl rfl hd fin
/-- an array's cell -/
theorem jarr {t n i : Nat} {H : Heap} (h : jRel E M H) (hs : jsh M i = some (t, n)) (ht : 16 ≤ t) : jtagok t ∧ H[jB E + i]? = some (arrV (jC E t) n (fun k => jval E (jget M i k))) := by
  have h1 := (h.1 i t n hs).1
  unfold jcellAt at h1
  rw [if_neg (by omega)] at h1
  exact h1
theorem jinb {k : Int} {n : Nat} (hk : jok (.inl k)) (h0 : 0 ≤ k) (h1 : k.toNat < n) : ¬ (Int32.ofInt k < 0 ∨ n ≤ (Int32.ofInt k).toNatClampNeg) ∧ (Int32.ofInt k).toNatClampNeg = k.toNat := by
  have e : (Int32.ofInt k).toInt = k := jofi hk
  have e2 : (Int32.ofInt k).toNatClampNeg = k.toNat := by
    show (Int32.ofInt k).toInt.toNat = k.toNat
    rw [e]
  refine ⟨?_, e2⟩
  rw [e2]
  rintro (h | h)
  · rw [Int32.lt_iff_toInt_lt, e] at h
    simp at h
    omega
  · omega
theorem jmust {t : Nat} (h : jtagok t) (C : jCtx E mi p l s m args meth c) : ArrOfT s (jC E t) (jfty t) ∧ s.vm.findClass ("[" ++ (jfty t).toString) = some (jC E t) ∧ (105 ≤ t → va_RA s (jC E t) (jfty t)) := C.2.2.2.2.2.1.2.1 t h
theorem jset_arr {t n i : Nat} {k : Nat} {v : JV} {lsA : Array Slot} {H H1 : Heap} {locs : List Loc} {st1 : List JV} (I : jInv E mi s lsA H locs ls st1 M) (hs : jsh M i = some (t, n)) (ht : 16 ≤ t) (hv : jok v) (h1 : H1[jB E + i]? = some ((arrV (jC E t) n (fun k => jval E (jget M i k))).setSlot k (jval E v))) (z : H1.size = H.size) (o : ∀ q, q ≠ jB E + i → H1[q]? = H[q]?) (hst : ∀ v ∈ st, jok v ∧ jkn v = true) : jInv E mi s lsA H1 (locs ++ [⟨jB E + i, k⟩]) ls st (jset M i k v) := by
  refine ⟨I.1, jRel_set I.2.1 hs hv ?_ z o, hst, I.2.2.2.put z o (Nat.le_add_right _ _)⟩
  unfold jcellAt
  rw [if_neg (by omega)]
  rw [arrV_store] at h1
  exact ⟨(jarr I.2.1 hs ht).1, h1⟩
theorem j_iaload {i n : Nat} {k0 : Int} (C : jCtx E mi p l s m args meth c) (hd : decode (jmb mi) pc = .ok (.iaload, 1)) (hs : jsh M i = some (100, n)) (hi : i < 1000000) (h0 : 0 ≤ k0) (h1 : k0.toNat < n) (k : jGo E mi p l e R s m args below meth c Q c0 s0 (pc + 1) ls (jget M i k0.toNat :: st) M) : jGo E mi p l e R s m args below meth c Q c0 s0 pc ls (.inl k0 :: .inr (.inl i) :: st) M := by
  intro lsA H locs I
  obtain ⟨g1, g2⟩ := jarr I.2.1 hs (by omega)
  obtain ⟨b1, b2⟩ := jinb I.hd.1 h0 h1
  have kk := k lsA H locs (I.tl.tl.push ((I.2.1.1 i _ n hs).2.1 _ h1) (jkn_ok ((I.2.1.1 i _ n hs).2.1 _ h1)))
  show W p l e R s m args below meth c H locs _ _ Q (F0 m pc lsA (.int (Int32.ofInt k0) :: .ref (jad E i) :: st.map (jval E)))
  rw [jad_i hi]
  exact W.iald C.1 C.2.1 g2 ((jmust g1 C).1 _ _) (fun h => by cases h) (by rw [arrV_size]; exact b1) (v := jval E (jget M i k0.toNat)) (by rw [b2]; exact arrV_read _ _ h1) rfl rfl hd kk
theorem j_baload1 {i n : Nat} {k0 : Int} (C : jCtx E mi p l s m args meth c) (hd : decode (jmb mi) pc = .ok (.baload, 1)) (hs : jsh M i = some (101, n)) (hi : i < 1000000) (h0 : 0 ≤ k0) (h1 : k0.toNat < n) (k : jGo E mi p l e R s m args below meth c Q c0 s0 (pc + 1) ls (jget M i k0.toNat :: st) M) : jGo E mi p l e R s m args below meth c Q c0 s0 pc ls (.inl k0 :: .inr (.inl i) :: st) M := by
  intro lsA H locs I
  obtain ⟨g1, g2⟩ := jarr I.2.1 hs (by omega)
  obtain ⟨b1, b2⟩ := jinb I.hd.1 h0 h1
  have kk := k lsA H locs (I.tl.tl.push ((I.2.1.1 i _ n hs).2.1 _ h1) (jkn_ok ((I.2.1.1 i _ n hs).2.1 _ h1)))
  show W p l e R s m args below meth c H locs _ _ Q (F0 m pc lsA (.int (Int32.ofInt k0) :: .ref (jad E i) :: st.map (jval E)))
  rw [jad_i hi]
  exact W.bald C.1 C.2.1 g2 ((jmust g1 C).1 _ _) (fun h => by cases h) (by rw [arrV_size]; exact b1) (v := jval E (jget M i k0.toNat)) (by rw [b2]; exact arrV_read _ _ h1) rfl rfl hd kk
theorem j_baload2 {i n : Nat} {k0 : Int} (C : jCtx E mi p l s m args meth c) (hd : decode (jmb mi) pc = .ok (.baload, 1)) (hs : jsh M i = some (102, n)) (hi : i < 1000000) (h0 : 0 ≤ k0) (h1 : k0.toNat < n) (k : jGo E mi p l e R s m args below meth c Q c0 s0 (pc + 1) ls (jget M i k0.toNat :: st) M) : jGo E mi p l e R s m args below meth c Q c0 s0 pc ls (.inl k0 :: .inr (.inl i) :: st) M := by
  intro lsA H locs I
  obtain ⟨g1, g2⟩ := jarr I.2.1 hs (by omega)
  obtain ⟨b1, b2⟩ := jinb I.hd.1 h0 h1
  have kk := k lsA H locs (I.tl.tl.push ((I.2.1.1 i _ n hs).2.1 _ h1) (jkn_ok ((I.2.1.1 i _ n hs).2.1 _ h1)))
  show W p l e R s m args below meth c H locs _ _ Q (F0 m pc lsA (.int (Int32.ofInt k0) :: .ref (jad E i) :: st.map (jval E)))
  rw [jad_i hi]
  exact W.zald C.1 C.2.1 g2 ((jmust g1 C).1 _ _) (fun h => by cases h) (by rw [arrV_size]; exact b1) (v := jval E (jget M i k0.toNat)) (by rw [b2]; exact arrV_read _ _ h1) rfl rfl hd kk
theorem j_laload {i n : Nat} {k0 : Int} (C : jCtx E mi p l s m args meth c) (hd : decode (jmb mi) pc = .ok (.laload, 1)) (hs : jsh M i = some (103, n)) (hi : i < 1000000) (h0 : 0 ≤ k0) (h1 : k0.toNat < n) (k : jGo E mi p l e R s m args below meth c Q c0 s0 (pc + 1) ls (jget M i k0.toNat :: st) M) : jGo E mi p l e R s m args below meth c Q c0 s0 pc ls (.inl k0 :: .inr (.inl i) :: st) M := by
  intro lsA H locs I
  obtain ⟨g1, g2⟩ := jarr I.2.1 hs (by omega)
  obtain ⟨b1, b2⟩ := jinb I.hd.1 h0 h1
  have kk := k lsA H locs (I.tl.tl.push ((I.2.1.1 i _ n hs).2.1 _ h1) (jkn_ok ((I.2.1.1 i _ n hs).2.1 _ h1)))
  show W p l e R s m args below meth c H locs _ _ Q (F0 m pc lsA (.int (Int32.ofInt k0) :: .ref (jad E i) :: st.map (jval E)))
  rw [jad_i hi]
  exact W.lald C.1 C.2.1 g2 ((jmust g1 C).1 _ _) (fun h => by cases h) (by rw [arrV_size]; exact b1) (v := jval E (jget M i k0.toNat)) (by rw [b2]; exact arrV_read _ _ h1) rfl rfl hd kk
theorem j_aaload {i n t : Nat} {k0 : Int} (C : jCtx E mi p l s m args meth c) (hd : decode (jmb mi) pc = .ok (.aaload, 1)) (hs : jsh M i = some (t, n)) (ht : 105 ≤ t) (hi : i < 1000000) (h0 : 0 ≤ k0) (h1 : k0.toNat < n) (k : jGo E mi p l e R s m args below meth c Q c0 s0 (pc + 1) ls (jget M i k0.toNat :: st) M) : jGo E mi p l e R s m args below meth c Q c0 s0 pc ls (.inl k0 :: .inr (.inl i) :: st) M := by
  intro lsA H locs I
  obtain ⟨g1, g2⟩ := jarr I.2.1 hs (by omega)
  obtain ⟨b1, b2⟩ := jinb I.hd.1 h0 h1
  have kk := k lsA H locs (I.tl.tl.push ((I.2.1.1 i _ n hs).2.1 _ h1) (jkn_ok ((I.2.1.1 i _ n hs).2.1 _ h1)))
  have hten : t = 110 ∨ t = 112 ∨ t = 113 ∨ t = 116 ∨ t = 199 := by
    unfold jtagok at g1
    omega
  show W p l e R s m args below meth c H locs _ _ Q (F0 m pc lsA (.int (Int32.ofInt k0) :: .ref (jad E i) :: st.map (jval E)))
  rw [jad_i hi]
  exact W.aald C.1 C.2.1 g2 ((jmust g1 C).1 _ _) (by rcases hten with rfl | rfl | rfl | rfl | rfl <;> rfl) (fun h => by cases h) (by rw [arrV_size]; exact b1) (v := jval E (jget M i k0.toNat)) (by rw [b2]; exact arrV_read _ _ h1) rfl rfl hd kk
theorem j_iastore {i n : Nat} {k0 : Int} {z : Int} (C : jCtx E mi p l s m args meth c) (hd : decode (jmb mi) pc = .ok (.iastore, 1)) (hs : jsh M i = some (100, n)) (hi : i < 1000000) (h0 : 0 ≤ k0) (h1 : k0.toNat < n) (k : jGo E mi p l e R s m args below meth c Q c0 s0 (pc + 1) ls st (jset M i k0.toNat (.inl z))) : jGo E mi p l e R s m args below meth c Q c0 s0 pc ls (.inl z :: .inl k0 :: .inr (.inl i) :: st) M := by
  intro lsA H locs I
  obtain ⟨g1, g2⟩ := jarr I.2.1 hs (by omega)
  obtain ⟨b1, b2⟩ := jinb I.tl.hd.1 h0 h1
  show W p l e R s m args below meth c H locs _ _ Q (F0 m pc lsA (jval E (.inl z) :: .int (Int32.ofInt k0) :: .ref (jad E i) :: st.map (jval E)))
  rw [jad_i hi]
  refine W.iast C.1 C.2.1 g2 ((jmust g1 C).1 _ _) (fun h => by cases h) (by rw [arrV_size]; exact b1) rfl rfl hd fun H1 e1 z1 o => ?_
  rw [b2] at e1 ⊢
  exact k lsA H1 _ (jset_arr I hs (by omega) (v := .inl z) I.hd.1 e1 z1 o I.tl.tl.tl.2.2.1)
theorem j_lastore {i n : Nat} {k0 : Int} {z : Int64} (C : jCtx E mi p l s m args meth c) (hd : decode (jmb mi) pc = .ok (.lastore, 1)) (hs : jsh M i = some (103, n)) (hi : i < 1000000) (h0 : 0 ≤ k0) (h1 : k0.toNat < n) (k : jGo E mi p l e R s m args below meth c Q c0 s0 (pc + 1) ls st (jset M i k0.toNat (.inr (.inr (.long z))))) : jGo E mi p l e R s m args below meth c Q c0 s0 pc ls (.inr (.inr (.long z)) :: .inl k0 :: .inr (.inl i) :: st) M := by
  intro lsA H locs I
  obtain ⟨g1, g2⟩ := jarr I.2.1 hs (by omega)
  obtain ⟨b1, b2⟩ := jinb I.tl.hd.1 h0 h1
  show W p l e R s m args below meth c H locs _ _ Q (F0 m pc lsA (jval E (.inr (.inr (.long z))) :: .int (Int32.ofInt k0) :: .ref (jad E i) :: st.map (jval E)))
  rw [jad_i hi]
  refine W.last C.1 C.2.1 g2 ((jmust g1 C).1 _ _) (fun h => by cases h) (by rw [arrV_size]; exact b1) rfl rfl hd fun H1 e1 z1 o => ?_
  rw [b2] at e1 ⊢
  exact k lsA H1 _ (jset_arr I hs (by omega) (v := .inr (.inr (.long z))) I.hd.1 e1 z1 o I.tl.tl.tl.2.2.1)
theorem j_bastore1 {i n : Nat} {k0 z : Int} (C : jCtx E mi p l s m args meth c) (hd : decode (jmb mi) pc = .ok (.bastore, 1)) (hs : jsh M i = some (101, n)) (hi : i < 1000000) (h0 : 0 ≤ k0) (h1 : k0.toNat < n) (k : jGo E mi p l e R s m args below meth c Q c0 s0 (pc + 1) ls st (jset M i k0.toNat (.inl (jb8 z)))) : jGo E mi p l e R s m args below meth c Q c0 s0 pc ls (.inl z :: .inl k0 :: .inr (.inl i) :: st) M := by
  intro lsA H locs I
  obtain ⟨g1, g2⟩ := jarr I.2.1 hs (by omega)
  obtain ⟨b1, b2⟩ := jinb I.tl.hd.1 h0 h1
  show W p l e R s m args below meth c H locs _ _ Q (F0 m pc lsA (.int (Int32.ofInt z) :: .int (Int32.ofInt k0) :: .ref (jad E i) :: st.map (jval E)))
  rw [jad_i hi]
  refine W.bast C.1 C.2.1 g2 ((jmust g1 C).1 _ _) (fun h => by cases h) (by rw [arrV_size]; exact b1) rfl rfl hd fun H1 e1 z1 o => ?_
  rw [b2] at e1 ⊢
  refine k lsA H1 _ (jset_arr I hs (by omega) (v := .inl (jb8 z)) (jwr_ok _) ?_ z1 o I.tl.tl.tl.2.2.1)
  rw [e1]
  show _ = some (Cell.setSlot _ _ (.int (Int32.ofInt (jb8 z))))
  rw [show Int32.ofInt (jb8 z) = (Int32.ofInt z).toInt8.toInt32 from jof_toInt _]
  rfl
theorem j_bastore2 {i n : Nat} {k0 z : Int} (C : jCtx E mi p l s m args meth c) (hd : decode (jmb mi) pc = .ok (.bastore, 1)) (hs : jsh M i = some (102, n)) (hi : i < 1000000) (h0 : 0 ≤ k0) (h1 : k0.toNat < n) (hz : z = 0 ∨ z = 1) (k : jGo E mi p l e R s m args below meth c Q c0 s0 (pc + 1) ls st (jset M i k0.toNat (.inl z))) : jGo E mi p l e R s m args below meth c Q c0 s0 pc ls (.inl z :: .inl k0 :: .inr (.inl i) :: st) M := by
  intro lsA H locs I
  obtain ⟨g1, g2⟩ := jarr I.2.1 hs (by omega)
  obtain ⟨b1, b2⟩ := jinb I.tl.hd.1 h0 h1
  show W p l e R s m args below meth c H locs _ _ Q (F0 m pc lsA (.int (Int32.ofInt z) :: .int (Int32.ofInt k0) :: .ref (jad E i) :: st.map (jval E)))
  rw [jad_i hi]
  refine W.zast C.1 C.2.1 g2 ((jmust g1 C).1 _ _) (fun h => by cases h) (by rw [arrV_size]; exact b1) rfl rfl hd fun H1 e1 z1 o => ?_
  rw [b2] at e1 ⊢
  refine k lsA H1 _ (jset_arr I hs (by omega) (v := .inl z) I.hd.1 ?_ z1 o I.tl.tl.tl.2.2.1)
  rw [e1]
  show some (Cell.setSlot _ _ (narrow .boolean (.int (Int32.ofInt z)))) = some (Cell.setSlot _ _ (.int (Int32.ofInt z)))
  rcases hz with rfl | rfl
  · rw [show narrow .boolean (.int (Int32.ofInt 0)) = .int (Int32.ofInt 0) by decide +kernel]
  · rw [show narrow .boolean (.int (Int32.ofInt 1)) = .int (Int32.ofInt 1) by decide +kernel]
theorem j_arraylength {i t n : Nat} (C : jCtx E mi p l s m args meth c) (hd : decode (jmb mi) pc = .ok (.arraylength, 1)) (hs : jsh M i = some (t, n)) (ht : 100 ≤ t) (hi : i < 1000000) (k : jGo E mi p l e R s m args below meth c Q c0 s0 (pc + 1) ls (.inl (n : Int) :: st) M) : jGo E mi p l e R s m args below meth c Q c0 s0 pc ls (.inr (.inl i) :: st) M := by
  intro lsA H locs I
  obtain ⟨g1, g2⟩ := jarr I.2.1 hs (by omega)
  have g3 := (I.2.1.1 i t n hs).2.2
  have kk := k lsA H locs (I.tl.pushI (by omega))
  show W p l e R s m args below meth c H locs _ _ Q (F0 m pc lsA (.ref (jad E i) :: st.map (jval E)))
  rw [jad_i hi]
  refine W.alen C.1 C.2.1 g2 ((jmust g1 C).1 _ _) (n := Int32.ofInt (n : Int)) ?_ rfl rfl hd kk
  rw [arrV_size]
  exact Int32.ofInt_eq_ofNat.symm
theorem j_arraylengthS (C : jCtx E mi p l s m args meth c) (hd : decode (jmb mi) pc = .ok (.arraylength, 1)) (hL : jL M < 2147483648) (k : jGo E mi p l e R s m args below meth c Q c0 s0 (pc + 1) ls (.inl (jL M : Int) :: st) M) : jGo E mi p l e R s m args below meth c Q c0 s0 pc ls (.inr (.inl 1000000) :: st) M := by
  intro lsA H locs I
  have hFx := C.2.2.2.2.2.1
  have kk := k lsA H locs (I.tl.pushI (by omega))
  have hbl : jbs E < s.heap.size := Nat.lt_of_lt_of_le (Nat.not_le.mp hFx.2.2.1.2) C.2.2.2.2.2.2.2.2.2
  refine va_slen (b := jbs E) C.1 C.2.1 hFx.2.2.1.1 hbl hFx.2.2.1.2 I.2.2.2 hd ?_
  rw [← I.2.1.2.2.1, ← Int32.ofInt_eq_ofNat]
  exact kk
theorem j_ialoadS {j : Int} (C : jCtx E mi p l s m args meth c) (hd : decode (jmb mi) pc = .ok (.iaload, 1)) (h0 : 0 ≤ j) (h1 : j < jL M) (k : jGo E mi p l e R s m args below meth c Q c0 s0 (pc + 1) ls (.inl (jxs M j.toNat) :: st) M) : jGo E mi p l e R s m args below meth c Q c0 s0 pc ls (.inl j :: .inr (.inl 1000000) :: st) M := by
  intro lsA H locs I
  have hFx := C.2.2.2.2.2.1
  have hbl : jbs E < s.heap.size := Nat.lt_of_lt_of_le (Nat.not_le.mp hFx.2.2.1.2) C.2.2.2.2.2.2.2.2.2
  obtain ⟨b1, b2⟩ := jinb (n := jL M) I.hd.1 h0 (by omega)
  have hx := I.2.1.2.2.2 j.toNat (by rw [← I.2.1.2.2.1]; omega)
  have kk := k lsA H locs (I.tl.tl.pushI (by rw [hx]; exact jwr_ok _))
  refine va_sld (b := jbs E) (i := Int32.ofInt j) C.1 C.2.1 hFx.2.2.1.1 hbl hFx.2.2.1.2 I.2.2.2 (by rw [← I.2.1.2.2.1]; exact b1) hd ?_
  rw [b2]
  have e : jsx E j.toNat = Int32.ofInt (jxs M j.toNat) := by rw [hx, jof_toInt]
  rw [e]
  exact kk
theorem j_new {n a : Nat} (C : jCtx E mi p l s m args meth c) (hd : decode (jmb mi) pc = .ok (.new n, 3)) (hl : Cond.classLink (jnm mi).cls n (jclsn a) ∈ jgood) (ha : a < 16) (hc : jclean M = true) (hm : M.1.length < 1000000) (hr1 : jcells M + 1 - c0 ≤ R.cells) (hr2 : jslots M + (jfields a).length - s0 ≤ R.slots) (hc0 : c0 ≤ jcells M) (hs0 : s0 ≤ jslots M) (k : jGo E mi p l e R s m args below meth c Q c0 s0 (pc + 3) ls (.inr (.inl M.1.length) :: st) (jpush M a (jfields a).length (jdef a))) : jGo E mi p l e R s m args below meth c Q c0 s0 pc ls st M := by
  intro lsA H locs I
  have hts := C.2.2.2.2.1
  have hK := C.2.2.2.2.2.1.1
  have hKn := hK.1 a _ (jcl_get ha)
  have hz := I.2.1.2.1 hc
  refine W.newcK C.1 C.2.1 C.2.2.2.1 (hts _ hl) (hts _ (jcw ha).2.1) (hts _ (jcw ha).2.2) rfl hd (by omega) (by omega) hKn.2.1 rfl fun H1 kC hkC e1 z1 o1 => ?_
  have hlen : (jfields a).length < 2147483648 := by
    have : (List.range 16).all (fun a => decide ((jfields a).length < 2147483648)) = true := by decide +kernel
    exact of_decide_eq_true (List.all_eq_true.mp this a (List.mem_range.mpr ha))
  have kk := k lsA H1 locs ⟨I.1, jRel_push I.2.1 hc (fun k hk => by unfold jdef; split <;> first | trivial | exact jok0) hlen ?_ z1 o1, fun v hv => (List.mem_cons.mp hv).elim (fun q => by rw [q]; exact ⟨trivial, rfl⟩) (I.2.2.1 v), ⟨Nat.le_trans I.2.2.2.1 (by omega), fun q h1 h2 => (o1 q (Nat.lt_of_lt_of_le h1 I.2.2.2.1)).trans (I.2.2.2.2.1 q h1 h2), I.2.2.2.2.2⟩⟩
  · have e1 : jcells (jpush M a (jfields a).length (jdef a)) - c0 = jcells M - c0 + 1 := by show jcells M + 1 - c0 = _; omega
    have e2 : jslots (jpush M a (jfields a).length (jdef a)) - s0 = jslots M - s0 + (jfields a).length := by show jslots M + (jfields a).length - s0 = _; omega
    rw [e1, e2] at kk
    have e3 : jval E (.inr (.inl M.1.length)) = .ref H.size := by
      show Value.ref (jad E M.1.length) = _
      rw [jad_i hm, hz]
    rw [List.map_cons, e3] at kk
    exact kk
  · unfold jcellAt
    rw [if_pos ha]
    exact ⟨rfl, (u_born (jty a) hts (jcw ha).1 hKn hkC e1 (jfc ha).1).to fun k hk => jdef_val ha hk⟩
theorem j_newarray {t : ArrayType} {a : Nat} {z : Int} (C : jCtx E mi p l s m args meth c) (hd : decode (jmb mi) pc = .ok (.newarray t, 2)) (hl : Cond.arrayClass (newarray.typeOf t) ∈ jgood) (ha : 100 ≤ a ∧ a < 104) (hta : t = jaty a) (hc : jclean M = true) (hm : M.1.length < 1000000) (h0 : 0 ≤ z) (h1 : z < 60000000) (hr1 : jcells M + 1 - c0 ≤ R.cells) (hr2 : jslots M + z.toNat - s0 ≤ R.slots) (hc0 : c0 ≤ jcells M) (hs0 : s0 ≤ jslots M) (k : jGo E mi p l e R s m args below meth c Q c0 s0 (pc + 2) ls (.inr (.inl M.1.length) :: st) (jpush M a z.toNat (fun _ => if a = 103 then jX (.long 0) else if a = 104 then jX (.double 0) else jI 0))) : jGo E mi p l e R s m args below meth c Q c0 s0 pc ls (.inl z :: st) M := by
  intro lsA H locs I
  have hz := I.2.1.2.1 hc
  have hok : jok (.inl z) := I.hd.1
  have e : (Int32.ofInt z).toInt = z := jofi hok
  have hn : ¬ Int32.ofInt z < 0 := by
    rw [Int32.lt_iff_toInt_lt, e]; simp; omega
  have hN : (Int32.ofInt z).toNatClampNeg = z.toNat := by
    show (Int32.ofInt z).toInt.toNat = z.toNat
    rw [e]
  have hb : z.toNat * componentBytes (newarray.typeOf t) ≤ 536870912 := by
    have : componentBytes (newarray.typeOf t) ≤ 8 := by cases t <;> decide
    have h3 : z.toNat ≤ 60000000 := by omega
    calc z.toNat * componentBytes (newarray.typeOf t) ≤ 60000000 * 8 := Nat.mul_le_mul h3 this
      _ ≤ 536870912 := by decide
  refine va_newaK C.1 C.2.1 (C.2.2.2.2.1 _ hl) rfl hd rfl hn hN hb (by omega) (by omega) rfl fun H1 cA e1 z1 o1 hA hf => ?_
  have htag : jtagok a := Or.inl ha
  have hty : newarray.typeOf t = jfty a := by
    subst hta
    obtain ⟨g1, g2⟩ := ha
    rcases (show a = 100 ∨ a = 101 ∨ a = 102 ∨ a = 103 by omega) with rfl | rfl | rfl | rfl <;> rfl
  have hcA : cA = jC E a := by
    rw [hty] at hf
    exact Option.some.inj (hf.symm.trans (jmust htag C).2.1)
  have kk := k lsA H1 locs ⟨I.1, jRel_push I.2.1 hc (fun k hk => ?_) (by omega) ?_ z1 o1, fun v hv => (List.mem_cons.mp hv).elim (fun q => by rw [q]; exact ⟨trivial, rfl⟩) (I.tl.2.2.1 v), ⟨Nat.le_trans I.2.2.2.1 (by omega), fun q h1 h2 => (o1 q (Nat.lt_of_lt_of_le h1 I.2.2.2.1)).trans (I.2.2.2.2.1 q h1 h2), I.2.2.2.2.2⟩⟩
  · have e1 : ∀ f, jcells (jpush M a z.toNat f) - c0 = jcells M - c0 + 1 := fun f => by show jcells M + 1 - c0 = _; omega
    have e2 : ∀ f, jslots (jpush M a z.toNat f) - s0 = jslots M - s0 + z.toNat := fun f => by show jslots M + z.toNat - s0 = _; omega
    rw [e1, e2] at kk
    have e3 : jval E (.inr (.inl M.1.length)) = .ref H.size := by
      show Value.ref (jad E M.1.length) = _
      rw [jad_i hm, hz]
    rw [List.map_cons, e3] at kk
    exact kk
  · split
    · trivial
    · split
      · trivial
      · exact jok0
  · unfold jcellAt
    rw [if_neg (by omega)]
    refine ⟨htag, ?_⟩
    rw [e1, hcA]
    congr 1
    congr 1
    funext _
    subst hta
    rcases (show a = 100 ∨ a = 101 ∨ a = 102 ∨ a = 103 by omega) with rfl | rfl | rfl | rfl <;> rfl
theorem j_anewarray {n a : Nat} {z : Int} (C : jCtx E mi p l s m args meth c) (hd : decode (jmb mi) pc = .ok (.anewarray n, 3)) (hl : Cond.classLink (jnm mi).cls n (if a = 199 then "java/lang/Object" else jclsn (a - 105)) ∈ jgood) (ha : a = 110 ∨ a = 112 ∨ a = 113 ∨ a = 116 ∨ a = 199) (hc : jclean M = true) (hm : M.1.length < 1000000) (h0 : 0 ≤ z) (h1 : z < 60000000) (hr1 : jcells M + 1 - c0 ≤ R.cells) (hr2 : jslots M + z.toNat - s0 ≤ R.slots) (hc0 : c0 ≤ jcells M) (hs0 : s0 ≤ jslots M) (k : jGo E mi p l e R s m args below meth c Q c0 s0 (pc + 3) ls (.inr (.inl M.1.length) :: st) (jpush M a z.toNat (fun _ => jX .null))) : jGo E mi p l e R s m args below meth c Q c0 s0 pc ls (.inl z :: st) M := by
  intro lsA H locs I
  have hz := I.2.1.2.1 hc
  have hok : jok (.inl z) := I.hd.1
  have e : (Int32.ofInt z).toInt = z := jofi hok
  have hn : ¬ Int32.ofInt z < 0 := by
    rw [Int32.lt_iff_toInt_lt, e]; simp; omega
  have hN : (Int32.ofInt z).toNatClampNeg = z.toNat := by
    show (Int32.ofInt z).toInt.toNat = z.toNat
    rw [e]
  have htag : jtagok a := Or.inr ha
  have hnm : FieldType.object (if a = 199 then "java/lang/Object" else jclsn (a - 105)) = jfty a := by
    rcases ha with rfl | rfl | rfl | rfl | rfl <;> decide +kernel
  have hao : va_AO (if a = 199 then "java/lang/Object" else jclsn (a - 105)) s := by
    have h0 := C.2.2.2.2.2.1
    by_cases h9 : a = 199
    · rw [if_pos h9]; exact h0.aoO
    · rw [if_neg h9]; exact (h0.ao (a - 105) (by omega)).resolve_right (by omega)
  refine W.anew C.1 C.2.1 C.2.2.2.1 (C.2.2.2.2.1 _ hl) (va_AO.use (A := args) hao) rfl hd rfl hn (by rw [hN]; omega) (by omega) (by omega) fun cA kA comp g1 g2 g3 g4 => ?_
  rw [hN]
  have hcA : cA = jC E a := by
    rw [hnm] at g1
    exact Option.some.inj (g1.symm.trans (jmust htag C).2.1)
  rw [arrV_new]
  have z1 : (H.push (arrV cA z.toNat fun _ => Value.null)).size = H.size + 1 := by simp
  have o1 : ∀ q : Nat, q < H.size → (H.push (arrV cA z.toNat fun _ => Value.null))[q]? = H[q]? := fun q hq => by rw [Array.getElem?_push, if_neg (Nat.ne_of_lt hq)]
  have kk := k lsA _ locs ⟨I.1, jRel_push I.2.1 hc (fun k hk => trivial) (by omega) ?_ z1 o1, fun v hv => (List.mem_cons.mp hv).elim (fun q => by rw [q]; exact ⟨trivial, rfl⟩) (I.tl.2.2.1 v), ⟨Nat.le_trans I.2.2.2.1 (by omega), fun q h1 h2 => (o1 q (Nat.lt_of_lt_of_le h1 I.2.2.2.1)).trans (I.2.2.2.2.1 q h1 h2), I.2.2.2.2.2⟩⟩
  · have e1 : ∀ f, jcells (jpush M a z.toNat f) - c0 = jcells M - c0 + 1 := fun f => by show jcells M + 1 - c0 = _; omega
    have e2 : ∀ f, jslots (jpush M a z.toNat f) - s0 = jslots M - s0 + z.toNat := fun f => by show jslots M + z.toNat - s0 = _; omega
    rw [e1, e2] at kk
    have e3 : jval E (.inr (.inl M.1.length)) = .ref H.size := by
      show Value.ref (jad E M.1.length) = _
      rw [jad_i hm, hz]
    rw [List.map_cons, e3] at kk
    exact kk
  · unfold jcellAt
    rw [if_neg (by omega)]
    refine ⟨htag, ?_⟩
    rw [← hcA]
    simp [jval, jX]
theorem j_aastore {i j t n : Nat} {k0 : Int} (C : jCtx E mi p l s m args meth c) (hd : decode (jmb mi) pc = .ok (.aastore, 1)) (hs : jsh M i = some (t, n)) (hi : i < 1000000) (ht : t = 105 + jtag M j) (htj : jtag M j < 13) (h0 : 0 ≤ k0) (h1 : k0.toNat < n) (k : jGo E mi p l e R s m args below meth c Q c0 s0 (pc + 1) ls st (jset M i k0.toNat (.inr (.inl j)))) : jGo E mi p l e R s m args below meth c Q c0 s0 pc ls (.inr (.inl j) :: .inl k0 :: .inr (.inl i) :: st) M := by
  intro lsA H locs I
  obtain ⟨g1, g2⟩ := jarr I.2.1 hs (by omega)
  obtain ⟨m1, m2, m3⟩ := jmust g1 C
  have hj : j < 1000000 := by
    unfold jtag at htj
    split at htj
    · assumption
    · split at htj <;> omega
  obtain ⟨tj, nj, hsj⟩ : ∃ tj nj, jsh M j = some (tj, nj) := by
    unfold jtag at htj
    rw [if_pos hj] at htj
    cases hq : jsh M j with
    | none => rw [hq] at htj; simp at htj
    | some q => exact ⟨q.1, q.2, rfl⟩
  have htag : jtag M j = tj := by
    unfold jtag
    rw [if_pos hj, hsj]
    rfl
  have hten : t = 110 ∨ t = 112 ∨ t = 113 ∨ t = 116 := by
    unfold jtagok at g1
    omega
  have htj2 : tj < 16 := by omega
  have hcj := (I.2.1.1 j tj nj hsj).1
  unfold jcellAt at hcj
  rw [if_pos htj2] at hcj
  obtain ⟨-, cv, v1, v2, v3, -⟩ := hcj
  have hfty : jfty t = .object (jclsn tj) := by
    rcases hten with rfl | rfl | rfl | rfl
    · have : tj = 5 := by omega
      subst this; decide +kernel
    · have : tj = 7 := by omega
      subst this; decide +kernel
    · have : tj = 8 := by omega
      subst this; decide +kernel
    · have : tj = 11 := by omega
      subst this; decide +kernel
  have hra := m3 (by omega)
  rw [hfty] at hra
  obtain ⟨kA, comp, k1, k2, k3, -⟩ := hra
  have hcls := (C.2.2.2.2.2.1.1.1 tj _ (jcl_get htj2)).2
  have hcomp : comp = (jD E).1 tj := Option.some.inj (k3.symm.trans hcls.1)
  subst hcomp
  obtain ⟨kC, hkC, -⟩ := hcls.2
  obtain ⟨b1, b2⟩ := jinb I.tl.hd.1 h0 h1
  show W p l e R s m args below meth c H locs _ _ Q (F0 m pc lsA (.ref (jad E j) :: .int (Int32.ofInt k0) :: .ref (jad E i) :: st.map (jval E)))
  rw [jad_i hi, jad_i hj]
  refine W.aast C.1 C.2.1 g2 (fun q h => by cases h) (fun h => by cases h) k1 k2 rfl hkC ⟨fun h => b1 (Or.inl h), by rw [arrV_size]; exact Nat.not_le.mp fun h => b1 (Or.inr h)⟩ v1 (fun q h => by rw [v3] at h; cases h) (by rw [v2]; exact hkC) (by rw [v2]; exact va_assign hcls) rfl rfl hd fun H1 e1 z o => ?_
  rw [b2] at e1 ⊢
  refine k lsA H1 _ (jset_arr I hs (by omega) (v := .inr (.inl j)) trivial ?_ z o I.tl.tl.tl.2.2.1)
  show H1[jB E + i]? = some (Cell.setSlot _ _ (.ref (jad E j)))
  rw [jad_i hj]
  exact e1
theorem j_aastoreN {i n : Nat} {k0 : Int} (C : jCtx E mi p l s m args meth c) (hd : decode (jmb mi) pc = .ok (.aastore, 1)) (hs : jsh M i = some (116, n)) (hi : i < 1000000) (h0 : 0 ≤ k0) (h1 : k0.toNat < n) (k : jGo E mi p l e R s m args below meth c Q c0 s0 (pc + 1) ls st (jset M i k0.toNat (.inr (.inr .null)))) : jGo E mi p l e R s m args below meth c Q c0 s0 pc ls (.inr (.inr .null) :: .inl k0 :: .inr (.inl i) :: st) M := by
  intro lsA H locs I
  obtain ⟨g1, g2⟩ := jarr I.2.1 hs (by omega)
  obtain ⟨m1, m2, m3⟩ := jmust g1 C
  have hfty : jfty 116 = .object "OverlapBenchLaw$Node" := by decide +kernel
  obtain ⟨b1, b2⟩ := jinb I.tl.hd.1 h0 h1
  show W p l e R s m args below meth c H locs _ _ Q (F0 m pc lsA (.null :: .int (Int32.ofInt k0) :: .ref (jad E i) :: st.map (jval E)))
  rw [jad_i hi]
  refine va_WaastN (C := "OverlapBenchLaw$Node") C.1 C.2.1 g2 (by rw [← hfty]; exact m1 _ _) (fun h => by cases h) (by rw [arrV_size]; exact b1) rfl rfl hd fun H1 e1 z o => ?_
  rw [b2] at e1 ⊢
  exact k lsA H1 _ (jset_arr I hs (by omega) (v := .inr (.inr .null)) trivial e1 z o I.tl.tl.tl.2.2.1)
theorem j_aastoreO {i j n : Nat} {k0 : Int} (C : jCtx E mi p l s m args meth c) (hd : decode (jmb mi) pc = .ok (.aastore, 1)) (hs : jsh M i = some (199, n)) (hi : i < 1000000) (hj : j < 1000000) (htj : jtag M j = 11 ∨ jtag M j = 116) (h0 : 0 ≤ k0) (h1 : k0.toNat < n) (k : jGo E mi p l e R s m args below meth c Q c0 s0 (pc + 1) ls st (jset M i k0.toNat (.inr (.inl j)))) : jGo E mi p l e R s m args below meth c Q c0 s0 pc ls (.inr (.inl j) :: .inl k0 :: .inr (.inl i) :: st) M := by
  intro lsA H locs I
  obtain ⟨g1, g2⟩ := jarr I.2.1 hs (by omega)
  obtain ⟨m1, m2, m3⟩ := jmust g1 C
  obtain ⟨tj, nj, hsj⟩ : ∃ tj nj, jsh M j = some (tj, nj) := by
    unfold jtag at htj
    rw [if_pos hj] at htj
    cases hq : jsh M j with
    | none => rw [hq] at htj; simp at htj
    | some q => exact ⟨q.1, q.2, rfl⟩
  have htag : jtag M j = tj := by
    unfold jtag
    rw [if_pos hj, hsj]
    rfl
  rw [htag] at htj
  have hcast := C.2.2.2.2.2.1.cast
  have hfty : jfty 199 = .object "java/lang/Object" := by decide +kernel
  have hra := m3 (by omega)
  rw [hfty] at hra
  obtain ⟨kA, comp, k1, k2, k3, -⟩ := hra
  have hv : ∃ cv : Cell, H[jB E + j]? = some cv ∧ cv.vm = .none ∧ ∃ nm, nm ∈ jobjs ∧ s.vm.findClass nm = some cv.cls := by
    have hcj := (I.2.1.1 j tj nj hsj).1
    unfold jcellAt at hcj
    rcases htj with rfl | rfl
    · rw [if_pos (by omega)] at hcj
      obtain ⟨-, cv, v1, v2, v3, -⟩ := hcj
      have hcls := (C.2.2.2.2.2.1.1.1 11 _ (jcl_get (by omega))).2
      have hcn : jclsn 11 = "OverlapBenchLaw$Node" := by decide +kernel
      exact ⟨cv, v1, v3, "OverlapBenchLaw$Node", by simp [jobjs], by rw [v2, ← hcn]; exact hcls.1⟩
    · rw [if_neg (by omega)] at hcj
      have hcn : "[" ++ (jfty 116).toString = "[LOverlapBenchLaw$Node;" := by decide +kernel
      exact ⟨_, hcj.2, rfl, "[LOverlapBenchLaw$Node;", by simp [jobjs], by rw [← hcn]; exact (jmust hcj.1 C).2.1⟩
  obtain ⟨cv, v1, v3, nm, hnm, hcl⟩ := hv
  have hasg := vb_asgC (hcast nm hnm) comp cv.cls k3 hcl
  obtain ⟨c0, t0, f1, f2, f3⟩ := Cond.castable_spec (va_Nw.use (A := args) rfl (hcast nm hnm))
  obtain ⟨kC, hkC, -⟩ := Vm.findClass_spec k3
  obtain ⟨kV, hkV, -⟩ := Vm.findClass_spec hcl
  obtain ⟨b1, b2⟩ := jinb I.tl.hd.1 h0 h1
  show W p l e R s m args below meth c H locs _ _ Q (F0 m pc lsA (.ref (jad E j) :: .int (Int32.ofInt k0) :: .ref (jad E i) :: st.map (jval E)))
  rw [jad_i hi, jad_i hj]
  refine W.aast C.1 C.2.1 g2 (fun q h => by cases h) (fun h => by cases h) k1 k2 rfl hkC ⟨fun h => b1 (Or.inl h), by rw [arrV_size]; exact Nat.not_le.mp fun h => b1 (Or.inr h)⟩ v1 (fun q h => by rw [v3] at h; cases h) hkV hasg rfl rfl hd fun H1 e1 z o => ?_
  rw [b2] at e1 ⊢
  refine k lsA H1 _ (jset_arr I hs (by omega) (v := .inr (.inl j)) trivial ?_ z o I.tl.tl.tl.2.2.1)
  show H1[jB E + i]? = some (Cell.setSlot _ _ (.ref (jad E j)))
  rw [jad_i hj]
  exact e1
end J10M
end
section
/-! THE PRINTED MACHINE HELD AGAINST THE PURE ONE: literals, casts, comparisons of references, bytes copied -/
section J11
variable {E : JE} {mi : Nat} {p : Program} {l : Launch} {e : Env} {R : Room} {s : State} {m : MethodId} {args : Array Value} {below : List Frame} {meth : Method} {c : Code} {Q : State → Prop} {c0 s0 pc : Nat} {ls st : List JV} {M : JM}
theorem j_ldcI {n a : Nat} (C : jCtx E mi p l s m args meth c) (hd : decode (jmb mi) pc = .ok (.ldc n, 2)) (hl : Cond.constant (jnm mi).cls n (Int32.ofInt ((a : Int) - 2147483648)) ∈ jgood) (ha : a < 4294967296) (k : jGo E mi p l e R s m args below meth c Q c0 s0 (pc + 2) ls (.inl ((a : Int) - 2147483648) :: st) M) : jGo E mi p l e R s m args below meth c Q c0 s0 pc ls st M := by
  intro lsA H locs I
  exact W.ldc C.1 C.2.1 C.2.2.2.1 (C.2.2.2.2.1 _ hl) rfl hd (k lsA H locs (I.pushI (by omega)))
theorem j_ldcwI {n a : Nat} (C : jCtx E mi p l s m args meth c) (hd : decode (jmb mi) pc = .ok (.ldc_w n, 3)) (hl : Cond.constant (jnm mi).cls n (Int32.ofInt ((a : Int) - 2147483648)) ∈ jgood) (ha : a < 4294967296) (k : jGo E mi p l e R s m args below meth c Q c0 s0 (pc + 3) ls (.inl ((a : Int) - 2147483648) :: st) M) : jGo E mi p l e R s m args below meth c Q c0 s0 pc ls st M := by
  intro lsA H locs I
  exact lv_ldcw C.1 C.2.1 C.2.2.2.1 (C.2.2.2.2.1 _ hl) hd (k lsA H locs (I.pushI (by omega)))
theorem jad_k {i : Nat} (h1 : 2000000 ≤ i) (h2 : i < 3000000) : jad E i = jaK E (i - 2000000) := by
  unfold jad
  rw [if_neg (by omega), if_neg (by omega), if_neg (by omega), if_pos (by omega)]
theorem jad_v {i : Nat} (h1 : 3000000 ≤ i) : jad E i = jaV E (i - 3000000) := by
  unfold jad
  rw [if_neg (by omega), if_neg (by omega), if_neg (by omega), if_neg (by omega)]
theorem jad_e : jad E 1000001 = jem E := by
  unfold jad
  rw [if_neg (by omega), if_neg (by omega), if_pos rfl]
theorem j_ldcS {n a : Nat} (C : jCtx E mi p l s m args meth c) (hd : decode (jmb mi) pc = .ok (.ldc n, 2)) (hl : ((jnm mi).cls, n, a) ∈ jstrs) (ha : a < 14) (k : jGo E mi p l e R s m args below meth c Q c0 s0 (pc + 2) ls (.inr (.inl (2000000 + a)) :: st) M) : jGo E mi p l e R s m args below meth c Q c0 s0 pc ls st M := by
  intro lsA H locs I
  have hZ := C.2.2.2.2.2.1.str _ hl
  have kk := k lsA H locs (I.push trivial rfl)
  refine va_ldcS C.1 C.2.1 C.2.2.2.1 hZ hd ?_
  have ee : jad E (2000000 + a) = jaK E a := by rw [jad_k (Nat.le_add_right _ _) (by omega), Nat.add_sub_cancel_left]
  rw [List.map_cons, show jval E (.inr (.inl (2000000 + a))) = .ref (jad E (2000000 + a)) from rfl, ee] at kk
  exact kk
theorem j_ldcwS {n a : Nat} (C : jCtx E mi p l s m args meth c) (hd : decode (jmb mi) pc = .ok (.ldc_w n, 3)) (hl : ((jnm mi).cls, n, a) ∈ jstrs) (ha : a < 14) (k : jGo E mi p l e R s m args below meth c Q c0 s0 (pc + 3) ls (.inr (.inl (2000000 + a)) :: st) M) : jGo E mi p l e R s m args below meth c Q c0 s0 pc ls st M := by
  intro lsA H locs I
  have hZ := C.2.2.2.2.2.1.str _ hl
  have kk := k lsA H locs (I.push trivial rfl)
  have ee : jad E (2000000 + a) = jaK E a := by rw [jad_k (Nat.le_add_right _ _) (by omega), Nat.add_sub_cancel_left]
  rw [List.map_cons, show jval E (.inr (.inl (2000000 + a))) = .ref (jad E (2000000 + a)) from rfl, ee] at kk
  intro T hT X
  obtain ⟨t, a1, b1⟩ := kk T hT X
  refine ⟨t, ?_, b1⟩
  obtain ⟨k9, cf, i, a', hk, hcf, hcp, -, hr, hev'⟩ := Cond.stringRef_spec C.2.2.2.1 hZ.1
  cases hZ.2.symm.trans hev'
  obtain ⟨k', hk', he⟩ := X.warmed.alike.2.2 _ _ hk
  have hr' : k'.resolved[n]? = some (some (.string (jaK E a))) := by
    rcases X.warmed.entry hk hk' n with h | ⟨h, -⟩
    · rw [h]; exact hr
    · rw [hr] at h; cases h
  have hdg : decode c.code pc = .ok (.ldc_w n, 3) := by rw [C.2.1]; exact hd
  jvm_step X.here [C.1, hdg, Op.ldc_w.wp_string (e := e) (s := T) (f := F0 m pc lsA (st.map (jval E))) X.here.top hk' (by rw [he]; exact hcf) hcp hr']
  exact a1
theorem j_getstatic {n : Nat} (C : jCtx E mi p l s m args meth c) (hd : decode (jmb mi) pc = .ok (.getstatic n, 3)) (hl : Cond.fieldLink (jnm mi).cls n "java/lang/String" "COMPACT_STRINGS" "Z" ∈ jgood) (k : jGo E mi p l e R s m args below meth c Q c0 s0 (pc + 3) ls (.inl 1 :: st) M) : jGo E mi p l e R s m args below meth c Q c0 s0 pc ls st M := by
  intro lsA H locs I
  exact va_gets C.1 C.2.1 C.2.2.2.2.2.1.compact I.2.2.2 C.2.2.2.1 (C.2.2.2.2.1 _ hl) (fun x h => h) hd (k lsA H locs (I.pushI (by omega)))
theorem j_getstaticE {n : Nat} (C : jCtx E mi p l s m args meth c) (hd : decode (jmb mi) pc = .ok (.getstatic n, 3)) (hl : Cond.fieldLink (jnm mi).cls n "java/util/ArrayList" "DEFAULTCAPACITY_EMPTY_ELEMENTDATA" "[Ljava/lang/Object;" ∈ jgood) (k : jGo E mi p l e R s m args below meth c Q c0 s0 (pc + 3) ls (.inr (.inl 1000001) :: st) M) : jGo E mi p l e R s m args below meth c Q c0 s0 pc ls st M := by
  intro lsA H locs I
  have kk := k lsA H locs (I.push (v := .inr (.inl 1000001)) trivial rfl)
  rw [List.map_cons, show jval E (.inr (.inl 1000001)) = .ref (jad E 1000001) from rfl, jad_e] at kk
  exact va_gets C.1 C.2.1 C.2.2.2.2.2.1.emp.1 I.2.2.2 C.2.2.2.1 (C.2.2.2.2.1 _ hl) (fun x h => h) hd kk
theorem j_arraylengthE (C : jCtx E mi p l s m args meth c) (hd : decode (jmb mi) pc = .ok (.arraylength, 1)) (k : jGo E mi p l e R s m args below meth c Q c0 s0 (pc + 1) ls (.inl 0 :: st) M) : jGo E mi p l e R s m args below meth c Q c0 s0 pc ls (.inr (.inl 1000001) :: st) M := by
  intro lsA H locs I
  have kk := k lsA H locs (I.tl.pushI (by omega))
  show W p l e R s m args below meth c H locs _ _ Q (F0 m pc lsA (.ref (jad E 1000001) :: st.map (jval E)))
  rw [jad_e]
  exact va_tlen C.1 C.2.1 C.2.2.2.2.2.1.emp.2 I.2.2.2 (v := Int32.ofInt 0) (by decide +kernel) hd kk
theorem j_getfieldV {n i : Nat} (C : jCtx E mi p l s m args meth c) (hd : decode (jmb mi) pc = .ok (.getfield n, 3)) (hl : Cond.fieldLink (jnm mi).cls n "java/lang/String" "value" "[B" ∈ jgood) (h1 : 2000000 ≤ i) (h2 : i < 2000014) (k : jGo E mi p l e R s m args below meth c Q c0 s0 (pc + 3) ls (.inr (.inl (i + 1000000)) :: st) M) : jGo E mi p l e R s m args below meth c Q c0 s0 pc ls (.inr (.inl i) :: st) M := by
  intro lsA H locs I
  have hE := (C.2.2.2.2.2.1.lit.1 (i - 2000000) (by omega)).2.2.1
  have kk := k lsA H locs (I.tl.push trivial rfl)
  show W p l e R s m args below meth c H locs _ _ Q (F0 m pc lsA (.ref (jad E i) :: st.map (jval E)))
  rw [jad_k h1 (by omega)]
  refine vk_getf C.1 C.2.1 hE I.2.2.2 C.2.2.2.1 (C.2.2.2.2.1 _ hl) (fun x h => h) hd ?_
  rw [List.map_cons, show jval E (.inr (.inl (i + 1000000))) = .ref (jad E (i + 1000000)) from rfl, jad_v (by omega), show i + 1000000 - 3000000 = i - 2000000 by omega] at kk
  exact kk
theorem j_getfieldC {n i : Nat} (C : jCtx E mi p l s m args meth c) (hd : decode (jmb mi) pc = .ok (.getfield n, 3)) (hl : Cond.fieldLink (jnm mi).cls n "java/lang/String" "coder" "B" ∈ jgood) (h1 : 2000000 ≤ i) (h2 : i < 2000014) (k : jGo E mi p l e R s m args below meth c Q c0 s0 (pc + 3) ls (.inl 0 :: st) M) : jGo E mi p l e R s m args below meth c Q c0 s0 pc ls (.inr (.inl i) :: st) M := by
  intro lsA H locs I
  have hE := (C.2.2.2.2.2.1.lit.1 (i - 2000000) (by omega)).2.1
  have kk := k lsA H locs (I.tl.pushI (by omega))
  show W p l e R s m args below meth c H locs _ _ Q (F0 m pc lsA (.ref (jad E i) :: st.map (jval E)))
  rw [jad_k h1 (by omega)]
  exact vk_getf C.1 C.2.1 hE I.2.2.2 C.2.2.2.1 (C.2.2.2.2.1 _ hl) (fun x h => h) hd kk
theorem jlenl_get {q : Nat} (h : q < 14) : jlenl.getD q 0 = (jlit q).length := by
  unfold jlenl
  rw [List.getD_eq_getElem?_getD, List.getElem?_map, List.getElem?_range h]
  rfl
theorem jlit_small (q : Nat) : (jlit q).length ≤ 50 := by
  unfold jlit
  split <;> decide
theorem jlit_rng (q j : Nat) : 0 ≤ (jlit q).getD j 0 ∧ (jlit q).getD j 0 ≤ 127 := by
  have h : ∀ (lst : List Int), (lst.all fun z => decide (0 ≤ z ∧ z ≤ 127)) = true → 0 ≤ lst.getD j 0 ∧ lst.getD j 0 ≤ 127 := by
    intro lst hl
    rw [List.getD_eq_getElem?_getD]
    cases hq : lst[j]? with
    | none => simp
    | some z => exact of_decide_eq_true (List.all_eq_true.mp hl z (List.mem_of_getElem? hq))
  unfold jlit
  split <;> exact h _ (by decide)
theorem jbyt_get {q j : Nat} (h : q < 14) (hj : j < (jlit q).length) : (jbyt.getD q []).getD j 0 = Int32.ofInt ((jlit q).getD j 0) := by
  have e : jbyt.getD q [] = (jlit q).map Int32.ofInt := by
    unfold jbyt
    rw [List.getD_eq_getElem?_getD, List.getElem?_map, List.getElem?_range h]
    rfl
  rw [e, List.getD_eq_getElem?_getD, List.getElem?_map, List.getD_eq_getElem?_getD, List.getElem?_eq_getElem hj]
  rfl
theorem j_arraylengthL {i : Nat} (C : jCtx E mi p l s m args meth c) (hd : decode (jmb mi) pc = .ok (.arraylength, 1)) (h1 : 3000000 ≤ i) (h2 : i < 3000014) (k : jGo E mi p l e R s m args below meth c Q c0 s0 (pc + 1) ls (.inl ((jlit (i - 3000000)).length : Int) :: st) M) : jGo E mi p l e R s m args below meth c Q c0 s0 pc ls (.inr (.inl i) :: st) M := by
  intro lsA H locs I
  have hE := (C.2.2.2.2.2.1.lit.1 (i - 3000000) (by omega)).2.2.2
  rw [jlenl_get (by omega)] at hE
  have hs := jlit_small (i - 3000000)
  have kk := k lsA H locs (I.tl.pushI (by omega))
  show W p l e R s m args below meth c H locs _ _ Q (F0 m pc lsA (.ref (jad E i) :: st.map (jval E)))
  rw [jad_v h1]
  exact va_tlen C.1 C.2.1 hE I.2.2.2 Int32.ofInt_eq_ofNat.symm hd kk
theorem j_baloadL {i : Nat} {k0 : Int} (C : jCtx E mi p l s m args meth c) (hd : decode (jmb mi) pc = .ok (.baload, 1)) (h1 : 3000000 ≤ i) (h2 : i < 3000014) (h0 : 0 ≤ k0) (h3 : k0.toNat < (jlit (i - 3000000)).length) (k : jGo E mi p l e R s m args below meth c Q c0 s0 (pc + 1) ls (.inl ((jlit (i - 3000000)).getD k0.toNat 0) :: st) M) : jGo E mi p l e R s m args below meth c Q c0 s0 pc ls (.inl k0 :: .inr (.inl i) :: st) M := by
  intro lsA H locs I
  have hE := (C.2.2.2.2.2.1.lit.1 (i - 3000000) (by omega)).2.2.2
  rw [jlenl_get (by omega)] at hE
  obtain ⟨b1, b2⟩ := jinb I.hd.1 h0 h3
  have hr := jlit_rng (i - 3000000) k0.toNat
  have kk := k lsA H locs (I.tl.tl.pushI (by omega))
  show W p l e R s m args below meth c H locs _ _ Q (F0 m pc lsA (.int (Int32.ofInt k0) :: .ref (jad E i) :: st.map (jval E)))
  rw [jad_v h1]
  exact va_tb C.1 C.2.1 hE I.2.2.2 b1 (by rw [b2, jbyt_get (by omega) h3]; rfl) hd kk
/-- references compared -/
def jrf (E : JE) (v : JV) : Option Nat := match v with
  | .inr (.inl i) => some (jad E i)
  | _ => none
theorem jrf_val {v : JV} (h : jnl v = true) : jval E v = va_rf (jrf E v) := by
  rcases v with z | z | z
  · cases h
  · rfl
  · cases z <;> first | rfl | cases h
theorem jrf_eq {v w : JV} (hv : jnl v = true) (hw : jnl w = true) (ha : jap w v = true) : jrf E w = jrf E v ↔ jeqr w v = true := by
  rcases v with z | z | z
  · cases hv
  · rcases w with y | y | y
    · cases hw
    · have ha := of_decide_eq_true ha
      unfold jrf jeqr
      dsimp only
      rw [Option.some.injEq, decide_eq_true_eq]
      constructor
      · intro h
        rcases ha with q | ⟨q1, q2⟩
        · exact q
        · rw [jad_i q1, jad_i q2] at h
          omega
      · intro h
        rw [h]
    · cases y <;> first | (unfold jrf jeqr; simp; done) | cases hw
  · cases z <;> first
    | (rcases w with y | y | y
       · cases hw
       · unfold jrf jeqr; simp
       · cases y <;> first | (unfold jrf jeqr; simp; done) | cases hw)
    | cases hv
theorem j_acmp {cc : Jvm.ClassFile.ACond} {off : Int} {a : Nat} {v w : JV} (C : jCtx E mi p l s m args meth c) (hd : decode (jmb mi) pc = .ok (.if_acmp cc off, 3)) (ht : (pc : Int) + off = (a : Int)) (hv : jnl v = true) (hw : jnl w = true) (ha : jap w v = true)
    (k1 : (match cc with | .eq => jeqr w v | .ne => !jeqr w v) = true → jGo E mi p l e R s m args below meth c Q c0 s0 a ls st M) (k2 : (match cc with | .eq => jeqr w v | .ne => !jeqr w v) = false → jGo E mi p l e R s m args below meth c Q c0 s0 (pc + 3) ls st M) : jGo E mi p l e R s m args below meth c Q c0 s0 pc ls (v :: w :: st) M := by
  intro lsA H locs I
  have he := jrf_eq (E := E) hv hw ha
  show W p l e R s m args below meth c H locs _ _ Q (F0 m pc lsA (jval E v :: jval E w :: st.map (jval E)))
  rw [jrf_val hv, jrf_val hw]
  cases cc with
  | eq => exact lv_acmp_eq C.1 C.2.1 hd ht (fun h => k1 (he.mp h) lsA H locs I.tl.tl) (fun h => k2 (show jeqr w v = false from Bool.eq_false_iff.mpr fun hq => h (he.mpr hq)) lsA H locs I.tl.tl)
  | ne => exact lv_acmp_ne C.1 C.2.1 hd ht (fun h => k1 (show (!jeqr w v) = true from by rw [show jeqr w v = false from Bool.eq_false_iff.mpr fun hq => h (he.mpr hq)]; rfl) lsA H locs I.tl.tl) (fun h => k2 (show (!jeqr w v) = false from by rw [he.mp h]; rfl) lsA H locs I.tl.tl)
/-- casts -/
theorem j_cast {n i a : Nat} (C : jCtx E mi p l s m args meth c) (hd : decode (jmb mi) pc = .ok (.checkcast n, 3)) (hl : Cond.classLink (jnm mi).cls n (jcasn a) ∈ jgood) (ha : a = 101 ∨ a = 116 ∨ a = 11) (ht : jtag M i = a) (hi : i < 1000000) (k : jGo E mi p l e R s m args below meth c Q c0 s0 (pc + 3) ls (.inr (.inl i) :: st) M) : jGo E mi p l e R s m args below meth c Q c0 s0 pc ls (.inr (.inl i) :: st) M := by
  intro lsA H locs I
  have kk := k lsA H locs I
  obtain ⟨t, nn, hs⟩ : ∃ t nn, jsh M i = some (t, nn) := by
    unfold jtag at ht
    rw [if_pos hi] at ht
    cases hq : jsh M i with
    | none => rw [hq] at ht; simp at ht; omega
    | some q => exact ⟨q.1, q.2, rfl⟩
  have hta : t = a := by
    unfold jtag at ht
    rw [if_pos hi, hs] at ht
    exact ht
  subst hta
  have hcell := (I.2.1.1 i t nn hs).1
  unfold jcellAt at hcell
  have hv : ∃ cv : Cell, H[jB E + i]? = some cv ∧ cv.vm = .none ∧ s.vm.findClass (jcasn t) = some cv.cls := by
    rcases ha with rfl | rfl | rfl
    · rw [if_neg (by omega)] at hcell
      have hcn : "[" ++ (jfty 101).toString = jcasn 101 := by decide +kernel
      exact ⟨_, hcell.2, rfl, by rw [← hcn]; exact (jmust hcell.1 C).2.1⟩
    · rw [if_neg (by omega)] at hcell
      have hcn : "[" ++ (jfty 116).toString = jcasn 116 := by decide +kernel
      exact ⟨_, hcell.2, rfl, by rw [← hcn]; exact (jmust hcell.1 C).2.1⟩
    · rw [if_pos (by omega)] at hcell
      obtain ⟨-, cv, v1, v2, v3, -⟩ := hcell
      have hcls := (C.2.2.2.2.2.1.1.1 11 _ (jcl_get (by omega))).2
      have hcn : jclsn 11 = jcasn 11 := by decide +kernel
      exact ⟨cv, v1, v3, by rw [v2, ← hcn]; exact hcls.1⟩
  obtain ⟨cv, v1, v3, v4⟩ := hv
  show W p l e R s m args below meth c H locs _ _ Q (F0 m pc lsA (.ref (jad E i) :: st.map (jval E)))
  rw [List.map_cons, show jval E (.inr (.inl i)) = .ref (jad E i) from rfl] at kk
  rw [jad_i hi] at kk ⊢
  intro T hT X
  obtain ⟨vm', X', stp⟩ := X.checkcastYes C.1 C.2.2.2.1 (C.2.2.2.2.1 _ hl) (by rw [hT]; exact v1) (by rw [v3]; rfl) v4 (va_asg _ _) (g := F0 m pc lsA (.ref (jB E + i) :: st.map (jval E))) rfl rfl (by rw [C.2.1]; exact hd)
  obtain ⟨t2, a1, b1⟩ := kk (T.setVm vm') hT X'
  exact ⟨t2, stp t2 a1, b1⟩
/-- bytes copied -/
theorem jcpw : (jtw 6033 (.native arraycopyName) && jtw 6032 (.static arraycopyName) && jtw 1020 (.initialized "java/lang/System")) = true := by decide +kernel
theorem jnfw : nativeFrameWords "java/lang/System" "arraycopy" 5 ≤ 19 := by decide +kernel
theorem jcatw {rest : List JV} (h : (rest.all fun v => !jc2 v) = true) : ((rest.map (jval E)).map fun v => v.category).sum = rest.length := by
  induction rest with
  | nil => rfl
  | cons v r ih =>
    simp only [List.all_cons, Bool.and_eq_true, Bool.not_eq_true'] at h
    have h2 := ih h.2
    simp only [List.map_cons, List.sum_cons, List.length_cons]
    rw [jval_c2 h.1, h2]
    omega
theorem jclamp {z : Int} (hz : jok (.inl z)) (h0 : 0 ≤ z) : ¬ Int32.ofInt z < 0 ∧ (Int32.ofInt z).toInt = z ∧ (Int32.ofInt z).toNatClampNeg = z.toNat := by
  have e : (Int32.ofInt z).toInt = z := jofi hz
  refine ⟨?_, e, ?_⟩
  · rw [Int32.lt_iff_toInt_lt, e]; simp; omega
  · show (Int32.ofInt z).toInt.toNat = z.toNat
    rw [e]
theorem jRel_cell {H H1 : Heap} (h : jRel E M H) {i t n : Nat} {f : Nat → JV} (hs : jsh M i = some (t, n)) (hf : ∀ k, k < n → jok (f k)) (hc : jcellAt E (jB E + i) t n (fun k => jval E (f k)) H1) (z : H1.size = H.size) (o : ∀ q : Nat, q ≠ jB E + i → H1[q]? = H[q]?) : jRel E (M.1, (fun a j => if a = i then f j else M.2.1 a j), M.2.2) H1 := by
  refine ⟨fun j t1 n1 hj => ?_, fun c => z.trans (h.2.1 c), h.2.2⟩
  have hj' : jsh M j = some (t1, n1) := hj
  obtain ⟨h1, h2, h3⟩ := h.1 j t1 n1 hj'
  by_cases hij : j = i
  · subst hij
    rw [hs] at hj'
    cases hj'
    refine ⟨jcellAt_to hc fun k hk => ?_, fun k hk => ?_, h3⟩
    · unfold jget; simp
    · unfold jget; simp only [if_true]; exact hf k hk
  · have e : ∀ k, jget (M.1, (fun a j => if a = i then f j else M.2.1 a j), M.2.2) j k = jget M j k := fun k => by
      unfold jget
      simp [hij]
    refine ⟨jcellAt_to (jcellAt_kept h1 (o _ (by omega))) fun k _ => by rw [e], fun k hk => by rw [e]; exact h2 k hk, h3⟩
theorem jcopied_eq {src sp dst dp n : Nat} : jcopied M src sp dst dp n = (M.1, (fun a j => if a = dst then (if dp ≤ j ∧ j < dp + n then jsrc M src (sp + (j - dp)) else jget M dst j) else M.2.1 a j), M.2.2) := by
  unfold jcopied
  congr 1
  congr 1
  funext a j
  by_cases h : a = dst
  · subst h
    by_cases h2 : dp ≤ j ∧ j < dp + n
    · rw [if_pos ⟨rfl, h2⟩, if_pos rfl, if_pos h2]
    · rw [if_neg (fun q => h2 q.2), if_pos rfl, if_neg h2]
      rfl
  · rw [if_neg (fun q => h q.1), if_neg h]
theorem j_copyG {idx src dst b n0 aS : Nat} {n dp sp : Int} {cs : Cell} (C : jCtx E mi p l s m args meth c) (hd : decode (jmb mi) pc = .ok (.invokestatic idx, 3)) (hl : Cond.methodLink (jnm mi).cls idx arraycopyName ∈ jgood) (hR1 : 1 ≤ R.frames) (hR2 : 33 ≤ R.locals) (hst3 : st.length ≤ 3) (hc2 : (st.all fun v => !jc2 v) = true)
    (hsd : jsh M dst = some (101, b)) (hdst : dst < 1000000) (h0 : 0 ≤ n) (h1 : 0 ≤ sp) (h2 : 0 ≤ dp) (h3 : sp + n ≤ (n0 : Int)) (h4 : dp + n ≤ (b : Int)) (hby : ((List.range n.toNat).all fun k => jby1 (jsrc M src (sp.toNat + k))) = true)
    (k : jGo E mi p l e R s m args below meth c Q c0 s0 (pc + 3) ls st (jcopied M src sp.toNat dst dp.toNat n.toNat)) {lsA : Array Slot} {H : Heap} {locs : List Loc} (I : jInv E mi s lsA H locs ls (.inl n :: .inl dp :: .inr (.inl dst) :: .inl sp :: .inr (.inl src) :: st) M)
    (hc0 : H[aS]? = some cs) (hs6 : s.isArrayOf cs .byte) (hs3 : cs.vm ≠ .unknown) (hs4 : n0 ≤ cs.slots.size) (hs5 : ∀ j, j < n0 → cs.slots[j]? = some (jval E (jsrc M src j))) : W p l e R s m args below meth c H locs (jcells M - c0) (jslots M - s0) Q (F0 m pc lsA (.int (Int32.ofInt n) :: .int (Int32.ofInt dp) :: .ref (jB E + dst) :: .int (Int32.ofInt sp) :: .ref aS :: st.map (jval E))) := by
  have hts := C.2.2.2.2.1
  have hw := jcpw
  simp only [Bool.and_eq_true] at hw
  obtain ⟨⟨w1, w2⟩, w3⟩ := hw
  obtain ⟨n1, n2, n3⟩ := jclamp I.hd.1 h0
  obtain ⟨d1, d2, d3⟩ := jclamp I.tl.hd.1 h2
  obtain ⟨p1, p2, p3⟩ := jclamp I.tl.tl.tl.hd.1 h1
  obtain ⟨g1, g2⟩ := jarr I.2.1 hsd (by omega)
  obtain ⟨hs7, k0, hk0, cm0, hkk0⟩ := hs6
  obtain ⟨-, k1, hk1, cm1, hkk1⟩ := (jmust g1 C).1 b (fun k => jval E (jget M dst k))
  have hfty : jfty 101 = .byte := rfl
  rw [hfty] at hkk1
  have hby' : ∀ i, i < n.toNat → ∃ z, jsrc M src (sp.toNat + i) = .inl z ∧ -128 ≤ z ∧ z ≤ 127 := by
    intro i hi
    have := List.all_eq_true.mp hby i (List.mem_range.mpr hi)
    unfold jby1 at this
    split at this
    · rename_i z hz
      exact ⟨z, hz, of_decide_eq_true this⟩
    · cases this
  intro T hT X
  obtain ⟨vm', X', step⟩ := X.arraycopy C.1 C.2.2.2.1 (hts _ hl) (hts _ (jtw_mem w1)) (hts _ (jtw_mem w2)) (hts _ (jtw_mem w3)) (src := aS) (dst := jB E + dst) (cs := cs) (cd := arrV (jC E 101) b (fun k => jval E (jget M dst k))) (srcPos := Int32.ofInt sp) (destPos := Int32.ofInt dp) (n := Int32.ofInt n) (by rw [hT]; exact hc0) (by rw [hT]; exact g2)
    hs7 (fun _ h => by cases h) hs3 (fun h => by cases h) hk0 hk1 hkk0 hkk1 (by simp [refKind]) p1 d1 n1
    (by rw [p2, n2]; omega)
    (by rw [d2, n2, arrV_size]; omega)
    (fun vm₁ _ i hi => by
      rw [n3] at hi
      rw [p3]
      obtain ⟨z, z1, z2⟩ := hby' i hi
      have e : cs.slots.getD (sp.toNat + i) .null = .int (Int32.ofInt z) := by
        rw [Array.getD_eq_getD_getElem?, hs5 _ (by omega), z1]
        rfl
      refine ⟨?_, ?_⟩
      · rw [e]
        exact jfits_b z2
      · rw [e]
        exact trivial)
    (g := F0 m pc lsA (.int (Int32.ofInt n) :: .int (Int32.ofInt dp) :: .ref (jB E + dst) :: .int (Int32.ofInt sp) :: .ref aS :: st.map (jval E))) rfl (by rw [C.2.2.1]; exact I.1.1) (rest := st.map (jval E)) rfl (by rw [C.2.1]; exact hd) hR1 (by show 2 * 0 + _ + _ ≤ _; have := jcatw (E := E) hc2; have := jnfw; omega)
  have e1 : copied cs (arrV (jC E 101) b (fun k => jval E (jget M dst k))) (Int32.ofInt sp) (Int32.ofInt dp) (Int32.ofInt n) = arrV (jC E 101) b (fun j => jval E (va_cpy (fun j => jsrc M src j) (fun j => jget M dst j) sp.toNat dp.toNat n.toNat j)) := by
    have h := va_copiedX (fun z : JV => jval E z) cs (jC E 101) (n0 := n0) (n1 := b) (sp := sp.toNat) (dp := dp.toNat) (n := n.toNat) (fun j => jsrc M src j) (fun j => jget M dst j) hs5 (by omega)
    unfold copied
    rw [p3, d3, n3]
    exact h
  rw [e1] at X' step
  generalize hF : (fun j => va_cpy (fun j => jsrc M src j) (fun j => jget M dst j) sp.toNat dp.toNat n.toNat j) = F at X' step
  have hFe : jcopied M src sp.toNat dst dp.toNat n.toNat = (M.1, (fun a j => if a = dst then F j else M.2.1 a j), M.2.2) := by
    rw [jcopied_eq, ← hF]
    rfl
  have hFj : ∀ j, va_cpy (fun j => jsrc M src j) (fun j => jget M dst j) sp.toNat dp.toNat n.toNat j = F j := fun j => congrFun hF j
  simp only [hFj] at X' step
  have hlt : jB E + dst < H.size := (Array.getElem?_eq_some_iff.mp g2).1
  have hheap : ((T.setVm vm').setCell (jB E + dst) (arrV (jC E 101) b (fun j => jval E (F j)))).heap = H.setIfInBounds (jB E + dst) (arrV (jC E 101) b (fun j => jval E (F j))) := by rw [← hT]; rfl
  have oq : ∀ q : Nat, q ≠ jB E + dst → (H.setIfInBounds (jB E + dst) (arrV (jC E 101) b (fun j => jval E (F j))))[q]? = H[q]? := fun q hq => by simp [Array.getElem?_setIfInBounds, Ne.symm hq]
  have hz : (H.setIfInBounds (jB E + dst) (arrV (jC E 101) b (fun j => jval E (F j)))).size = H.size := by simp
  have hok : ∀ j, j < b → jok (F j) := by
    intro j hj
    rw [← hFj]
    unfold va_cpy
    split
    · rename_i hq
      obtain ⟨z, z1, z2, z3⟩ := hby' (j - dp.toNat) (by omega)
      dsimp only
      rw [z1]
      show -2147483648 ≤ z ∧ z ≤ 2147483647
      omega
    · exact (I.2.1.1 dst 101 b hsd).2.1 j hj
  obtain ⟨t, a1, b1⟩ := k lsA _ _ ⟨I.1, by rw [hFe]; exact jRel_cell I.2.1 hsd hok (by
      unfold jcellAt
      rw [if_neg (by omega)]
      exact ⟨g1, by simp [Array.getElem?_setIfInBounds, hlt]⟩) hz oq, I.tl.tl.tl.tl.tl.2.2.1, ⟨by rw [hz]; exact I.2.2.2.1, fun q q1 q2 => by
        rw [oq q (fun e => q2 (by rw [e]; exact Nat.le_add_right _ _))]
        exact I.2.2.2.2.1 q q1 q2, fun q hq => by
        rcases List.mem_append.mp hq with h | h
        · exact I.2.2.2.2.2 q h
        · obtain ⟨z, -, hz⟩ := List.mem_map.mp h
          rw [← hz]
          exact Nat.le_add_right _ _⟩⟩ _ hheap X'
  exact ⟨t, step t a1, b1⟩
theorem j_copy {idx src dst a b : Nat} {n dp sp : Int} (C : jCtx E mi p l s m args meth c) (hd : decode (jmb mi) pc = .ok (.invokestatic idx, 3)) (hl : Cond.methodLink (jnm mi).cls idx arraycopyName ∈ jgood) (hR1 : 1 ≤ R.frames) (hR2 : 33 ≤ R.locals) (hst3 : st.length ≤ 3) (hc2 : (st.all fun v => !jc2 v) = true)
    (hss : jbytes M src = some a) (hsd : jsh M dst = some (101, b)) (hdst : dst < 1000000) (h0 : 0 ≤ n) (h1 : 0 ≤ sp) (h2 : 0 ≤ dp) (h3 : sp + n ≤ (a : Int)) (h4 : dp + n ≤ (b : Int)) (hby : ((List.range n.toNat).all fun k => jby1 (jsrc M src (sp.toNat + k))) = true)
    (k : jGo E mi p l e R s m args below meth c Q c0 s0 (pc + 3) ls st (jcopied M src sp.toNat dst dp.toNat n.toNat)) : jGo E mi p l e R s m args below meth c Q c0 s0 pc ls (.inl n :: .inl dp :: .inr (.inl dst) :: .inl sp :: .inr (.inl src) :: st) M := by
  intro lsA H locs I
  show W p l e R s m args below meth c H locs _ _ Q (F0 m pc lsA (.int (Int32.ofInt n) :: .int (Int32.ofInt dp) :: .ref (jad E dst) :: .int (Int32.ofInt sp) :: .ref (jad E src) :: st.map (jval E)))
  rw [jad_i hdst]
  unfold jbytes at hss
  by_cases hlit : 3000000 ≤ src ∧ src < 3000014
  · rw [if_pos hlit] at hss
    have hE := ((C.2.2.2.2.2.1.lit.kept I.2.2.2.2.1).1 (src - 3000000) (by omega)).2.2.2
    rw [jlenl_get (by omega)] at hE
    obtain ⟨cs, e1, e2, e3, e4, -, e5, -⟩ := hE
    rw [jad_v hlit.1]
    have ha : a = (jlit (src - 3000000)).length := (Option.some.inj hss).symm
    refine j_copyG C hd hl hR1 hR2 hst3 hc2 hsd hdst h0 h1 h2 h3 h4 hby k I e1 e2 e3 (by rw [ha]; exact e4) fun j hj => ?_
    rw [e5 j (by rw [← ha]; exact hj)]
    show some (Value.int ((jbyt.getD (src - 3000000) []).getD j 0)) = _
    rw [jbyt_get (by omega) (by rw [← ha]; exact hj)]
    unfold jsrc
    rw [if_pos hlit]
    rfl
  · rw [if_neg hlit] at hss
    split at hss
    · rename_i t nn hsh
      split at hss
      · rename_i hq
        obtain ⟨hq1, rfl⟩ := hq
        obtain rfl := Option.some.inj hss
        obtain ⟨g1, g2⟩ := jarr I.2.1 hsh (by omega)
        rw [jad_i hq1]
        refine j_copyG C hd hl hR1 hR2 hst3 hc2 hsd hdst h0 h1 h2 h3 h4 hby k I g2 ((jmust g1 C).1 _ _) (fun h => by cases h) (by rw [arrV_size]; exact Nat.le_refl _) fun j hj => ?_
        unfold jsrc
        rw [if_neg hlit]
        exact arrV_read _ _ hj
      · cases hss
    · cases hss
/-- a row of bytes cloned -/
theorem jclw : (jtw 6091 (.native jcloneN) && jtw 6092 (.instanceMethod jcloneN) && jtw 6093 (.selects "[B" jcloneB jcloneN) && jtw 6090 (.sameMethod "[B" "java/lang/Object" "clone" "()Ljava/lang/Object;")) = true := by decide +kernel
theorem j_clone {idx i n : Nat} (C : jCtx E mi p l s m args meth c) (hd : decode (jmb mi) pc = .ok (.invokevirtual idx, 3)) (hl : Cond.methodLink (jnm mi).cls idx jcloneB ∈ jgood) (hR1 : 1 ≤ R.frames) (hR2 : 33 ≤ R.locals) (hst3 : st.length ≤ 3) (hc2 : (st.all fun v => !jc2 v) = true) (hs : jsh M i = some (101, n)) (hi : i < 1000000) (hn : n < 60000000) (hc : jclean M = true) (hm : M.1.length < 1000000) (hby : ((List.range n).all fun k => jby1 (jget M i k)) = true)
    (hr1 : jcells M + 1 - c0 ≤ R.cells) (hr2 : jslots M + n - s0 ≤ R.slots) (hc0 : c0 ≤ jcells M) (hs0 : s0 ≤ jslots M) (k : jGo E mi p l e R s m args below meth c Q c0 s0 (pc + 3) ls (.inr (.inl M.1.length) :: st) (jpush M 101 n (fun k => jget M i k))) : jGo E mi p l e R s m args below meth c Q c0 s0 pc ls (.inr (.inl i) :: st) M := by
  intro lsA H locs I
  have hts := C.2.2.2.2.1
  have hw := jclw
  simp only [Bool.and_eq_true] at hw
  obtain ⟨⟨⟨w1, w2⟩, w3⟩, w4⟩ := hw
  have hz := I.2.1.2.1 hc
  obtain ⟨g1, g2⟩ := jarr I.2.1 hs (by omega)
  obtain ⟨m1, m2, m3⟩ := jmust g1 C
  have hnmB : "[" ++ (jfty 101).toString = "[B" := by decide +kernel
  rw [hnmB] at m2
  have hfty : jfty 101 = .byte := rfl
  rw [hfty] at m1
  obtain ⟨c9, t9, f1, f2, f3⟩ := Cond.castable_spec (va_Nw.use (A := args) rfl C.2.2.2.2.2.1.clo)
  cases m2.symm.trans f1
  have hby' : ∀ j, j < n → ∃ z, jget M i j = .inl z ∧ -128 ≤ z ∧ z ≤ 127 := by
    intro j hj
    have := List.all_eq_true.mp hby j (List.mem_range.mpr hj)
    unfold jby1 at this
    split at this
    · rename_i z hz
      exact ⟨z, hz, of_decide_eq_true this⟩
    · cases this
  show W p l e R s m args below meth c H locs _ _ Q (F0 m pc lsA (.ref (jad E i) :: st.map (jval E)))
  rw [jad_i hi]
  generalize hcell : arrV (jC E 101) n (fun k => jval E (jget M i k)) = cell at g2
  have hsz : cell.slots.size = n := by rw [← hcell]; exact arrV_size _ _ _
  have hvm0 : cell.vm = .none := by rw [← hcell]; rfl
  have hcl0 : cell.cls = jC E 101 := by rw [← hcell]; rfl
  have hcellE : ({ cls := cell.cls, slots := cell.slots } : Cell) = cell := by rw [← hcell]; rfl
  intro T hT X
  have hcellT : T.heap[jB E + i]? = some cell := by rw [hT]; exact g2
  obtain ⟨-, kA, hkA, comp, hkind⟩ := State.isArrayOf_alike X.warmed.alike (m1 0 (fun _ => .null))
  obtain ⟨-, kS, hkS, compS, hkindS⟩ := m1 0 (fun _ => .null)
  obtain ⟨vm', X', stp⟩ := X.cloneArray C.1 C.2.2.2.1 (hts _ hl) (hts _ (jtw_mem w4)) (hts _ (jtw_mem w1)) (hts _ (jtw_mem w2)) (hts _ (jtw_mem w3)) (a := jB E + i) (cell := cell) hcellT (fun k h => by rw [hvm0] at h; cases h) (by rw [hvm0]; exact fun h => by cases h) (by rw [hcl0]; exact m2) f2 (by rw [hcl0]; exact f3)
    (fun j v hv => by
      rw [hcl0]
      have hk' : T.vm.classes[jC E 101]? = some kA := hkA
      have hj : j < n := by rw [← hsz]; exact (Array.getElem?_eq_some_iff.mp hv).1
      obtain ⟨z, z1, z2⟩ := hby' j hj
      have hv2 : v = .int (Int32.ofInt z) := by
        rw [← hcell, arrV_read _ _ hj, z1] at hv
        exact (Option.some.inj hv).symm
      have hfb := jfits_b z2
      rw [← hv2] at hfb
      simpa [State.fitsSlot, State.slotType?, hk', hkind] using hfb)
    (g := F0 m pc lsA (.ref (jB E + i) :: st.map (jval E))) rfl (by rw [C.2.2.1]; exact I.1.1) rfl (by rw [C.2.1]; exact hd) hR1 (by show 2 * 0 + _ + 14 ≤ _; have := jcatw (E := E) hc2; omega) (by omega) (by rw [hsz]; omega) (hloader := by rw [hcl0]; exact Vm.clonesLoader_of_array hkS hkindS)
  rw [hcellE, hsz] at X'
  generalize hH1 : H.push cell = H1
  have z1 : H1.size = H.size + 1 := by rw [← hH1, Array.size_push]
  have e1 : H1[H.size]? = some cell := by rw [← hH1, Array.getElem?_push_size]
  have o1 : ∀ q : Nat, q < H.size → H1[q]? = H[q]? := fun q hq => by rw [← hH1, Array.getElem?_push, if_neg (Nat.ne_of_lt hq)]
  have kk := k lsA H1 locs ⟨I.1, jRel_push I.2.1 hc (fun j hj => (I.2.1.1 i 101 n hs).2.1 j hj) (by omega) (by
      unfold jcellAt
      rw [if_neg (by omega)]
      exact ⟨g1, by rw [e1, ← hcell]⟩) z1 o1, fun v hv => (List.mem_cons.mp hv).elim (fun q => by rw [q]; exact ⟨trivial, rfl⟩) (I.tl.2.2.1 v), ⟨Nat.le_trans I.2.2.2.1 (by omega), fun q h1 h2 => (o1 q (Nat.lt_of_lt_of_le h1 I.2.2.2.1)).trans (I.2.2.2.2.1 q h1 h2), I.2.2.2.2.2⟩⟩
  have ee1 : ∀ f, jcells (jpush M 101 n f) - c0 = jcells M - c0 + 1 := fun f => by show jcells M + 1 - c0 = _; omega
  have ee2 : ∀ f, jslots (jpush M 101 n f) - s0 = jslots M - s0 + n := fun f => by show jslots M + n - s0 = _; omega
  rw [ee1, ee2] at kk
  have e3 : jval E (.inr (.inl M.1.length)) = .ref H.size := by
    show Value.ref (jad E M.1.length) = _
    rw [jad_i hm, hz]
  rw [List.map_cons, e3] at kk
  obtain ⟨t, b1, b2⟩ := kk ((T.setVm vm').pushCell cell) (by rw [← hH1, ← hT]; rfl) X'
  refine ⟨t, stp t ?_, b2⟩
  rw [hcellE, hT]
  exact b1
end J11
end
section
/-! decoding is local: a method's code may be read by pieces -/
def DS (c1 c2 : ByteArray) (d : Nat) : Prop := c2.size + d ≤ c1.size ∧ ∀ (i : Nat) (h : i < c2.size) (h1 : i + d < c1.size), c1[i + d] = c2[i]
def Sh {α : Type} (c1 c2 : ByteArray) (d : Nat) (r1 r2 : Jvm.ClassFile.Reader Jvm.ClassFile.DecodeError α) : Prop := ∀ (p : Nat) (x : α) (q : Nat), r2 c2 p = .ok (x, q) → r1 c1 (p + d) = .ok (x, q + d)
section SH
variable {c1 c2 : ByteArray} {d : Nat}
theorem Sh_pure {α : Type} (x : α) : Sh c1 c2 d (Pure.pure x) (Pure.pure x) := by
  intro p y q h
  cases h
  rfl
theorem Sh_bind {α β : Type} {r1 r2 : Jvm.ClassFile.Reader Jvm.ClassFile.DecodeError α} {f1 f2 : α → Jvm.ClassFile.Reader Jvm.ClassFile.DecodeError β} (h : Sh c1 c2 d r1 r2) (hf : ∀ a, Sh c1 c2 d (f1 a) (f2 a)) : Sh c1 c2 d (r1 >>= f1) (r2 >>= f2) := by
  intro p y q hq
  have e2 : (r2 >>= f2) c2 p = (r2 c2 p).bind (fun z => f2 z.1 c2 z.2) := rfl
  have e1 : (r1 >>= f1) c1 (p + d) = (r1 c1 (p + d)).bind (fun z => f1 z.1 c1 z.2) := rfl
  rw [e2] at hq
  rw [e1]
  cases hr : r2 c2 p with
  | error e => rw [hr] at hq; cases hq
  | ok z =>
    rw [hr] at hq
    rw [h p z.1 z.2 hr]
    exact hf z.1 z.2 y q hq
theorem Sh_throw {α : Type} {r1 : Jvm.ClassFile.Reader Jvm.ClassFile.DecodeError α} {e : Jvm.ClassFile.DecodeError} : Sh c1 c2 d r1 (throw e) := by
  intro p y q h
  cases h
theorem u1_eq (c : ByteArray) (p : Nat) : (Jvm.ClassFile.Reader.u1 : Jvm.ClassFile.Reader Jvm.ClassFile.DecodeError Nat) c p = if h : p < c.size then .ok (c[p].toNat, p + 1) else .error (Jvm.ClassFile.HasTruncated.truncated p) := by
    have e0 : (Jvm.ClassFile.Reader.u1 : Jvm.ClassFile.Reader Jvm.ClassFile.DecodeError Nat) c p = (dite (p < c.size) (fun h => ((do set (p + 1); Pure.pure c[p].toNat) : Jvm.ClassFile.Reader Jvm.ClassFile.DecodeError Nat)) (fun _ => (throw (Jvm.ClassFile.HasTruncated.truncated p) : Jvm.ClassFile.Reader Jvm.ClassFile.DecodeError Nat))) c p := rfl
    rw [e0]
    by_cases h : p < c.size
    · rw [dif_pos h, dif_pos h]
      rfl
    · rw [dif_neg h, dif_neg h]
      rfl
theorem Sh_u1 (h : DS c1 c2 d) : Sh c1 c2 d Jvm.ClassFile.Reader.u1 Jvm.ClassFile.Reader.u1 := by
  intro p y q hq
  rw [u1_eq] at hq
  rw [u1_eq]
  split at hq
  · rename_i hp
    cases hq
    have hp1 : p + d < c1.size := by have := h.1; omega
    rw [dif_pos hp1, h.2 p hp hp1]
    congr 2
    omega
  · cases hq
theorem Sh_map {α β : Type} {r1 r2 : Jvm.ClassFile.Reader Jvm.ClassFile.DecodeError α} {f : α → β} (h : Sh c1 c2 d r1 r2) : Sh c1 c2 d (f <$> r1) (f <$> r2) := Sh_bind (f1 := fun a => Pure.pure (f a)) (f2 := fun a => Pure.pure (f a)) h fun a => Sh_pure _
theorem Sh_u2 (h : DS c1 c2 d) : Sh c1 c2 d Jvm.ClassFile.Reader.u2 Jvm.ClassFile.Reader.u2 := Sh_bind (Sh_u1 h) fun _ => Sh_bind (Sh_u1 h) fun _ => Sh_pure _
theorem Sh_u4 (h : DS c1 c2 d) : Sh c1 c2 d Jvm.ClassFile.Reader.u4 Jvm.ClassFile.Reader.u4 := Sh_bind (Sh_u2 h) fun _ => Sh_bind (Sh_u2 h) fun _ => Sh_pure _
theorem Sh_s1 (h : DS c1 c2 d) : Sh c1 c2 d Jvm.ClassFile.Reader.s1 Jvm.ClassFile.Reader.s1 := Sh_map (Sh_u1 h)
theorem Sh_s2 (h : DS c1 c2 d) : Sh c1 c2 d Jvm.ClassFile.Reader.s2 Jvm.ClassFile.Reader.s2 := Sh_map (Sh_u2 h)
theorem Sh_s4 (h : DS c1 c2 d) : Sh c1 c2 d Jvm.ClassFile.Reader.s4 Jvm.ClassFile.Reader.s4 := Sh_map (Sh_u4 h)
theorem Sh_ite {α : Type} {b : Prop} [Decidable b] {r1 r2 s1 s2 : Jvm.ClassFile.Reader Jvm.ClassFile.DecodeError α} (h1 : Sh c1 c2 d r1 r2) (h2 : Sh c1 c2 d s1 s2) : Sh c1 c2 d (if b then r1 else s1) (if b then r2 else s2) := by
  split
  · exact h1
  · exact h2
theorem Sh_padding (h : DS c1 c2 d) (h4 : d % 4 = 0) : Sh c1 c2 d Jvm.ClassFile.Decoder.padding Jvm.ClassFile.Decoder.padding := by
  have e : ∀ (c : ByteArray) (p : Nat), Jvm.ClassFile.Decoder.padding c p = if p + (4 - p % 4) % 4 ≤ c.size then .ok ((), p + (4 - p % 4) % 4) else .error (Jvm.ClassFile.HasTruncated.truncated c.size) := by
    intro c p
    have e0 : Jvm.ClassFile.Decoder.padding c p = ((ite (p + (4 - p % 4) % 4 ≤ c.size) ((do set (p + (4 - p % 4) % 4); Pure.pure (c.extract p (p + (4 - p % 4) % 4))) : Jvm.ClassFile.Reader Jvm.ClassFile.DecodeError ByteArray) (throw (Jvm.ClassFile.HasTruncated.truncated c.size) : Jvm.ClassFile.Reader Jvm.ClassFile.DecodeError ByteArray)) c p).bind (fun z => .ok ((), z.2)) := rfl
    rw [e0]
    by_cases hc : p + (4 - p % 4) % 4 ≤ c.size
    · rw [if_pos hc, if_pos hc]
      rfl
    · rw [if_neg hc, if_neg hc]
      rfl
  intro p y q hq
  rw [e] at hq ⊢
  have e2 : (p + d) % 4 = p % 4 := by omega
  rw [e2]
  split at hq
  · rename_i hp
    cases hq
    rw [if_pos (by have := h.1; omega)]
    congr 2
    omega
  · cases hq
theorem Sh_go {α : Type} {r1 r2 : Jvm.ClassFile.Reader Jvm.ClassFile.DecodeError α} (h : Sh c1 c2 d r1 r2) : ∀ (k : Nat) (acc : Array α), Sh c1 c2 d (Jvm.ClassFile.Reader.times.go r1 k acc) (Jvm.ClassFile.Reader.times.go r2 k acc) := by
  intro k
  induction k with
  | zero => intro acc; exact Sh_pure _
  | succ k ih => intro acc; exact Sh_bind h fun a => ih _
theorem Sh_tableswitch (h : DS c1 c2 d) (h4 : d % 4 = 0) (p1 p2 : Nat) : Sh c1 c2 d (Jvm.ClassFile.Decoder.tableswitch p1) (Jvm.ClassFile.Decoder.tableswitch p2) := by
  unfold Jvm.ClassFile.Decoder.tableswitch
  refine Sh_bind (Sh_padding h h4) fun _ => Sh_bind (Sh_s4 h) fun _ => Sh_bind (Sh_s4 h) fun lo => Sh_bind (Sh_s4 h) fun hi => ?_
  by_cases hl : lo ≤ hi
  · simp only [hl, not_true_eq_false, if_true, if_false]
    exact Sh_bind (Sh_go (Sh_s4 h) _ _) fun _ => Sh_pure _
  · intro p y q hq
    simp only [hl, not_false_eq_true, if_true, if_false] at hq
    cases hq
theorem Sh_newarray (h : DS c1 c2 d) (p1 p2 : Nat) : Sh c1 c2 d (Jvm.ClassFile.Decoder.newarray p1) (Jvm.ClassFile.Decoder.newarray p2) := by
  unfold Jvm.ClassFile.Decoder.newarray
  refine Sh_bind (Sh_u1 h) fun b => ?_
  split <;> first | exact Sh_pure _ | (intro p y q hq; cases hq; done)
theorem Sh_first {α : Type} {f1 f2 : Nat → Jvm.ClassFile.Reader Jvm.ClassFile.DecodeError α} {ok : Nat → Prop} (h : DS c1 c2 d) (hf : ∀ a, ok a → Sh c1 c2 d (f1 a) (f2 a)) {p q : Nat} {y : α} (hb : ∀ hp : p < c2.size, ok c2[p].toNat) (hq : (Jvm.ClassFile.Reader.u1 >>= f2) c2 p = .ok (y, q)) : (Jvm.ClassFile.Reader.u1 >>= f1) c1 (p + d) = .ok (y, q + d) := by
  have e2 : (Jvm.ClassFile.Reader.u1 >>= f2) c2 p = ((Jvm.ClassFile.Reader.u1 : Jvm.ClassFile.Reader Jvm.ClassFile.DecodeError Nat) c2 p).bind (fun z => f2 z.1 c2 z.2) := rfl
  have e1 : (Jvm.ClassFile.Reader.u1 >>= f1) c1 (p + d) = ((Jvm.ClassFile.Reader.u1 : Jvm.ClassFile.Reader Jvm.ClassFile.DecodeError Nat) c1 (p + d)).bind (fun z => f1 z.1 c1 z.2) := rfl
  rw [e2] at hq
  rw [e1]
  cases hr : (Jvm.ClassFile.Reader.u1 : Jvm.ClassFile.Reader Jvm.ClassFile.DecodeError Nat) c2 p with
  | error e => rw [hr] at hq; cases hq
  | ok z =>
    rw [hr] at hq
    rw [Sh_u1 h p z.1 z.2 hr]
    have hz : ok z.1 := by
      rw [u1_eq] at hr
      split at hr
      · rename_i hp
        have := hb hp
        cases hr
        exact this
      · cases hr
    exact hf z.1 hz z.2 y q hq
set_option maxRecDepth 100000 in
set_option maxHeartbeats 4000000 in
theorem decode_local (h : DS c1 c2 d) {p len : Nat} {i : Instr} (hb : ∀ hp : p < c2.size, (fun b : Nat => (b = 170 → d % 4 = 0) ∧ b ≠ 171 ∧ b ≠ 185 ∧ b ≠ 186 ∧ b ≠ 196 ∧ b ≠ 197) c2[p].toNat) (hd : decode c2 p = .ok (i, len)) : decode c1 (p + d) = .ok (i, len) := by
  have e : ∀ (c : ByteArray) (p : Nat), decode c p = (Jvm.ClassFile.Decoder.instr p c p).bind (fun z => .ok (z.1, z.2 - p)) := fun _ _ => rfl
  rw [e] at hd ⊢
  cases hr : Jvm.ClassFile.Decoder.instr p c2 p with
  | error e => rw [hr] at hd; cases hd
  | ok z =>
    rw [hr] at hd
    have hk : Jvm.ClassFile.Decoder.instr (p + d) c1 (p + d) = .ok (z.1, z.2 + d) := by
      unfold Jvm.ClassFile.Decoder.instr at hr ⊢
      refine Sh_first h (ok := fun b : Nat => (b = 170 → d % 4 = 0) ∧ b ≠ 171 ∧ b ≠ 185 ∧ b ≠ 186 ∧ b ≠ 196 ∧ b ≠ 197) (fun a ha => ?_) hb hr
      obtain ⟨h1, h2, h3, h4, h5, h6⟩ := ha
      intro p0 y q0 hq
      split at hq
      all_goals first
        | (cases hq; done)
        | (cases hq; rfl)
        | exact Sh_tableswitch h (h1 rfl) _ _ p0 y q0 hq
        | exact absurd rfl h2
        | exact absurd rfl h3
        | exact absurd rfl h4
        | exact absurd rfl h5
        | exact absurd rfl h6
        | exact Sh_bind (Sh_u1 h) (fun _ => Sh_pure _) p0 y q0 hq
        | exact Sh_bind (Sh_s1 h) (fun _ => Sh_pure _) p0 y q0 hq
        | exact Sh_bind (Sh_u2 h) (fun _ => Sh_pure _) p0 y q0 hq
        | exact Sh_bind (Sh_s2 h) (fun _ => Sh_pure _) p0 y q0 hq
        | exact Sh_bind (Sh_s4 h) (fun _ => Sh_pure _) p0 y q0 hq
        | exact Sh_bind (Sh_u1 h) (fun _ => Sh_bind (Sh_s1 h) (fun _ => Sh_pure _)) p0 y q0 hq
        | exact Sh_newarray h _ _ p0 y q0 hq
        | exact Sh_map (Sh_u1 h) p0 y q0 hq
        | exact Sh_map (Sh_u2 h) p0 y q0 hq
        | exact Sh_map (Sh_s2 h) p0 y q0 hq
    rw [hk]
    cases hd
    show Except.ok (z.1, z.2 + d - (p + d)) = _
    rw [Nat.add_sub_add_right]
end SH
def okDs (c2 : ByteArray) (d : Nat) (l : List (Nat × JI)) : Bool := l.all fun q => decide (d ≤ q.1) && (match c2[q.1 - d]? with | some b => (b.toNat != 170 || d % 4 == 0) && b.toNat != 171 && b.toNat != 185 && b.toNat != 186 && b.toNat != 196 && b.toNat != 197 | none => false) && (match decode c2 (q.1 - d) with | .ok r => decide (r = (q.2.1, q.2.2.1)) | .error _ => false)
theorem okD_of {c1 c2 : ByteArray} {d : Nat} {l : List (Nat × JI)} (h : DS c1 c2 d) (hk : okDs c2 d l = true) : okD c1 l = true := by
  unfold okD
  rw [List.all_eq_true]
  intro q hq
  have hk := List.all_eq_true.mp hk q hq
  rw [Bool.and_eq_true, Bool.and_eq_true] at hk
  obtain ⟨⟨k1, k2⟩, k3⟩ := hk
  have k1 := of_decide_eq_true k1
  split at k3
  · rename_i r hr
    have hb : ∀ hp : q.1 - d < c2.size, (fun b : Nat => (b = 170 → d % 4 = 0) ∧ b ≠ 171 ∧ b ≠ 185 ∧ b ≠ 186 ∧ b ≠ 196 ∧ b ≠ 197) c2[q.1 - d].toNat := by
      intro hp
      rw [getElem?_pos c2 (q.1 - d) hp] at k2
      simp only [Bool.and_eq_true, Bool.or_eq_true, bne_iff_ne, beq_iff_eq] at k2
      obtain ⟨⟨⟨⟨⟨g1, g2⟩, g3⟩, g4⟩, g5⟩, g6⟩ := k2
      exact ⟨fun e => g1.resolve_left (fun n => n e), g2, g3, g4, g5, g6⟩
    have := decode_local h hb hr
    rw [Nat.sub_add_cancel k1] at this
    rw [this]
    exact k3
  · cases k3
def chkDS (c1 c2 : ByteArray) (d : Nat) : Bool := decide ((c1.data.toList.drop d).take c2.data.toList.length = c2.data.toList)
theorem DS_of {c1 c2 : ByteArray} {d : Nat} (h : chkDS c1 c2 d = true) (h0 : 0 < c2.data.toList.length) : DS c1 c2 d := by
  have h := of_decide_eq_true h
  have hl : c2.data.toList.length + d ≤ c1.data.toList.length := by
    have := congrArg List.length h
    simp only [List.length_take, List.length_drop] at this
    omega
  refine ⟨hl, fun i hi hi1 => ?_⟩
  have e1 : c1[i + d] = c1.data.toList[i + d]'hi1 := rfl
  have e2 : c2[i] = c2.data.toList[i]'hi := rfl
  rw [e1, e2]
  have hi : i < c2.data.toList.length := hi
  have h3 : ((c1.data.toList.drop d).take c2.data.toList.length)[i]? = c2.data.toList[i]? := by rw [h]
  rw [List.getElem?_take_of_lt hi, List.getElem?_drop, List.getElem?_eq_getElem (by rw [Nat.add_comm]; exact hi1), List.getElem?_eq_getElem hi] at h3
  have h4 := Option.some.inj h3
  rw [← h4]
  congr 1
  omega
end
section
/-! WHAT THE TABLES KEEP, beside part 08 -/
def jpls_0 : List (Nat × Nat × Nat × Nat) := [(1042, 99999999, 1001, 99999999), (1045, 99999999, 99999999, 99999999), (1050, 99999999, 1002, 99999999), (1071, 99999999, 1003, 99999999), (1080, 99999999, 1004, 99999999), (1086, 99999999, 1005, 99999999), (1090, 99999999, 1006, 99999999), (1150, 99999999, 1007, 99999999), (1174, 99999999, 1008, 99999999), (1206, 99999999, 1009, 99999999), (2018, 99999999, 1010, 99999999), (2069, 99999999, 1011, 99999999), (2086, 99999999, 1012, 99999999), (2152, 2153, 1001, 99999999), (2219, 2220, 1009, 99999999), (2223, 2224, 1003, 99999999), (2228, 1, 1009, 99999999), (2232, 2, 1009, 99999999), (2236, 3, 1009, 99999999), (3001, 4, 1009, 99999999), (3004, 3005, 1023, 99999999), (3008, 3009, 1023, 99999999), (3014, 3015, 1023, 99999999), (3018, 3019, 1023, 99999999), (3022, 99999999, 1026, 99999999), (3025, 99999999, 1023, 99999999), (3030, 99999999, 1025, 99999999), (3053, 5, 1009, 99999999), (3058, 6, 1009, 99999999), (3062, 7, 1009, 99999999), (3066, 8, 1009, 99999999), (3069, 3070, 1002, 99999999), (3073, 3074, 1002, 99999999), (3077, 3078, 1002, 99999999), (3081, 3082, 1002, 99999999), (3087, 9, 1009, 99999999), (3091, 10, 1009, 99999999), (3094, 3095, 1002, 99999999), (3100, 11, 1009, 99999999), (3103, 3104, 1003, 99999999), (3108, 12, 1009, 99999999), (3111, 3112, 1005, 99999999), (3116, 13, 1009, 99999999), (3120, 14, 1009, 99999999), (3123, 99999999, 1005, 99999999), (3126, 3127, 1005, 99999999), (3130, 3131, 1005, 99999999), (3136, 15, 1009, 99999999), (3139, 3140, 1002, 99999999), (3143, 99999999, 1005, 99999999), (3146, 3147, 1005, 99999999), (3150, 99999999, 1005, 99999999), (3154, 16, 1009, 99999999), (3159, 17, 1009, 99999999), (3162, 3163, 1003, 99999999), (3168, 18, 1009, 99999999), (3171, 3172, 1003, 99999999), (3177, 3178, 1005, 99999999), (3184, 19, 1009, 99999999), (3187, 3188, 1004, 99999999), (3193, 3194, 1004, 99999999), (3199, 20, 1009, 99999999), (3202, 3203, 1007, 99999999), (3206, 3207, 1007, 99999999), (3210, 3211, 1007, 99999999), (3215, 3216, 1007, 99999999), (3219, 99999999, 1019, 99999999), (3223, 3224, 1005, 99999999), (3227, 3228, 1005, 99999999), (3232, 21, 1007, 99999999), (3235, 3236, 1007, 99999999), (4002, 4003, 1005, 99999999)]
def jpls_1 : List (Nat × Nat × Nat × Nat) := [(4006, 99999999, 1006, 99999999), (4025, 4026, 1002, 99999999), (4030, 22, 1001, 99999999), (4033, 4034, 1003, 99999999), (4038, 4039, 1004, 99999999), (4044, 4045, 1001, 99999999), (4049, 23, 1001, 99999999), (4067, 4068, 1001, 99999999), (4071, 4072, 1001, 99999999), (4076, 24, 1001, 99999999), (4080, 25, 1001, 99999999), (4084, 4085, 1001, 99999999), (4089, 26, 1001, 99999999), (4093, 4094, 1001, 99999999), (4098, 27, 1001, 99999999), (4103, 4104, 1001, 99999999), (4108, 4109, 1001, 99999999), (4112, 4113, 1007, 99999999), (4116, 4117, 1001, 99999999), (4121, 4122, 1001, 99999999), (4125, 4126, 1001, 99999999), (4129, 4130, 1001, 99999999), (4133, 4134, 1007, 99999999), (4138, 4139, 1001, 99999999), (4142, 4143, 1001, 99999999), (4146, 4147, 1001, 99999999), (4150, 4151, 1010, 99999999), (4157, 28, 1010, 99999999), (4161, 29, 1010, 99999999), (4164, 4165, 1008, 99999999), (4169, 4170, 1008, 99999999), (4176, 30, 1008, 99999999), (4179, 4180, 1008, 99999999), (4184, 31, 1008, 99999999), (4188, 32, 1008, 99999999), (4192, 33, 1008, 99999999), (4196, 34, 1008, 99999999), (4200, 35, 1008, 99999999), (4205, 36, 1008, 99999999), (4209, 37, 1008, 99999999), (4214, 38, 1008, 99999999), (4218, 39, 1008, 99999999), (4222, 40, 1008, 99999999), (4226, 41, 1008, 99999999), (4230, 42, 1008, 99999999), (4233, 4234, 1010, 99999999), (4237, 4238, 1010, 99999999), (5002, 5003, 1008, 99999999), (5008, 43, 1008, 99999999), (5016, 44, 1010, 99999999), (5019, 99999999, 1005, 99999999), (5023, 5024, 1005, 99999999), (5028, 45, 1010, 99999999), (5031, 5032, 1001, 99999999), (5035, 5036, 1010, 99999999), (5039, 5040, 1007, 99999999), (5044, 5045, 1005, 99999999), (5048, 5049, 1001, 99999999), (5053, 46, 1001, 99999999), (5058, 47, 1001, 99999999), (5061, 5062, 1012, 99999999), (5067, 48, 1012, 99999999), (5072, 5073, 1001, 99999999), (5076, 5077, 1001, 99999999), (5080, 5081, 1001, 99999999), (5085, 5086, 1001, 99999999), (5091, 5092, 1001, 99999999), (5095, 5096, 1004, 99999999), (5099, 5100, 1001, 99999999), (5103, 5104, 1003, 99999999), (5107, 5108, 1001, 99999999), (5111, 5112, 1012, 99999999)]
def jpls_2 : List (Nat × Nat × Nat × Nat) := [(5115, 5116, 1001, 99999999), (5119, 5120, 1001, 99999999), (5123, 5124, 1001, 99999999), (5127, 99999999, 1000, 99999999), (5130, 99999999, 1000, 99999999), (5135, 99999999, 1013, 99999999), (5141, 99999999, 1016, 99999999), (5144, 99999999, 1015, 99999999), (5147, 99999999, 1014, 99999999), (5184, 99999999, 1000, 99999999), (5184, 99999999, 1000, 99999999), (5184, 99999999, 1000, 99999999), (5184, 99999999, 1000, 99999999), (5184, 99999999, 1000, 99999999), (5189, 99999999, 1017, 99999999), (5208, 99999999, 1000, 99999999), (5208, 99999999, 1000, 99999999), (5208, 99999999, 1000, 99999999), (5208, 99999999, 1000, 99999999), (5208, 99999999, 1000, 99999999), (5211, 99999999, 1000, 99999999), (5211, 99999999, 1000, 99999999), (5211, 99999999, 1000, 99999999), (5211, 99999999, 1000, 99999999), (5211, 99999999, 1000, 99999999), (5214, 5215, 1016, 99999999), (5219, 49, 1016, 99999999), (5223, 50, 1016, 99999999), (5227, 51, 1016, 99999999), (5230, 99999999, 1018, 99999999), (6037, 99999999, 1000, 99999999), (6043, 99999999, 1022, 99999999), (6046, 99999999, 1021, 99999999), (6064, 6063, 1022, 6062), (6067, 6068, 1022, 99999999), (6061, 99999999, 1021, 6062), (6079, 20000, 1021, 8073), (6083, 20001, 1021, 8074), (6087, 99999999, 1019, 99999999), (6097, 6099, 1021, 6098), (6119, 20002, 1021, 8075), (6123, 20003, 1021, 8076), (6145, 6146, 1023, 99999999), (6163, 6164, 1016, 99999999), (6169, 6170, 1016, 99999999), (6173, 99999999, 1027, 99999999), (6177, 6178, 1016, 99999999), (6182, 99999999, 1000, 99999999), (6182, 99999999, 1000, 99999999), (6182, 99999999, 1000, 99999999), (6182, 99999999, 1000, 99999999), (6182, 99999999, 1000, 99999999), (6185, 6186, 1022, 99999999), (6189, 99999999, 1021, 8078), (6192, 99999999, 1026, 99999999), (6203, 6204, 1013, 99999999), (6203, 6204, 1013, 99999999), (6203, 6204, 1013, 99999999), (6203, 6204, 1013, 99999999), (6203, 6204, 1013, 99999999), (6208, 99999999, 1000, 99999999), (6208, 99999999, 1000, 99999999), (6208, 99999999, 1000, 99999999), (6208, 99999999, 1000, 99999999), (6208, 99999999, 1000, 99999999), (6208, 99999999, 1000, 99999999), (6208, 99999999, 1000, 99999999), (6208, 99999999, 1000, 99999999), (6212, 6213, 1013, 99999999), (6217, 6218, 1013, 99999999), (6221, 99999999, 1019, 99999999), (6226, 99999999, 1000, 99999999)]
def jpls_3 : List (Nat × Nat × Nat × Nat) := [(6226, 99999999, 1000, 99999999), (6226, 99999999, 1000, 99999999), (6226, 99999999, 1000, 99999999), (6226, 99999999, 1000, 99999999), (6229, 99999999, 1000, 99999999), (6229, 99999999, 1000, 99999999), (6229, 99999999, 1000, 99999999), (6229, 99999999, 1000, 99999999), (6229, 99999999, 1000, 99999999), (6233, 6234, 1013, 99999999), (6237, 99999999, 1000, 99999999), (6237, 99999999, 1000, 99999999), (6237, 99999999, 1000, 99999999), (6237, 99999999, 1000, 99999999), (6237, 99999999, 1000, 99999999), (7001, 7002, 1013, 99999999), (7005, 99999999, 1000, 99999999), (7005, 99999999, 1000, 99999999), (7005, 99999999, 1000, 99999999), (7005, 99999999, 1000, 99999999), (7005, 99999999, 1000, 99999999), (7009, 99999999, 1000, 99999999), (7009, 99999999, 1000, 99999999), (7009, 99999999, 1000, 99999999), (7009, 99999999, 1000, 99999999), (7009, 99999999, 1000, 99999999), (7014, 7015, 1016, 99999999), (7018, 7019, 1022, 99999999), (7024, 99999999, 1023, 99999999), (7027, 99999999, 1023, 99999999), (7031, 7033, 1021, 7032), (7039, 7038, 1022, 7037), (7036, 99999999, 1021, 7037), (7045, 99999999, 1019, 99999999), (7048, 99999999, 1019, 99999999), (7051, 99999999, 1019, 99999999), (7075, 99999999, 1000, 99999999), (7108, 99999999, 1000, 99999999), (7111, 99999999, 1000, 99999999), (7114, 7115, 1001, 99999999), (7118, 7119, 1009, 99999999), (7122, 99999999, 1000, 99999999), (7125, 99999999, 1000, 99999999), (7128, 7129, 1001, 99999999), (7132, 7133, 1008, 99999999), (7139, 7140, 1001, 99999999), (7144, 7145, 1001, 99999999), (7149, 99999999, 1000, 99999999), (7157, 7158, 1001, 99999999), (7162, 99999999, 1005, 99999999), (7165, 7166, 1001, 99999999), (7171, 7172, 1001, 99999999), (7175, 7176, 1011, 99999999), (7181, 52, 1011, 99999999), (7185, 7186, 1011, 99999999), (7194, 53, 1011, 99999999), (7198, 7199, 1001, 99999999), (7202, 7203, 1011, 99999999), (99999999, 99999999, 1000, 99999999)]
def jpls : List (Nat × Nat × Nat × Nat) := jpls_0 ++ (jpls_1 ++ (jpls_2 ++ (jpls_3)))
def cb_0 : ByteArray := .mk #[187, 0, 14, 89, 183, 0, 206, 76, 16, 7, 188, 10, 77, 42, 184, 0, 207, 78, 45, 42, 16, 10, 184, 0, 109, 184, 0, 211, 58, 4, 43, 43, 44, 25, 4, 184, 0, 215, 182, 0, 219, 45, 180, 0, 113, 182, 0, 131, 159, 0, 5, 3, 172, 16, 60, 188, 11, 58, 5, 16, 60, 188, 11, 58, 6, 3, 54, 7, 21, 7, 16, 14, 162, 2, 124, 42, 16, 11, 21, 7, 96, 184, 0, 109, 54, 8, 21, 8, 4, 126, 54, 9, 21, 8, 8, 124, 16, 7, 126, 43, 182, 0, 185, 112, 54, 10, 21, 8, 16, 8, 124, 16, 7, 126, 43, 182, 0, 185, 112, 54, 11, 21, 8, 16, 11, 124, 16, 15, 126, 43, 21, 10, 182, 0, 203, 112, 54, 12, 43, 25, 5, 184, 0, 222, 43, 21, 9, 182, 0, 226, 133, 25, 5, 4, 47, 148, 154, 0, 14, 43, 21, 10, 21, 11, 184, 0, 229, 154, 0, 5, 3, 172, 21, 8, 4, 124, 16, 15]
theorem okd_0 : okD code cd_law_0 = true := okD_of (c2 := cb_0) (d := 0) (DS_of (by decide +kernel) (by decide +kernel)) (by decide +kernel)
def cb_1 : ByteArray := .mk #[126, 54, 13, 21, 13, 7, 162, 0, 69, 43, 21, 10, 182, 0, 233, 54, 14, 43, 21, 10, 182, 0, 236, 54, 15, 21, 14, 155, 0, 45, 43, 21, 10, 182, 0, 239, 21, 14, 160, 0, 32, 43, 21, 10, 182, 0, 203, 21, 15, 160, 0, 21, 43, 21, 10, 182, 0, 242, 153, 0, 12, 43, 21, 10, 182, 0, 246, 153, 0, 5, 3, 172, 167, 1, 144, 21, 13, 16, 7, 162, 0, 77, 43, 21, 10, 182, 0, 233, 54, 14, 3, 54, 15, 21, 15, 21, 14, 162, 0, 33, 21, 14, 16, 12, 162, 0, 26, 43, 21, 10, 182, 0, 249, 43, 21, 10, 182, 0, 252, 159, 0, 5, 3, 172, 132, 15, 1, 167, 255, 222, 21, 14, 155, 0, 21, 21, 14, 16, 12, 162, 0, 14, 43, 21, 10, 182, 0, 242, 154, 0, 5, 3, 172, 167, 1, 63, 21, 13, 16, 9, 162, 0, 53, 43, 21, 10, 182, 0, 255, 54, 14, 43, 21, 10, 182, 1, 2, 54, 15, 21, 14, 158, 0, 29, 43, 21, 10, 182, 1, 5, 21, 15, 160, 0, 16, 43, 21, 10, 182, 0, 255, 21, 14, 4, 100, 159, 0, 5, 3]
theorem okd_1 : okD code cd_law_1 = true := okD_of (c2 := cb_1) (d := 178) (DS_of (by decide +kernel) (by decide +kernel)) (by decide +kernel)
def cb_2 : ByteArray := .mk #[172, 167, 1, 6, 21, 13, 16, 11, 162, 0, 51, 43, 182, 0, 185, 16, 6, 162, 0, 246, 43, 21, 10, 21, 12, 182, 1, 8, 133, 25, 5, 4, 47, 148, 154, 0, 23, 43, 25, 5, 4, 47, 136, 182, 0, 203, 43, 21, 10, 21, 12, 182, 1, 11, 159, 0, 209, 3, 172, 21, 13, 16, 11, 160, 0, 54, 43, 21, 10, 182, 0, 203, 43, 21, 10, 21, 12, 182, 1, 11, 100, 43, 21, 11, 182, 0, 203, 96, 54, 14, 21, 14, 16, 80, 163, 0, 20, 43, 21, 10, 21, 12, 21, 11, 182, 1, 14, 21, 14, 159, 0, 5, 3, 172, 167, 0, 149, 21, 13, 16, 12, 160, 0, 54, 43, 21, 10, 21, 12, 182, 1, 18, 54, 14, 21, 14, 155, 0, 7, 4, 167, 0, 4, 3, 21, 14, 155, 0, 20, 43, 21, 14, 21, 10, 21, 12, 182, 1, 21, 153, 0, 7, 4, 167, 0, 4, 3, 159, 0, 5, 3, 172, 167, 0, 91, 21, 13, 16, 13, 160, 0, 42, 43, 182, 0, 182, 4, 100, 54, 14, 43, 3, 21, 14]
theorem okd_2 : okD code cd_law_2 = true := okD_of (c2 := cb_2) (d := 387) (DS_of (by decide +kernel) (by decide +kernel)) (by decide +kernel)
def cb_3 : ByteArray := .mk #[182, 1, 25, 155, 0, 19, 43, 182, 1, 28, 153, 0, 14, 43, 182, 1, 31, 16, 7, 164, 0, 5, 3, 172, 167, 0, 45, 43, 182, 0, 185, 5, 164, 0, 37, 43, 21, 10, 182, 1, 34, 133, 25, 5, 4, 47, 10, 101, 148, 154, 0, 18, 43, 182, 0, 185, 133, 25, 5, 4, 47, 10, 101, 148, 153, 0, 5, 3, 172, 21, 8, 16, 25, 124, 6, 126, 154, 0, 45, 43, 21, 9, 182, 1, 37, 133, 25, 5, 4, 47, 148, 154, 0, 10, 43, 182, 1, 31, 153, 0, 5, 3, 172, 43, 25, 6, 184, 0, 222, 25, 5, 25, 6, 184, 1, 40, 154, 0, 5, 3, 172, 132, 7, 1, 167, 253, 131, 43, 182, 1, 46, 43, 182, 1, 49, 163, 0, 7, 4, 167, 0, 4, 3, 172]
theorem okd_3 : okD code cd_law_3 = true := okD_of (c2 := cb_3) (d := 581) (DS_of (by decide +kernel) (by decide +kernel)) (by decide +kernel)
theorem okl_0 : cd_law_0.all (okL jm_274.1 jm_274.2.2.2.2.2.2.2.2.1 jm_274.2.2.2.1) = true := by decide +kernel
theorem okl_1 : cd_law_1.all (okL jm_274.1 jm_274.2.2.2.2.2.2.2.2.1 jm_274.2.2.2.1) = true := by decide +kernel
theorem okl_2 : cd_law_2.all (okL jm_274.1 jm_274.2.2.2.2.2.2.2.2.1 jm_274.2.2.2.1) = true := by decide +kernel
theorem okl_3 : cd_law_3.all (okL jm_274.1 jm_274.2.2.2.2.2.2.2.2.1 jm_274.2.2.2.1) = true := by decide +kernel
theorem jall_app {α : Type} {f : α → Bool} {a b : List α} (h : a.all f = true) (k : b.all f = true) : (a ++ b).all f = true := by rw [List.all_append, h, k]; rfl
theorem okD_app {c : ByteArray} {a b : List (Nat × JI)} (h : okD c a = true) (k : okD c b = true) : okD c (a ++ b) = true := by
  unfold okD at h k ⊢
  exact jall_app h k
theorem okd_law : okD code cd_274 = true := by
  unfold cd_274
  exact okD_app okd_0 (okD_app okd_1 (okD_app okd_2 (okd_3)))
theorem okl_law : cd_274.all (okL jm_274.1 jm_274.2.2.2.2.2.2.2.2.1 jm_274.2.2.2.1) = true := by
  unfold cd_274
  exact jall_app okl_0 (jall_app okl_1 (jall_app okl_2 (okl_3)))
theorem ok_274 : okM jm_274 = true := by
  show (okD code cd_274 && cd_274.all (okL jm_274.1 jm_274.2.2.2.2.2.2.2.2.1 jm_274.2.2.2.1)) = true
  rw [okd_law, okl_law]
  rfl
theorem oks_0 : ∀ q ∈ jmeths_0, okM q = true ∨ q = jm_25 := List.forall_mem_cons.mpr ⟨Or.inl ok_0, List.forall_mem_cons.mpr ⟨Or.inl ok_1, List.forall_mem_cons.mpr ⟨Or.inl ok_2, List.forall_mem_cons.mpr ⟨Or.inl ok_3, List.forall_mem_cons.mpr ⟨Or.inl ok_4, List.forall_mem_cons.mpr ⟨Or.inl ok_5, List.forall_mem_cons.mpr ⟨Or.inl ok_6, List.forall_mem_cons.mpr ⟨Or.inl ok_7, List.forall_mem_cons.mpr ⟨Or.inl ok_8, List.forall_mem_cons.mpr ⟨Or.inl ok_9, List.forall_mem_cons.mpr ⟨Or.inl ok_10, List.forall_mem_cons.mpr ⟨Or.inl ok_11, List.forall_mem_cons.mpr ⟨Or.inl ok_12, List.forall_mem_cons.mpr ⟨Or.inl ok_13, List.forall_mem_cons.mpr ⟨Or.inl ok_14, List.forall_mem_cons.mpr ⟨Or.inl ok_15, List.forall_mem_cons.mpr ⟨Or.inl ok_16, List.forall_mem_cons.mpr ⟨Or.inl ok_17, List.forall_mem_cons.mpr ⟨Or.inl ok_18, List.forall_mem_cons.mpr ⟨Or.inl ok_19, List.forall_mem_cons.mpr ⟨Or.inl ok_20, List.forall_mem_cons.mpr ⟨Or.inl ok_21, List.forall_mem_cons.mpr ⟨Or.inl ok_22, List.forall_mem_cons.mpr ⟨Or.inl ok_23, List.forall_mem_cons.mpr ⟨Or.inl ok_24, List.forall_mem_cons.mpr ⟨Or.inr rfl, List.forall_mem_cons.mpr ⟨Or.inl ok_26, List.forall_mem_cons.mpr ⟨Or.inl ok_27, List.forall_mem_cons.mpr ⟨Or.inl ok_28, List.forall_mem_cons.mpr ⟨Or.inl ok_29, List.forall_mem_cons.mpr ⟨Or.inl ok_30, List.forall_mem_cons.mpr ⟨Or.inl ok_31, List.forall_mem_cons.mpr ⟨Or.inl ok_32, List.forall_mem_cons.mpr ⟨Or.inl ok_33, List.forall_mem_cons.mpr ⟨Or.inl ok_34, List.forall_mem_cons.mpr ⟨Or.inl ok_35, List.forall_mem_cons.mpr ⟨Or.inl ok_36, List.forall_mem_cons.mpr ⟨Or.inl ok_37, List.forall_mem_cons.mpr ⟨Or.inl ok_38, List.forall_mem_cons.mpr ⟨Or.inl ok_39, List.forall_mem_cons.mpr ⟨Or.inl ok_40, List.forall_mem_cons.mpr ⟨Or.inl ok_41, List.forall_mem_cons.mpr ⟨Or.inl ok_42, List.forall_mem_cons.mpr ⟨Or.inl ok_43, List.forall_mem_cons.mpr ⟨Or.inl ok_44, List.forall_mem_cons.mpr ⟨Or.inl ok_45, List.forall_mem_cons.mpr ⟨Or.inl ok_46, List.forall_mem_cons.mpr ⟨Or.inl ok_47, List.forall_mem_cons.mpr ⟨Or.inl ok_48, List.forall_mem_cons.mpr ⟨Or.inl ok_49, List.forall_mem_cons.mpr ⟨Or.inl ok_50, List.forall_mem_cons.mpr ⟨Or.inl ok_51, List.forall_mem_cons.mpr ⟨Or.inl ok_52, List.forall_mem_cons.mpr ⟨Or.inl ok_53, List.forall_mem_cons.mpr ⟨Or.inl ok_54, List.forall_mem_cons.mpr ⟨Or.inl ok_55, List.forall_mem_cons.mpr ⟨Or.inl ok_56, List.forall_mem_cons.mpr ⟨Or.inl ok_57, List.forall_mem_cons.mpr ⟨Or.inl ok_58, List.forall_mem_cons.mpr ⟨Or.inl ok_59, fun _ h => absurd h List.not_mem_nil⟩⟩⟩⟩⟩⟩⟩⟩⟩⟩⟩⟩⟩⟩⟩⟩⟩⟩⟩⟩⟩⟩⟩⟩⟩⟩⟩⟩⟩⟩⟩⟩⟩⟩⟩⟩⟩⟩⟩⟩⟩⟩⟩⟩⟩⟩⟩⟩⟩⟩⟩⟩⟩⟩⟩⟩⟩⟩⟩⟩
theorem oks_1 : ∀ q ∈ jmeths_1, okM q = true ∨ q = jm_25 := List.forall_mem_cons.mpr ⟨Or.inl ok_60, List.forall_mem_cons.mpr ⟨Or.inl ok_61, List.forall_mem_cons.mpr ⟨Or.inl ok_62, List.forall_mem_cons.mpr ⟨Or.inl ok_63, List.forall_mem_cons.mpr ⟨Or.inl ok_64, List.forall_mem_cons.mpr ⟨Or.inl ok_65, List.forall_mem_cons.mpr ⟨Or.inl ok_66, List.forall_mem_cons.mpr ⟨Or.inl ok_67, List.forall_mem_cons.mpr ⟨Or.inl ok_68, List.forall_mem_cons.mpr ⟨Or.inl ok_69, List.forall_mem_cons.mpr ⟨Or.inl ok_70, List.forall_mem_cons.mpr ⟨Or.inl ok_71, List.forall_mem_cons.mpr ⟨Or.inl ok_72, List.forall_mem_cons.mpr ⟨Or.inl ok_73, List.forall_mem_cons.mpr ⟨Or.inl ok_74, List.forall_mem_cons.mpr ⟨Or.inl ok_75, List.forall_mem_cons.mpr ⟨Or.inl ok_76, List.forall_mem_cons.mpr ⟨Or.inl ok_77, List.forall_mem_cons.mpr ⟨Or.inl ok_78, List.forall_mem_cons.mpr ⟨Or.inl ok_79, List.forall_mem_cons.mpr ⟨Or.inl ok_80, List.forall_mem_cons.mpr ⟨Or.inl ok_81, List.forall_mem_cons.mpr ⟨Or.inl ok_82, List.forall_mem_cons.mpr ⟨Or.inl ok_83, List.forall_mem_cons.mpr ⟨Or.inl ok_84, List.forall_mem_cons.mpr ⟨Or.inl ok_85, List.forall_mem_cons.mpr ⟨Or.inl ok_86, List.forall_mem_cons.mpr ⟨Or.inl ok_87, List.forall_mem_cons.mpr ⟨Or.inl ok_88, List.forall_mem_cons.mpr ⟨Or.inl ok_89, List.forall_mem_cons.mpr ⟨Or.inl ok_90, List.forall_mem_cons.mpr ⟨Or.inl ok_91, List.forall_mem_cons.mpr ⟨Or.inl ok_92, List.forall_mem_cons.mpr ⟨Or.inl ok_93, List.forall_mem_cons.mpr ⟨Or.inl ok_94, List.forall_mem_cons.mpr ⟨Or.inl ok_95, List.forall_mem_cons.mpr ⟨Or.inl ok_96, List.forall_mem_cons.mpr ⟨Or.inl ok_97, List.forall_mem_cons.mpr ⟨Or.inl ok_98, List.forall_mem_cons.mpr ⟨Or.inl ok_99, List.forall_mem_cons.mpr ⟨Or.inl ok_100, List.forall_mem_cons.mpr ⟨Or.inl ok_101, List.forall_mem_cons.mpr ⟨Or.inl ok_102, List.forall_mem_cons.mpr ⟨Or.inl ok_103, List.forall_mem_cons.mpr ⟨Or.inl ok_104, List.forall_mem_cons.mpr ⟨Or.inl ok_105, List.forall_mem_cons.mpr ⟨Or.inl ok_106, List.forall_mem_cons.mpr ⟨Or.inl ok_107, List.forall_mem_cons.mpr ⟨Or.inl ok_108, List.forall_mem_cons.mpr ⟨Or.inl ok_109, List.forall_mem_cons.mpr ⟨Or.inl ok_110, List.forall_mem_cons.mpr ⟨Or.inl ok_111, List.forall_mem_cons.mpr ⟨Or.inl ok_112, List.forall_mem_cons.mpr ⟨Or.inl ok_113, List.forall_mem_cons.mpr ⟨Or.inl ok_114, List.forall_mem_cons.mpr ⟨Or.inl ok_115, List.forall_mem_cons.mpr ⟨Or.inl ok_116, List.forall_mem_cons.mpr ⟨Or.inl ok_117, List.forall_mem_cons.mpr ⟨Or.inl ok_118, List.forall_mem_cons.mpr ⟨Or.inl ok_119, fun _ h => absurd h List.not_mem_nil⟩⟩⟩⟩⟩⟩⟩⟩⟩⟩⟩⟩⟩⟩⟩⟩⟩⟩⟩⟩⟩⟩⟩⟩⟩⟩⟩⟩⟩⟩⟩⟩⟩⟩⟩⟩⟩⟩⟩⟩⟩⟩⟩⟩⟩⟩⟩⟩⟩⟩⟩⟩⟩⟩⟩⟩⟩⟩⟩⟩
theorem oks_2 : ∀ q ∈ jmeths_2, okM q = true ∨ q = jm_25 := List.forall_mem_cons.mpr ⟨Or.inl ok_120, List.forall_mem_cons.mpr ⟨Or.inl ok_121, List.forall_mem_cons.mpr ⟨Or.inl ok_122, List.forall_mem_cons.mpr ⟨Or.inl ok_123, List.forall_mem_cons.mpr ⟨Or.inl ok_124, List.forall_mem_cons.mpr ⟨Or.inl ok_125, List.forall_mem_cons.mpr ⟨Or.inl ok_126, List.forall_mem_cons.mpr ⟨Or.inl ok_127, List.forall_mem_cons.mpr ⟨Or.inl ok_128, List.forall_mem_cons.mpr ⟨Or.inl ok_129, List.forall_mem_cons.mpr ⟨Or.inl ok_130, List.forall_mem_cons.mpr ⟨Or.inl ok_131, List.forall_mem_cons.mpr ⟨Or.inl ok_132, List.forall_mem_cons.mpr ⟨Or.inl ok_133, List.forall_mem_cons.mpr ⟨Or.inl ok_134, List.forall_mem_cons.mpr ⟨Or.inl ok_135, List.forall_mem_cons.mpr ⟨Or.inl ok_136, List.forall_mem_cons.mpr ⟨Or.inl ok_137, List.forall_mem_cons.mpr ⟨Or.inl ok_138, List.forall_mem_cons.mpr ⟨Or.inl ok_139, List.forall_mem_cons.mpr ⟨Or.inl ok_140, List.forall_mem_cons.mpr ⟨Or.inl ok_141, List.forall_mem_cons.mpr ⟨Or.inl ok_142, List.forall_mem_cons.mpr ⟨Or.inl ok_143, List.forall_mem_cons.mpr ⟨Or.inl ok_144, List.forall_mem_cons.mpr ⟨Or.inl ok_145, List.forall_mem_cons.mpr ⟨Or.inl ok_146, List.forall_mem_cons.mpr ⟨Or.inl ok_147, List.forall_mem_cons.mpr ⟨Or.inl ok_148, List.forall_mem_cons.mpr ⟨Or.inl ok_149, List.forall_mem_cons.mpr ⟨Or.inl ok_150, List.forall_mem_cons.mpr ⟨Or.inl ok_151, List.forall_mem_cons.mpr ⟨Or.inl ok_152, List.forall_mem_cons.mpr ⟨Or.inl ok_153, List.forall_mem_cons.mpr ⟨Or.inl ok_154, List.forall_mem_cons.mpr ⟨Or.inl ok_155, List.forall_mem_cons.mpr ⟨Or.inl ok_156, List.forall_mem_cons.mpr ⟨Or.inl ok_157, List.forall_mem_cons.mpr ⟨Or.inl ok_158, List.forall_mem_cons.mpr ⟨Or.inl ok_159, List.forall_mem_cons.mpr ⟨Or.inl ok_160, List.forall_mem_cons.mpr ⟨Or.inl ok_161, List.forall_mem_cons.mpr ⟨Or.inl ok_162, List.forall_mem_cons.mpr ⟨Or.inl ok_163, List.forall_mem_cons.mpr ⟨Or.inl ok_164, List.forall_mem_cons.mpr ⟨Or.inl ok_165, List.forall_mem_cons.mpr ⟨Or.inl ok_166, List.forall_mem_cons.mpr ⟨Or.inl ok_167, List.forall_mem_cons.mpr ⟨Or.inl ok_168, List.forall_mem_cons.mpr ⟨Or.inl ok_169, List.forall_mem_cons.mpr ⟨Or.inl ok_170, List.forall_mem_cons.mpr ⟨Or.inl ok_171, List.forall_mem_cons.mpr ⟨Or.inl ok_172, List.forall_mem_cons.mpr ⟨Or.inl ok_173, List.forall_mem_cons.mpr ⟨Or.inl ok_174, List.forall_mem_cons.mpr ⟨Or.inl ok_175, List.forall_mem_cons.mpr ⟨Or.inl ok_176, List.forall_mem_cons.mpr ⟨Or.inl ok_177, List.forall_mem_cons.mpr ⟨Or.inl ok_178, List.forall_mem_cons.mpr ⟨Or.inl ok_179, fun _ h => absurd h List.not_mem_nil⟩⟩⟩⟩⟩⟩⟩⟩⟩⟩⟩⟩⟩⟩⟩⟩⟩⟩⟩⟩⟩⟩⟩⟩⟩⟩⟩⟩⟩⟩⟩⟩⟩⟩⟩⟩⟩⟩⟩⟩⟩⟩⟩⟩⟩⟩⟩⟩⟩⟩⟩⟩⟩⟩⟩⟩⟩⟩⟩⟩
theorem oks_3 : ∀ q ∈ jmeths_3, okM q = true ∨ q = jm_25 := List.forall_mem_cons.mpr ⟨Or.inl ok_180, List.forall_mem_cons.mpr ⟨Or.inl ok_181, List.forall_mem_cons.mpr ⟨Or.inl ok_182, List.forall_mem_cons.mpr ⟨Or.inl ok_183, List.forall_mem_cons.mpr ⟨Or.inl ok_184, List.forall_mem_cons.mpr ⟨Or.inl ok_185, List.forall_mem_cons.mpr ⟨Or.inl ok_186, List.forall_mem_cons.mpr ⟨Or.inl ok_187, List.forall_mem_cons.mpr ⟨Or.inl ok_188, List.forall_mem_cons.mpr ⟨Or.inl ok_189, List.forall_mem_cons.mpr ⟨Or.inl ok_190, List.forall_mem_cons.mpr ⟨Or.inl ok_191, List.forall_mem_cons.mpr ⟨Or.inl ok_192, List.forall_mem_cons.mpr ⟨Or.inl ok_193, List.forall_mem_cons.mpr ⟨Or.inl ok_194, List.forall_mem_cons.mpr ⟨Or.inl ok_195, List.forall_mem_cons.mpr ⟨Or.inl ok_196, List.forall_mem_cons.mpr ⟨Or.inl ok_197, List.forall_mem_cons.mpr ⟨Or.inl ok_198, List.forall_mem_cons.mpr ⟨Or.inl ok_199, List.forall_mem_cons.mpr ⟨Or.inl ok_200, List.forall_mem_cons.mpr ⟨Or.inl ok_201, List.forall_mem_cons.mpr ⟨Or.inl ok_202, List.forall_mem_cons.mpr ⟨Or.inl ok_203, List.forall_mem_cons.mpr ⟨Or.inl ok_204, List.forall_mem_cons.mpr ⟨Or.inl ok_205, List.forall_mem_cons.mpr ⟨Or.inl ok_206, List.forall_mem_cons.mpr ⟨Or.inl ok_207, List.forall_mem_cons.mpr ⟨Or.inl ok_208, List.forall_mem_cons.mpr ⟨Or.inl ok_209, List.forall_mem_cons.mpr ⟨Or.inl ok_210, List.forall_mem_cons.mpr ⟨Or.inl ok_211, List.forall_mem_cons.mpr ⟨Or.inl ok_212, List.forall_mem_cons.mpr ⟨Or.inl ok_213, List.forall_mem_cons.mpr ⟨Or.inl ok_214, List.forall_mem_cons.mpr ⟨Or.inl ok_215, List.forall_mem_cons.mpr ⟨Or.inl ok_216, List.forall_mem_cons.mpr ⟨Or.inl ok_217, List.forall_mem_cons.mpr ⟨Or.inl ok_218, List.forall_mem_cons.mpr ⟨Or.inl ok_219, List.forall_mem_cons.mpr ⟨Or.inl ok_220, List.forall_mem_cons.mpr ⟨Or.inl ok_221, List.forall_mem_cons.mpr ⟨Or.inl ok_222, List.forall_mem_cons.mpr ⟨Or.inl ok_223, List.forall_mem_cons.mpr ⟨Or.inl ok_224, List.forall_mem_cons.mpr ⟨Or.inl ok_225, List.forall_mem_cons.mpr ⟨Or.inl ok_226, List.forall_mem_cons.mpr ⟨Or.inl ok_227, List.forall_mem_cons.mpr ⟨Or.inl ok_228, List.forall_mem_cons.mpr ⟨Or.inl ok_229, List.forall_mem_cons.mpr ⟨Or.inl ok_230, List.forall_mem_cons.mpr ⟨Or.inl ok_231, List.forall_mem_cons.mpr ⟨Or.inl ok_232, List.forall_mem_cons.mpr ⟨Or.inl ok_233, List.forall_mem_cons.mpr ⟨Or.inl ok_234, List.forall_mem_cons.mpr ⟨Or.inl ok_235, List.forall_mem_cons.mpr ⟨Or.inl ok_236, List.forall_mem_cons.mpr ⟨Or.inl ok_237, List.forall_mem_cons.mpr ⟨Or.inl ok_238, List.forall_mem_cons.mpr ⟨Or.inl ok_239, fun _ h => absurd h List.not_mem_nil⟩⟩⟩⟩⟩⟩⟩⟩⟩⟩⟩⟩⟩⟩⟩⟩⟩⟩⟩⟩⟩⟩⟩⟩⟩⟩⟩⟩⟩⟩⟩⟩⟩⟩⟩⟩⟩⟩⟩⟩⟩⟩⟩⟩⟩⟩⟩⟩⟩⟩⟩⟩⟩⟩⟩⟩⟩⟩⟩⟩
theorem oks_4 : ∀ q ∈ jmeths_4, okM q = true ∨ q = jm_25 := List.forall_mem_cons.mpr ⟨Or.inl ok_240, List.forall_mem_cons.mpr ⟨Or.inl ok_241, List.forall_mem_cons.mpr ⟨Or.inl ok_242, List.forall_mem_cons.mpr ⟨Or.inl ok_243, List.forall_mem_cons.mpr ⟨Or.inl ok_244, List.forall_mem_cons.mpr ⟨Or.inl ok_245, List.forall_mem_cons.mpr ⟨Or.inl ok_246, List.forall_mem_cons.mpr ⟨Or.inl ok_247, List.forall_mem_cons.mpr ⟨Or.inl ok_248, List.forall_mem_cons.mpr ⟨Or.inl ok_249, List.forall_mem_cons.mpr ⟨Or.inl ok_250, List.forall_mem_cons.mpr ⟨Or.inl ok_251, List.forall_mem_cons.mpr ⟨Or.inl ok_252, List.forall_mem_cons.mpr ⟨Or.inl ok_253, List.forall_mem_cons.mpr ⟨Or.inl ok_254, List.forall_mem_cons.mpr ⟨Or.inl ok_255, List.forall_mem_cons.mpr ⟨Or.inl ok_256, List.forall_mem_cons.mpr ⟨Or.inl ok_257, List.forall_mem_cons.mpr ⟨Or.inl ok_258, List.forall_mem_cons.mpr ⟨Or.inl ok_259, List.forall_mem_cons.mpr ⟨Or.inl ok_260, List.forall_mem_cons.mpr ⟨Or.inl ok_261, List.forall_mem_cons.mpr ⟨Or.inl ok_262, List.forall_mem_cons.mpr ⟨Or.inl ok_263, List.forall_mem_cons.mpr ⟨Or.inl ok_264, List.forall_mem_cons.mpr ⟨Or.inl ok_265, List.forall_mem_cons.mpr ⟨Or.inl ok_266, List.forall_mem_cons.mpr ⟨Or.inl ok_267, List.forall_mem_cons.mpr ⟨Or.inl ok_268, List.forall_mem_cons.mpr ⟨Or.inl ok_269, List.forall_mem_cons.mpr ⟨Or.inl ok_270, List.forall_mem_cons.mpr ⟨Or.inl ok_271, List.forall_mem_cons.mpr ⟨Or.inl ok_272, List.forall_mem_cons.mpr ⟨Or.inl ok_273, List.forall_mem_cons.mpr ⟨Or.inl ok_274, fun _ h => absurd h List.not_mem_nil⟩⟩⟩⟩⟩⟩⟩⟩⟩⟩⟩⟩⟩⟩⟩⟩⟩⟩⟩⟩⟩⟩⟩⟩⟩⟩⟩⟩⟩⟩⟩⟩⟩⟩⟩
theorem oks : ∀ q ∈ jmeths, okM q = true ∨ q = jm_25 := by
  show ∀ q ∈ jmeths_0 ++ (jmeths_1 ++ (jmeths_2 ++ (jmeths_3 ++ (jmeths_4)))), _
  exact List.forall_mem_append.mpr ⟨oks_0, List.forall_mem_append.mpr ⟨oks_1, List.forall_mem_append.mpr ⟨oks_2, List.forall_mem_append.mpr ⟨oks_3, oks_4⟩⟩⟩⟩
theorem jmeths_len : jmeths.length = 275 := by decide +kernel
theorem jm_mem {k : Nat} (h : k < 275) : jmeths.getD k jm0 ∈ jmeths := by
  rw [List.getD_eq_getElem?_getD, List.getElem?_eq_getElem (by rw [jmeths_len]; exact h)]
  exact List.getElem_mem _
end
section
def jpl (k : Nat) : Nat × Nat × Nat × Nat := jpls.getD k (0, 0, 0, 0)
def okY (k : Nat) : Bool :=
  jtw (jwp k) (.code (jnm k) (jmb k) (jmaxL k) (jrt k))
  && (if jsta k then jtw (jpl k).1 (.static (jnm k)) else jtw (jpl k).1 (.instanceMethod (jnm k))) && (decide ((jpl k).2.1 = 99999999) || (jtw (jpl k).2.1 (.selects (jrcv k) (jref k) (jnm k)) && (if jref k = jnm k ∧ jrcv k = (jnm k).cls then true else jtw (jpl k).2.2.2 (.sameMethod (jref k).cls (jref k).cls (jref k).name (jref k).desc))))
  && jtw (jpl k).2.2.1 (.initialized (jnm k).cls) && plainName (jnm k).cls && decide ((jnm k).cls ≠ "java/lang/invoke/MethodHandle") && decide ((jnm k).cls ≠ "java/lang/invoke/VarHandle") && decide (jmaxL k ≤ 14) && decide ((jref k).cls ≠ "java/lang/invoke/MethodHandle") && decide ((jref k).cls ≠ "java/lang/invoke/VarHandle")
def jlenI (i : Instr) : Nat := match i with
  | .bipush _ | .ldc _ | .newarray _ | .aload _ | .iload _ | .fload _ | .dload _ | .istore _ | .astore _ | .fstore _ | .dstore _ => 2
  | .iinc _ _ | .sipush _ | .ldc_w _ | .getstatic _ | .goto _ | .ifCond _ _ | .if_icmp _ _ | .if_acmp _ _ | .ifnull _ | .ifnonnull _ | .getfield _ | .putfield _ | .new _ | .anewarray _ | .checkcast _ | .ldc2_w _ | .invokestatic _ | .invokevirtual _ | .invokespecial _ => 3
  | _ => 1
def okX1 (q : JMeth) (r : Nat × JI) : Bool := match r with
  | (pc, ins, len, a, b, _) => match ins with
    | .new _ => decide (len = 3)
    | .invokestatic _ => decide (len = 3) && true
    | .invokevirtual _ => decide (len = 3) && (if 8000 ≤ a then true else decide ((jpl a).2.1 ≠ 99999999))
    | .invokeinterface _ _ => decide (len = 5)
    | .invokespecial i => decide (len = 3) && (if a = 1 then decide (b = 0) else true)
    | .bipush n => decide (len = 2 ∧ -128 ≤ n ∧ n ≤ 127)
    | .sipush n => decide (len = 3 ∧ -32768 ≤ n ∧ n ≤ 32767)
    | .anewarray _ => decide (len = 3)
    | .ldc i => decide (len = 2) && (if b = 0 then decide (a < 4294967296) else if b = 1 then decide ((q.1.cls, i, a) ∈ jstrs) else true)
    | .ldc_w i => decide (len = 3) && (if b = 0 then decide (a < 4294967296) else if b = 1 then decide ((q.1.cls, i, a) ∈ jstrs) else true)
    | .getfield _ => decide (len = 3)
    | .ifnull _ => decide (len = 3)
    | .athrow => true
    | .nop => false
    | i => decide (len = jlenI i)
def okX (q : JMeth) : Bool := q.2.2.2.2.2.2.2.2.2.all (okX1 q) && decide (q.2.2.2.2.2.2.2.2.1 ≤ 30)
theorem okYa_0 : (List.range' (13 * 0) 13).all (fun k => decide (k = 1 ∨ k = 6 ∨ k = 72 ∨ k = 274 ∨ 275 ≤ k) || okY k) = true := by decide +kernel
theorem okYa_1 : (List.range' (13 * 1) 13).all (fun k => decide (k = 1 ∨ k = 6 ∨ k = 72 ∨ k = 274 ∨ 275 ≤ k) || okY k) = true := by decide +kernel
theorem okYa_2 : (List.range' (13 * 2) 13).all (fun k => decide (k = 1 ∨ k = 6 ∨ k = 72 ∨ k = 274 ∨ 275 ≤ k) || okY k) = true := by decide +kernel
theorem okYa_3 : (List.range' (13 * 3) 13).all (fun k => decide (k = 1 ∨ k = 6 ∨ k = 72 ∨ k = 274 ∨ 275 ≤ k) || okY k) = true := by decide +kernel
theorem okYa_4 : (List.range' (13 * 4) 13).all (fun k => decide (k = 1 ∨ k = 6 ∨ k = 72 ∨ k = 274 ∨ 275 ≤ k) || okY k) = true := by decide +kernel
theorem okYa_5 : (List.range' (13 * 5) 13).all (fun k => decide (k = 1 ∨ k = 6 ∨ k = 72 ∨ k = 274 ∨ 275 ≤ k) || okY k) = true := by decide +kernel
theorem okYa_6 : (List.range' (13 * 6) 13).all (fun k => decide (k = 1 ∨ k = 6 ∨ k = 72 ∨ k = 274 ∨ 275 ≤ k) || okY k) = true := by decide +kernel
theorem okYa_7 : (List.range' (13 * 7) 13).all (fun k => decide (k = 1 ∨ k = 6 ∨ k = 72 ∨ k = 274 ∨ 275 ≤ k) || okY k) = true := by decide +kernel
theorem okYa_8 : (List.range' (13 * 8) 13).all (fun k => decide (k = 1 ∨ k = 6 ∨ k = 72 ∨ k = 274 ∨ 275 ≤ k) || okY k) = true := by decide +kernel
theorem okYa_9 : (List.range' (13 * 9) 13).all (fun k => decide (k = 1 ∨ k = 6 ∨ k = 72 ∨ k = 274 ∨ 275 ≤ k) || okY k) = true := by decide +kernel
theorem okYa_10 : (List.range' (13 * 10) 13).all (fun k => decide (k = 1 ∨ k = 6 ∨ k = 72 ∨ k = 274 ∨ 275 ≤ k) || okY k) = true := by decide +kernel
theorem okYa_11 : (List.range' (13 * 11) 13).all (fun k => decide (k = 1 ∨ k = 6 ∨ k = 72 ∨ k = 274 ∨ 275 ≤ k) || okY k) = true := by decide +kernel
theorem okYa_12 : (List.range' (13 * 12) 13).all (fun k => decide (k = 1 ∨ k = 6 ∨ k = 72 ∨ k = 274 ∨ 275 ≤ k) || okY k) = true := by decide +kernel
theorem okYa_13 : (List.range' (13 * 13) 13).all (fun k => decide (k = 1 ∨ k = 6 ∨ k = 72 ∨ k = 274 ∨ 275 ≤ k) || okY k) = true := by decide +kernel
theorem okYa_14 : (List.range' (13 * 14) 13).all (fun k => decide (k = 1 ∨ k = 6 ∨ k = 72 ∨ k = 274 ∨ 275 ≤ k) || okY k) = true := by decide +kernel
theorem okYa_15 : (List.range' (13 * 15) 13).all (fun k => decide (k = 1 ∨ k = 6 ∨ k = 72 ∨ k = 274 ∨ 275 ≤ k) || okY k) = true := by decide +kernel
theorem okYa_16 : (List.range' (13 * 16) 13).all (fun k => decide (k = 1 ∨ k = 6 ∨ k = 72 ∨ k = 274 ∨ 275 ≤ k) || okY k) = true := by decide +kernel
theorem okYa_17 : (List.range' (13 * 17) 13).all (fun k => decide (k = 1 ∨ k = 6 ∨ k = 72 ∨ k = 274 ∨ 275 ≤ k) || okY k) = true := by decide +kernel
theorem okYa_18 : (List.range' (13 * 18) 13).all (fun k => decide (k = 1 ∨ k = 6 ∨ k = 72 ∨ k = 274 ∨ 275 ≤ k) || okY k) = true := by decide +kernel
theorem okYa_19 : (List.range' (13 * 19) 13).all (fun k => decide (k = 1 ∨ k = 6 ∨ k = 72 ∨ k = 274 ∨ 275 ≤ k) || okY k) = true := by decide +kernel
theorem okYa_20 : (List.range' (13 * 20) 13).all (fun k => decide (k = 1 ∨ k = 6 ∨ k = 72 ∨ k = 274 ∨ 275 ≤ k) || okY k) = true := by decide +kernel
theorem okYa_21 : (List.range' (13 * 21) 13).all (fun k => decide (k = 1 ∨ k = 6 ∨ k = 72 ∨ k = 274 ∨ 275 ≤ k) || okY k) = true := by decide +kernel
theorem okYa_l : ∀ i ∈ [0, 1, 2, 3, 4, 5, 6, 7, 8, 9, 10, 11, 12, 13, 14, 15, 16, 17, 18, 19, 20, 21], (List.range' (13 * i) 13).all (fun k => decide (k = 1 ∨ k = 6 ∨ k = 72 ∨ k = 274 ∨ 275 ≤ k) || okY k) = true := List.forall_mem_cons.mpr ⟨okYa_0, List.forall_mem_cons.mpr ⟨okYa_1, List.forall_mem_cons.mpr ⟨okYa_2, List.forall_mem_cons.mpr ⟨okYa_3, List.forall_mem_cons.mpr ⟨okYa_4, List.forall_mem_cons.mpr ⟨okYa_5, List.forall_mem_cons.mpr ⟨okYa_6, List.forall_mem_cons.mpr ⟨okYa_7, List.forall_mem_cons.mpr ⟨okYa_8, List.forall_mem_cons.mpr ⟨okYa_9, List.forall_mem_cons.mpr ⟨okYa_10, List.forall_mem_cons.mpr ⟨okYa_11, List.forall_mem_cons.mpr ⟨okYa_12, List.forall_mem_cons.mpr ⟨okYa_13, List.forall_mem_cons.mpr ⟨okYa_14, List.forall_mem_cons.mpr ⟨okYa_15, List.forall_mem_cons.mpr ⟨okYa_16, List.forall_mem_cons.mpr ⟨okYa_17, List.forall_mem_cons.mpr ⟨okYa_18, List.forall_mem_cons.mpr ⟨okYa_19, List.forall_mem_cons.mpr ⟨okYa_20, List.forall_mem_cons.mpr ⟨okYa_21, fun _ h => absurd h List.not_mem_nil⟩⟩⟩⟩⟩⟩⟩⟩⟩⟩⟩⟩⟩⟩⟩⟩⟩⟩⟩⟩⟩⟩
theorem okY_all {k : Nat} (h : k < 275) : (decide (k = 1 ∨ k = 6 ∨ k = 72 ∨ k = 274 ∨ 275 ≤ k) || okY k) = true := by
  have hm : k / 13 ∈ [0, 1, 2, 3, 4, 5, 6, 7, 8, 9, 10, 11, 12, 13, 14, 15, 16, 17, 18, 19, 20, 21] := by
    rw [show [0, 1, 2, 3, 4, 5, 6, 7, 8, 9, 10, 11, 12, 13, 14, 15, 16, 17, 18, 19, 20, 21] = List.range 22 from rfl]
    exact List.mem_range.mpr (by omega)
  refine List.all_eq_true.mp (okYa_l _ hm) k ?_
  rw [List.mem_range']
  exact ⟨k % 13, Nat.mod_lt _ (by decide), by omega⟩
theorem okXa_0 : (List.range' (13 * 0) 13).all (fun k => decide (k = 25 ∨ 275 ≤ k) || okX (jmeths.getD k jm0)) = true := by decide +kernel
theorem okXa_1 : (List.range' (13 * 1) 13).all (fun k => decide (k = 25 ∨ 275 ≤ k) || okX (jmeths.getD k jm0)) = true := by decide +kernel
theorem okXa_2 : (List.range' (13 * 2) 13).all (fun k => decide (k = 25 ∨ 275 ≤ k) || okX (jmeths.getD k jm0)) = true := by decide +kernel
theorem okXa_3 : (List.range' (13 * 3) 13).all (fun k => decide (k = 25 ∨ 275 ≤ k) || okX (jmeths.getD k jm0)) = true := by decide +kernel
theorem okXa_4 : (List.range' (13 * 4) 13).all (fun k => decide (k = 25 ∨ 275 ≤ k) || okX (jmeths.getD k jm0)) = true := by decide +kernel
theorem okXa_5 : (List.range' (13 * 5) 13).all (fun k => decide (k = 25 ∨ 275 ≤ k) || okX (jmeths.getD k jm0)) = true := by decide +kernel
theorem okXa_6 : (List.range' (13 * 6) 13).all (fun k => decide (k = 25 ∨ 275 ≤ k) || okX (jmeths.getD k jm0)) = true := by decide +kernel
theorem okXa_7 : (List.range' (13 * 7) 13).all (fun k => decide (k = 25 ∨ 275 ≤ k) || okX (jmeths.getD k jm0)) = true := by decide +kernel
theorem okXa_8 : (List.range' (13 * 8) 13).all (fun k => decide (k = 25 ∨ 275 ≤ k) || okX (jmeths.getD k jm0)) = true := by decide +kernel
theorem okXa_9 : (List.range' (13 * 9) 13).all (fun k => decide (k = 25 ∨ 275 ≤ k) || okX (jmeths.getD k jm0)) = true := by decide +kernel
theorem okXa_10 : (List.range' (13 * 10) 13).all (fun k => decide (k = 25 ∨ 275 ≤ k) || okX (jmeths.getD k jm0)) = true := by decide +kernel
theorem okXa_11 : (List.range' (13 * 11) 13).all (fun k => decide (k = 25 ∨ 275 ≤ k) || okX (jmeths.getD k jm0)) = true := by decide +kernel
theorem okXa_12 : (List.range' (13 * 12) 13).all (fun k => decide (k = 25 ∨ 275 ≤ k) || okX (jmeths.getD k jm0)) = true := by decide +kernel
theorem okXa_13 : (List.range' (13 * 13) 13).all (fun k => decide (k = 25 ∨ 275 ≤ k) || okX (jmeths.getD k jm0)) = true := by decide +kernel
theorem okXa_14 : (List.range' (13 * 14) 13).all (fun k => decide (k = 25 ∨ 275 ≤ k) || okX (jmeths.getD k jm0)) = true := by decide +kernel
theorem okXa_15 : (List.range' (13 * 15) 13).all (fun k => decide (k = 25 ∨ 275 ≤ k) || okX (jmeths.getD k jm0)) = true := by decide +kernel
theorem okXa_16 : (List.range' (13 * 16) 13).all (fun k => decide (k = 25 ∨ 275 ≤ k) || okX (jmeths.getD k jm0)) = true := by decide +kernel
theorem okXa_17 : (List.range' (13 * 17) 13).all (fun k => decide (k = 25 ∨ 275 ≤ k) || okX (jmeths.getD k jm0)) = true := by decide +kernel
theorem okXa_18 : (List.range' (13 * 18) 13).all (fun k => decide (k = 25 ∨ 275 ≤ k) || okX (jmeths.getD k jm0)) = true := by decide +kernel
theorem okXa_19 : (List.range' (13 * 19) 13).all (fun k => decide (k = 25 ∨ 275 ≤ k) || okX (jmeths.getD k jm0)) = true := by decide +kernel
theorem okXa_20 : (List.range' (13 * 20) 13).all (fun k => decide (k = 25 ∨ 275 ≤ k) || okX (jmeths.getD k jm0)) = true := by decide +kernel
theorem okXa_21 : (List.range' (13 * 21) 13).all (fun k => decide (k = 25 ∨ 275 ≤ k) || okX (jmeths.getD k jm0)) = true := by decide +kernel
theorem okXa_l : ∀ i ∈ [0, 1, 2, 3, 4, 5, 6, 7, 8, 9, 10, 11, 12, 13, 14, 15, 16, 17, 18, 19, 20, 21], (List.range' (13 * i) 13).all (fun k => decide (k = 25 ∨ 275 ≤ k) || okX (jmeths.getD k jm0)) = true := List.forall_mem_cons.mpr ⟨okXa_0, List.forall_mem_cons.mpr ⟨okXa_1, List.forall_mem_cons.mpr ⟨okXa_2, List.forall_mem_cons.mpr ⟨okXa_3, List.forall_mem_cons.mpr ⟨okXa_4, List.forall_mem_cons.mpr ⟨okXa_5, List.forall_mem_cons.mpr ⟨okXa_6, List.forall_mem_cons.mpr ⟨okXa_7, List.forall_mem_cons.mpr ⟨okXa_8, List.forall_mem_cons.mpr ⟨okXa_9, List.forall_mem_cons.mpr ⟨okXa_10, List.forall_mem_cons.mpr ⟨okXa_11, List.forall_mem_cons.mpr ⟨okXa_12, List.forall_mem_cons.mpr ⟨okXa_13, List.forall_mem_cons.mpr ⟨okXa_14, List.forall_mem_cons.mpr ⟨okXa_15, List.forall_mem_cons.mpr ⟨okXa_16, List.forall_mem_cons.mpr ⟨okXa_17, List.forall_mem_cons.mpr ⟨okXa_18, List.forall_mem_cons.mpr ⟨okXa_19, List.forall_mem_cons.mpr ⟨okXa_20, List.forall_mem_cons.mpr ⟨okXa_21, fun _ h => absurd h List.not_mem_nil⟩⟩⟩⟩⟩⟩⟩⟩⟩⟩⟩⟩⟩⟩⟩⟩⟩⟩⟩⟩⟩⟩
theorem okX_all {k : Nat} (h : k < 275) : (decide (k = 25 ∨ 275 ≤ k) || okX (jmeths.getD k jm0)) = true := by
  have hm : k / 13 ∈ [0, 1, 2, 3, 4, 5, 6, 7, 8, 9, 10, 11, 12, 13, 14, 15, 16, 17, 18, 19, 20, 21] := by
    rw [show [0, 1, 2, 3, 4, 5, 6, 7, 8, 9, 10, 11, 12, 13, 14, 15, 16, 17, 18, 19, 20, 21] = List.range 22 from rfl]
    exact List.mem_range.mpr (by omega)
  refine List.all_eq_true.mp (okXa_l _ hm) k ?_
  rw [List.mem_range']
  exact ⟨k % 13, Nat.mod_lt _ (by decide), by omega⟩
theorem jlk : ∀ {l : List (Nat × JI)} {pc : Nat} {x : JI}, l.lookup pc = some x → (pc, x) ∈ l := by
  intro l
  induction l with
  | nil => intro pc x h; cases h
  | cons q l ih =>
    intro pc x h
    obtain ⟨k, y⟩ := q
    rw [List.lookup_cons] at h
    split at h
    · rename_i hb
      cases h
      rw [beq_iff_eq] at hb
      rw [hb]
      exact List.mem_cons_self
    · exact List.mem_cons_of_mem _ (ih h)
theorem jfacts {mi pc : Nat} {x : JI} (hM : okM (jmeths.getD mi jm0) = true) (hX : okX (jmeths.getD mi jm0) = true) (hc : jcode mi pc = some x) :
    decode (jmb mi) pc = .ok (x.1, x.2.1) ∧ okL (jnm mi) (jht mi) (jrt mi) (pc, x) = true ∧ okX1 (jmeths.getD mi jm0) (pc, x) = true := by
  have hm := jlk hc
  unfold okM at hM
  unfold okX at hX
  rw [Bool.and_eq_true] at hM hX
  refine ⟨?_, List.all_eq_true.mp hM.2 _ hm, List.all_eq_true.mp hX.1 _ hm⟩
  have h := List.all_eq_true.mp hM.1 _ hm
  show decode (jmeths.getD mi jm0).2.1 pc = _
  dsimp only at h
  split at h
  · rename_i r hr
    rw [hr, of_decide_eq_true h]
  · cases h
end
section
/-! all instructions that go on -/
theorem jfn_cls : jfnests.all (fun q => decide (q.2.2.1 ≠ 15)) = true := by decide +kernel
section J15
variable {E : JE} {mi : Nat} {p : Program} {l : Launch} {e : Env} {R : Room} {s : State} {m : MethodId} {args : Array Value} {below : List Frame} {meth : Method} {c : Code} {Q : State → Prop} {c0 s0 pc pc1 : Nat} {ls st ls1 st1 : List JV} {M M1 : JM} {len a b w : Nat}
theorem g_aload_n {k0 : Fin 4} (C : jCtx E mi p l s m args meth c) (f1 : decode (jmb mi) pc = .ok (.aload_n k0, len)) (f2 : okL (jnm mi) (jht mi) (jrt mi) (pc, .aload_n k0, len, a, b, w) = true) (f3 : okX1 (jmeths.getD mi jm0) (pc, .aload_n k0, len, a, b, w) = true) (hs : jstep (.aload_n k0, len, a, b, w) pc ls st M = some (.inl (pc1, ls1, st1, M1))) (hr1 : jcells M1 - c0 ≤ R.cells) (hr2 : jslots M1 - s0 ≤ R.slots) (hc0 : c0 ≤ jcells M) (hs0 : s0 ≤ jslots M) (k : jGo E mi p l e R s m args below meth c Q c0 s0 pc1 ls1 st1 M1) : jGo E mi p l e R s m args below meth c Q c0 s0 pc ls st M := by
  unfold jstep at hs
  dsimp only at hs
  have hl : len = 1 := of_decide_eq_true f3
  subst hl
  unfold jld2 at hs
  split at hs
  · rename_i z hz
    simp only [jN, Option.some.injEq, Sum.inl.injEq, Prod.mk.injEq] at hs
    obtain ⟨rfl, rfl, rfl, rfl⟩ := hs
    exact j_aload_n C f1 hz k
  · rename_i hz
    simp only [jN, Option.some.injEq, Sum.inl.injEq, Prod.mk.injEq] at hs
    obtain ⟨rfl, rfl, rfl, rfl⟩ := hs
    exact j_aload_nN C f1 hz k
  · cases hs
theorem g_aload {i : Nat} (C : jCtx E mi p l s m args meth c) (f1 : decode (jmb mi) pc = .ok (.aload i, len)) (f2 : okL (jnm mi) (jht mi) (jrt mi) (pc, .aload i, len, a, b, w) = true) (f3 : okX1 (jmeths.getD mi jm0) (pc, .aload i, len, a, b, w) = true) (hs : jstep (.aload i, len, a, b, w) pc ls st M = some (.inl (pc1, ls1, st1, M1))) (hr1 : jcells M1 - c0 ≤ R.cells) (hr2 : jslots M1 - s0 ≤ R.slots) (hc0 : c0 ≤ jcells M) (hs0 : s0 ≤ jslots M) (k : jGo E mi p l e R s m args below meth c Q c0 s0 pc1 ls1 st1 M1) : jGo E mi p l e R s m args below meth c Q c0 s0 pc ls st M := by
  unfold jstep at hs
  dsimp only at hs
  have hl : len = 2 := of_decide_eq_true f3
  subst hl
  unfold jld2 at hs
  split at hs
  · rename_i z hz
    simp only [jN, Option.some.injEq, Sum.inl.injEq, Prod.mk.injEq] at hs
    obtain ⟨rfl, rfl, rfl, rfl⟩ := hs
    exact j_aload C f1 hz k
  · rename_i hz
    simp only [jN, Option.some.injEq, Sum.inl.injEq, Prod.mk.injEq] at hs
    obtain ⟨rfl, rfl, rfl, rfl⟩ := hs
    exact j_aloadN C f1 hz k
  · cases hs
theorem g_iload_n {k0 : Fin 4} (C : jCtx E mi p l s m args meth c) (f1 : decode (jmb mi) pc = .ok (.iload_n k0, len)) (f2 : okL (jnm mi) (jht mi) (jrt mi) (pc, .iload_n k0, len, a, b, w) = true) (f3 : okX1 (jmeths.getD mi jm0) (pc, .iload_n k0, len, a, b, w) = true) (hs : jstep (.iload_n k0, len, a, b, w) pc ls st M = some (.inl (pc1, ls1, st1, M1))) (hr1 : jcells M1 - c0 ≤ R.cells) (hr2 : jslots M1 - s0 ≤ R.slots) (hc0 : c0 ≤ jcells M) (hs0 : s0 ≤ jslots M) (k : jGo E mi p l e R s m args below meth c Q c0 s0 pc1 ls1 st1 M1) : jGo E mi p l e R s m args below meth c Q c0 s0 pc ls st M := by
  unfold jstep at hs
  dsimp only at hs
  have hl : len = 1 := of_decide_eq_true f3
  subst hl
  unfold jld1 at hs
  split at hs
  · rename_i z hz
    simp only [jN, Option.some.injEq, Sum.inl.injEq, Prod.mk.injEq] at hs
    obtain ⟨rfl, rfl, rfl, rfl⟩ := hs
    exact j_iload_n C f1 hz k
  · cases hs
theorem g_iload {i : Nat} (C : jCtx E mi p l s m args meth c) (f1 : decode (jmb mi) pc = .ok (.iload i, len)) (f2 : okL (jnm mi) (jht mi) (jrt mi) (pc, .iload i, len, a, b, w) = true) (f3 : okX1 (jmeths.getD mi jm0) (pc, .iload i, len, a, b, w) = true) (hs : jstep (.iload i, len, a, b, w) pc ls st M = some (.inl (pc1, ls1, st1, M1))) (hr1 : jcells M1 - c0 ≤ R.cells) (hr2 : jslots M1 - s0 ≤ R.slots) (hc0 : c0 ≤ jcells M) (hs0 : s0 ≤ jslots M) (k : jGo E mi p l e R s m args below meth c Q c0 s0 pc1 ls1 st1 M1) : jGo E mi p l e R s m args below meth c Q c0 s0 pc ls st M := by
  unfold jstep at hs
  dsimp only at hs
  have hl : len = 2 := of_decide_eq_true f3
  subst hl
  unfold jld1 at hs
  split at hs
  · rename_i z hz
    simp only [jN, Option.some.injEq, Sum.inl.injEq, Prod.mk.injEq] at hs
    obtain ⟨rfl, rfl, rfl, rfl⟩ := hs
    exact j_iload C f1 hz k
  · cases hs
theorem g_istore_n {k0 : Fin 4} (C : jCtx E mi p l s m args meth c) (f1 : decode (jmb mi) pc = .ok (.istore_n k0, len)) (f2 : okL (jnm mi) (jht mi) (jrt mi) (pc, .istore_n k0, len, a, b, w) = true) (f3 : okX1 (jmeths.getD mi jm0) (pc, .istore_n k0, len, a, b, w) = true) (hs : jstep (.istore_n k0, len, a, b, w) pc ls st M = some (.inl (pc1, ls1, st1, M1))) (hr1 : jcells M1 - c0 ≤ R.cells) (hr2 : jslots M1 - s0 ≤ R.slots) (hc0 : c0 ≤ jcells M) (hs0 : s0 ≤ jslots M) (k : jGo E mi p l e R s m args below meth c Q c0 s0 pc1 ls1 st1 M1) : jGo E mi p l e R s m args below meth c Q c0 s0 pc ls st M := by
  unfold jstep at hs
  dsimp only at hs
  have hl : len = 1 := of_decide_eq_true f3
  subst hl
  unfold jst1 at hs
  split at hs
  · unfold jNo at hs
    split at hs
    · rename_i hl
      simp only [jN, Option.some.injEq, Sum.inl.injEq, Prod.mk.injEq] at hs
      obtain ⟨rfl, rfl, rfl, rfl⟩ := hs
      exact j_istore_n C f1 hl k
    · cases hs
  · cases hs
theorem g_istore {i : Nat} (C : jCtx E mi p l s m args meth c) (f1 : decode (jmb mi) pc = .ok (.istore i, len)) (f2 : okL (jnm mi) (jht mi) (jrt mi) (pc, .istore i, len, a, b, w) = true) (f3 : okX1 (jmeths.getD mi jm0) (pc, .istore i, len, a, b, w) = true) (hs : jstep (.istore i, len, a, b, w) pc ls st M = some (.inl (pc1, ls1, st1, M1))) (hr1 : jcells M1 - c0 ≤ R.cells) (hr2 : jslots M1 - s0 ≤ R.slots) (hc0 : c0 ≤ jcells M) (hs0 : s0 ≤ jslots M) (k : jGo E mi p l e R s m args below meth c Q c0 s0 pc1 ls1 st1 M1) : jGo E mi p l e R s m args below meth c Q c0 s0 pc ls st M := by
  unfold jstep at hs
  dsimp only at hs
  have hl : len = 2 := of_decide_eq_true f3
  subst hl
  unfold jst1 at hs
  split at hs
  · unfold jNo at hs
    split at hs
    · rename_i hl
      simp only [jN, Option.some.injEq, Sum.inl.injEq, Prod.mk.injEq] at hs
      obtain ⟨rfl, rfl, rfl, rfl⟩ := hs
      exact j_istore C f1 hl k
    · cases hs
  · cases hs
theorem g_astore_n {k0 : Fin 4} (C : jCtx E mi p l s m args meth c) (f1 : decode (jmb mi) pc = .ok (.astore_n k0, len)) (f2 : okL (jnm mi) (jht mi) (jrt mi) (pc, .astore_n k0, len, a, b, w) = true) (f3 : okX1 (jmeths.getD mi jm0) (pc, .astore_n k0, len, a, b, w) = true) (hs : jstep (.astore_n k0, len, a, b, w) pc ls st M = some (.inl (pc1, ls1, st1, M1))) (hr1 : jcells M1 - c0 ≤ R.cells) (hr2 : jslots M1 - s0 ≤ R.slots) (hc0 : c0 ≤ jcells M) (hs0 : s0 ≤ jslots M) (k : jGo E mi p l e R s m args below meth c Q c0 s0 pc1 ls1 st1 M1) : jGo E mi p l e R s m args below meth c Q c0 s0 pc ls st M := by
  unfold jstep at hs
  dsimp only at hs
  have hl : len = 1 := of_decide_eq_true f3
  subst hl
  unfold jst2 at hs
  split at hs
  · unfold jNo at hs
    split at hs
    · rename_i hl
      simp only [jN, Option.some.injEq, Sum.inl.injEq, Prod.mk.injEq] at hs
      obtain ⟨rfl, rfl, rfl, rfl⟩ := hs
      exact j_astore_n C f1 hl k
    · cases hs
  · unfold jNo at hs
    split at hs
    · rename_i hl
      simp only [jN, Option.some.injEq, Sum.inl.injEq, Prod.mk.injEq] at hs
      obtain ⟨rfl, rfl, rfl, rfl⟩ := hs
      exact j_astore_nN C f1 hl k
    · cases hs
  · cases hs
theorem g_astore {i : Nat} (C : jCtx E mi p l s m args meth c) (f1 : decode (jmb mi) pc = .ok (.astore i, len)) (f2 : okL (jnm mi) (jht mi) (jrt mi) (pc, .astore i, len, a, b, w) = true) (f3 : okX1 (jmeths.getD mi jm0) (pc, .astore i, len, a, b, w) = true) (hs : jstep (.astore i, len, a, b, w) pc ls st M = some (.inl (pc1, ls1, st1, M1))) (hr1 : jcells M1 - c0 ≤ R.cells) (hr2 : jslots M1 - s0 ≤ R.slots) (hc0 : c0 ≤ jcells M) (hs0 : s0 ≤ jslots M) (k : jGo E mi p l e R s m args below meth c Q c0 s0 pc1 ls1 st1 M1) : jGo E mi p l e R s m args below meth c Q c0 s0 pc ls st M := by
  unfold jstep at hs
  dsimp only at hs
  have hl : len = 2 := of_decide_eq_true f3
  subst hl
  unfold jst2 at hs
  split at hs
  · unfold jNo at hs
    split at hs
    · rename_i hl
      simp only [jN, Option.some.injEq, Sum.inl.injEq, Prod.mk.injEq] at hs
      obtain ⟨rfl, rfl, rfl, rfl⟩ := hs
      exact j_astore C f1 hl k
    · cases hs
  · unfold jNo at hs
    split at hs
    · rename_i hl
      simp only [jN, Option.some.injEq, Sum.inl.injEq, Prod.mk.injEq] at hs
      obtain ⟨rfl, rfl, rfl, rfl⟩ := hs
      exact j_astoreN C f1 hl k
    · cases hs
  · cases hs
theorem g_iinc {i : Nat} {n : Int} (C : jCtx E mi p l s m args meth c) (f1 : decode (jmb mi) pc = .ok (.iinc i n, len)) (f2 : okL (jnm mi) (jht mi) (jrt mi) (pc, .iinc i n, len, a, b, w) = true) (f3 : okX1 (jmeths.getD mi jm0) (pc, .iinc i n, len, a, b, w) = true) (hs : jstep (.iinc i n, len, a, b, w) pc ls st M = some (.inl (pc1, ls1, st1, M1))) (hr1 : jcells M1 - c0 ≤ R.cells) (hr2 : jslots M1 - s0 ≤ R.slots) (hc0 : c0 ≤ jcells M) (hs0 : s0 ≤ jslots M) (k : jGo E mi p l e R s m args below meth c Q c0 s0 pc1 ls1 st1 M1) : jGo E mi p l e R s m args below meth c Q c0 s0 pc ls st M := by
  unfold jstep at hs
  dsimp only at hs
  have hl : len = 3 := of_decide_eq_true f3
  subst hl
  split at hs
  · rename_i z hz
    unfold jNo at hs
    split at hs
    · rename_i hl
      simp only [jN, Option.some.injEq, Sum.inl.injEq, Prod.mk.injEq] at hs
      obtain ⟨rfl, rfl, rfl, rfl⟩ := hs
      exact j_iinc C f1 hz hl k
    · cases hs
  · cases hs
theorem g_iconst {n : Int} (C : jCtx E mi p l s m args meth c) (f1 : decode (jmb mi) pc = .ok (.iconst n, len)) (f2 : okL (jnm mi) (jht mi) (jrt mi) (pc, .iconst n, len, a, b, w) = true) (f3 : okX1 (jmeths.getD mi jm0) (pc, .iconst n, len, a, b, w) = true) (hs : jstep (.iconst n, len, a, b, w) pc ls st M = some (.inl (pc1, ls1, st1, M1))) (hr1 : jcells M1 - c0 ≤ R.cells) (hr2 : jslots M1 - s0 ≤ R.slots) (hc0 : c0 ≤ jcells M) (hs0 : s0 ≤ jslots M) (k : jGo E mi p l e R s m args below meth c Q c0 s0 pc1 ls1 st1 M1) : jGo E mi p l e R s m args below meth c Q c0 s0 pc ls st M := by
  unfold jstep at hs
  dsimp only at hs
  have hl : len = 1 := of_decide_eq_true f3
  subst hl
  have hn : -1 ≤ n ∧ n ≤ 5 := of_decide_eq_true f2
  simp only [jN, Option.some.injEq, Sum.inl.injEq, Prod.mk.injEq] at hs
  obtain ⟨rfl, rfl, rfl, rfl⟩ := hs
  exact j_iconst C f1 hn k
theorem g_bipush {n : Int} (C : jCtx E mi p l s m args meth c) (f1 : decode (jmb mi) pc = .ok (.bipush n, len)) (f2 : okL (jnm mi) (jht mi) (jrt mi) (pc, .bipush n, len, a, b, w) = true) (f3 : okX1 (jmeths.getD mi jm0) (pc, .bipush n, len, a, b, w) = true) (hs : jstep (.bipush n, len, a, b, w) pc ls st M = some (.inl (pc1, ls1, st1, M1))) (hr1 : jcells M1 - c0 ≤ R.cells) (hr2 : jslots M1 - s0 ≤ R.slots) (hc0 : c0 ≤ jcells M) (hs0 : s0 ≤ jslots M) (k : jGo E mi p l e R s m args below meth c Q c0 s0 pc1 ls1 st1 M1) : jGo E mi p l e R s m args below meth c Q c0 s0 pc ls st M := by
  unfold jstep at hs
  dsimp only at hs
  have hl : len = 2 ∧ -128 ≤ n ∧ n ≤ 127 := of_decide_eq_true f3
  obtain ⟨rfl, h1, h2⟩ := hl
  have hn := of_decide_eq_true f2
  simp only [jN, Option.some.injEq, Sum.inl.injEq, Prod.mk.injEq] at hs
  obtain ⟨rfl, rfl, rfl, rfl⟩ := hs
  exact j_bipush C f1 hn (jofi (by omega)) k
theorem g_sipush {n : Int} (C : jCtx E mi p l s m args meth c) (f1 : decode (jmb mi) pc = .ok (.sipush n, len)) (f2 : okL (jnm mi) (jht mi) (jrt mi) (pc, .sipush n, len, a, b, w) = true) (f3 : okX1 (jmeths.getD mi jm0) (pc, .sipush n, len, a, b, w) = true) (hs : jstep (.sipush n, len, a, b, w) pc ls st M = some (.inl (pc1, ls1, st1, M1))) (hr1 : jcells M1 - c0 ≤ R.cells) (hr2 : jslots M1 - s0 ≤ R.slots) (hc0 : c0 ≤ jcells M) (hs0 : s0 ≤ jslots M) (k : jGo E mi p l e R s m args below meth c Q c0 s0 pc1 ls1 st1 M1) : jGo E mi p l e R s m args below meth c Q c0 s0 pc ls st M := by
  unfold jstep at hs
  dsimp only at hs
  have hl : len = 3 ∧ -32768 ≤ n ∧ n ≤ 32767 := of_decide_eq_true f3
  obtain ⟨rfl, h1, h2⟩ := hl
  have hn := of_decide_eq_true f2
  simp only [jN, Option.some.injEq, Sum.inl.injEq, Prod.mk.injEq] at hs
  obtain ⟨rfl, rfl, rfl, rfl⟩ := hs
  exact j_sipush C f1 hn (jofi (by omega)) k
theorem g_lconst {n : Fin 2} (C : jCtx E mi p l s m args meth c) (f1 : decode (jmb mi) pc = .ok (.lconst n, len)) (f2 : okL (jnm mi) (jht mi) (jrt mi) (pc, .lconst n, len, a, b, w) = true) (f3 : okX1 (jmeths.getD mi jm0) (pc, .lconst n, len, a, b, w) = true) (hs : jstep (.lconst n, len, a, b, w) pc ls st M = some (.inl (pc1, ls1, st1, M1))) (hr1 : jcells M1 - c0 ≤ R.cells) (hr2 : jslots M1 - s0 ≤ R.slots) (hc0 : c0 ≤ jcells M) (hs0 : s0 ≤ jslots M) (k : jGo E mi p l e R s m args below meth c Q c0 s0 pc1 ls1 st1 M1) : jGo E mi p l e R s m args below meth c Q c0 s0 pc ls st M := by
  unfold jstep at hs
  dsimp only at hs
  have hl : len = 1 := of_decide_eq_true f3
  subst hl
  simp only [jN, Option.some.injEq, Sum.inl.injEq, Prod.mk.injEq] at hs
  obtain ⟨rfl, rfl, rfl, rfl⟩ := hs
  exact j_lconst C f1 k
theorem g_ldc {n : Nat} (C : jCtx E mi p l s m args meth c) (f1 : decode (jmb mi) pc = .ok (.ldc n, len)) (f2 : okL (jnm mi) (jht mi) (jrt mi) (pc, .ldc n, len, a, b, w) = true) (f3 : okX1 (jmeths.getD mi jm0) (pc, .ldc n, len, a, b, w) = true) (hs : jstep (.ldc n, len, a, b, w) pc ls st M = some (.inl (pc1, ls1, st1, M1))) (hr1 : jcells M1 - c0 ≤ R.cells) (hr2 : jslots M1 - s0 ≤ R.slots) (hc0 : c0 ≤ jcells M) (hs0 : s0 ≤ jslots M) (k : jGo E mi p l e R s m args below meth c Q c0 s0 pc1 ls1 st1 M1) : jGo E mi p l e R s m args below meth c Q c0 s0 pc ls st M := by
  unfold jstep at hs
  dsimp only at hs
  have e3 : (decide (len = 2) && (if b = 0 then decide (a < 4294967296) else if b = 1 then decide (((jnm mi).cls, n, a) ∈ jstrs) else true)) = true := f3
  have e2 : (if b = 0 then jtw w (.constant (jnm mi).cls n (Int32.ofInt ((a : Int) - 2147483648))) else if b = 1 then decide (jtab w = some (.stringRef (jnm mi).cls n (jtext a))) && decide (a < 14) else true) = true := f2
  rw [Bool.and_eq_true] at e3
  have hl := of_decide_eq_true e3.1
  subst hl
  by_cases hb : b = 0
  · rw [if_pos hb] at hs e2 e3
    simp only [jN, Option.some.injEq, Sum.inl.injEq, Prod.mk.injEq] at hs
    obtain ⟨rfl, rfl, rfl, rfl⟩ := hs
    exact j_ldcI C f1 (jtw_mem e2) (of_decide_eq_true e3.2) k
  · rw [if_neg hb] at hs e2 e3
    by_cases hb1 : b = 1
    · rw [if_pos hb1] at hs e2 e3
      simp only [jN, Option.some.injEq, Sum.inl.injEq, Prod.mk.injEq] at hs
      obtain ⟨rfl, rfl, rfl, rfl⟩ := hs
      rw [Bool.and_eq_true] at e2
      exact j_ldcS C f1 (of_decide_eq_true e3.2) (of_decide_eq_true e2.2) k
    · rw [if_neg hb1] at hs
      cases hs
theorem g_ldc_w {n : Nat} (C : jCtx E mi p l s m args meth c) (f1 : decode (jmb mi) pc = .ok (.ldc_w n, len)) (f2 : okL (jnm mi) (jht mi) (jrt mi) (pc, .ldc_w n, len, a, b, w) = true) (f3 : okX1 (jmeths.getD mi jm0) (pc, .ldc_w n, len, a, b, w) = true) (hs : jstep (.ldc_w n, len, a, b, w) pc ls st M = some (.inl (pc1, ls1, st1, M1))) (hr1 : jcells M1 - c0 ≤ R.cells) (hr2 : jslots M1 - s0 ≤ R.slots) (hc0 : c0 ≤ jcells M) (hs0 : s0 ≤ jslots M) (k : jGo E mi p l e R s m args below meth c Q c0 s0 pc1 ls1 st1 M1) : jGo E mi p l e R s m args below meth c Q c0 s0 pc ls st M := by
  unfold jstep at hs
  dsimp only at hs
  have e3 : (decide (len = 3) && (if b = 0 then decide (a < 4294967296) else if b = 1 then decide (((jnm mi).cls, n, a) ∈ jstrs) else true)) = true := f3
  have e2 : (if b = 0 then jtw w (.constant (jnm mi).cls n (Int32.ofInt ((a : Int) - 2147483648))) else if b = 1 then decide (jtab w = some (.stringRef (jnm mi).cls n (jtext a))) && decide (a < 14) else true) = true := f2
  rw [Bool.and_eq_true] at e3
  have hl := of_decide_eq_true e3.1
  subst hl
  by_cases hb : b = 0
  · rw [if_pos hb] at hs e2 e3
    simp only [jN, Option.some.injEq, Sum.inl.injEq, Prod.mk.injEq] at hs
    obtain ⟨rfl, rfl, rfl, rfl⟩ := hs
    exact j_ldcwI C f1 (jtw_mem e2) (of_decide_eq_true e3.2) k
  · rw [if_neg hb] at hs e2 e3
    by_cases hb1 : b = 1
    · rw [if_pos hb1] at hs e2 e3
      simp only [jN, Option.some.injEq, Sum.inl.injEq, Prod.mk.injEq] at hs
      obtain ⟨rfl, rfl, rfl, rfl⟩ := hs
      rw [Bool.and_eq_true] at e2
      exact j_ldcwS C f1 (of_decide_eq_true e3.2) (of_decide_eq_true e2.2) k
    · rw [if_neg hb1] at hs
      cases hs
theorem g_getstatic {n : Nat} (C : jCtx E mi p l s m args meth c) (f1 : decode (jmb mi) pc = .ok (.getstatic n, len)) (f2 : okL (jnm mi) (jht mi) (jrt mi) (pc, .getstatic n, len, a, b, w) = true) (f3 : okX1 (jmeths.getD mi jm0) (pc, .getstatic n, len, a, b, w) = true) (hs : jstep (.getstatic n, len, a, b, w) pc ls st M = some (.inl (pc1, ls1, st1, M1))) (hr1 : jcells M1 - c0 ≤ R.cells) (hr2 : jslots M1 - s0 ≤ R.slots) (hc0 : c0 ≤ jcells M) (hs0 : s0 ≤ jslots M) (k : jGo E mi p l e R s m args below meth c Q c0 s0 pc1 ls1 st1 M1) : jGo E mi p l e R s m args below meth c Q c0 s0 pc ls st M := by
  unfold jstep at hs
  dsimp only at hs
  have hl : len = 3 := of_decide_eq_true f3
  subst hl
  have e2 : (if a = 0 then jtw w (.fieldLink (jnm mi).cls n "java/lang/String" "COMPACT_STRINGS" "Z") else if a = 1 then jtw w (.fieldLink (jnm mi).cls n "java/util/ArrayList" "DEFAULTCAPACITY_EMPTY_ELEMENTDATA" "[Ljava/lang/Object;") else true) = true := f2
  split at hs
  · rename_i ha
    rw [if_pos ha] at e2
    simp only [jN, Option.some.injEq, Sum.inl.injEq, Prod.mk.injEq] at hs
    obtain ⟨rfl, rfl, rfl, rfl⟩ := hs
    exact j_getstatic C f1 (jtw_mem e2) k
  · rename_i ha
    rw [if_neg ha] at e2
    split at hs
    · rename_i ha1
      rw [if_pos ha1] at e2
      simp only [jN, Option.some.injEq, Sum.inl.injEq, Prod.mk.injEq] at hs
      obtain ⟨rfl, rfl, rfl, rfl⟩ := hs
      exact j_getstaticE C f1 (jtw_mem e2) k
    · cases hs
theorem g_aconst_null  (C : jCtx E mi p l s m args meth c) (f1 : decode (jmb mi) pc = .ok (.aconst_null, len)) (f2 : okL (jnm mi) (jht mi) (jrt mi) (pc, .aconst_null, len, a, b, w) = true) (f3 : okX1 (jmeths.getD mi jm0) (pc, .aconst_null, len, a, b, w) = true) (hs : jstep (.aconst_null, len, a, b, w) pc ls st M = some (.inl (pc1, ls1, st1, M1))) (hr1 : jcells M1 - c0 ≤ R.cells) (hr2 : jslots M1 - s0 ≤ R.slots) (hc0 : c0 ≤ jcells M) (hs0 : s0 ≤ jslots M) (k : jGo E mi p l e R s m args below meth c Q c0 s0 pc1 ls1 st1 M1) : jGo E mi p l e R s m args below meth c Q c0 s0 pc ls st M := by
  unfold jstep at hs
  dsimp only at hs
  have hl : len = 1 := of_decide_eq_true f3
  subst hl
  simp only [jN, Option.some.injEq, Sum.inl.injEq, Prod.mk.injEq] at hs
  obtain ⟨rfl, rfl, rfl, rfl⟩ := hs
  exact j_aconst_null C f1 k
theorem g_ldc2_w {n : Nat} (C : jCtx E mi p l s m args meth c) (f1 : decode (jmb mi) pc = .ok (.ldc2_w n, len)) (f2 : okL (jnm mi) (jht mi) (jrt mi) (pc, .ldc2_w n, len, a, b, w) = true) (f3 : okX1 (jmeths.getD mi jm0) (pc, .ldc2_w n, len, a, b, w) = true) (hs : jstep (.ldc2_w n, len, a, b, w) pc ls st M = some (.inl (pc1, ls1, st1, M1))) (hr1 : jcells M1 - c0 ≤ R.cells) (hr2 : jslots M1 - s0 ≤ R.slots) (hc0 : c0 ≤ jcells M) (hs0 : s0 ≤ jslots M) (k : jGo E mi p l e R s m args below meth c Q c0 s0 pc1 ls1 st1 M1) : jGo E mi p l e R s m args below meth c Q c0 s0 pc ls st M := by
  unfold jstep at hs
  dsimp only at hs
  have hl : len = 3 := of_decide_eq_true f3
  subst hl
  simp only [jN, Option.some.injEq, Sum.inl.injEq, Prod.mk.injEq] at hs
  obtain ⟨rfl, rfl, rfl, rfl⟩ := hs
  exact j_ldc2 C f1 (jtw_mem f2) k
theorem g_idiv  (C : jCtx E mi p l s m args meth c) (f1 : decode (jmb mi) pc = .ok (.idiv, len)) (f2 : okL (jnm mi) (jht mi) (jrt mi) (pc, .idiv, len, a, b, w) = true) (f3 : okX1 (jmeths.getD mi jm0) (pc, .idiv, len, a, b, w) = true) (hs : jstep (.idiv, len, a, b, w) pc ls st M = some (.inl (pc1, ls1, st1, M1))) (hr1 : jcells M1 - c0 ≤ R.cells) (hr2 : jslots M1 - s0 ≤ R.slots) (hc0 : c0 ≤ jcells M) (hs0 : s0 ≤ jslots M) (k : jGo E mi p l e R s m args below meth c Q c0 s0 pc1 ls1 st1 M1) : jGo E mi p l e R s m args below meth c Q c0 s0 pc ls st M := by
  unfold jstep at hs
  dsimp only at hs
  have hl : len = 1 := of_decide_eq_true f3
  subst hl
  split at hs
  · split at hs
    · rename_i hn
      simp only [jN, Option.some.injEq, Sum.inl.injEq, Prod.mk.injEq] at hs
      obtain ⟨rfl, rfl, rfl, rfl⟩ := hs
      exact j_idiv C f1 hn.1 k
    · cases hs
  · cases hs
theorem g_irem  (C : jCtx E mi p l s m args meth c) (f1 : decode (jmb mi) pc = .ok (.irem, len)) (f2 : okL (jnm mi) (jht mi) (jrt mi) (pc, .irem, len, a, b, w) = true) (f3 : okX1 (jmeths.getD mi jm0) (pc, .irem, len, a, b, w) = true) (hs : jstep (.irem, len, a, b, w) pc ls st M = some (.inl (pc1, ls1, st1, M1))) (hr1 : jcells M1 - c0 ≤ R.cells) (hr2 : jslots M1 - s0 ≤ R.slots) (hc0 : c0 ≤ jcells M) (hs0 : s0 ≤ jslots M) (k : jGo E mi p l e R s m args below meth c Q c0 s0 pc1 ls1 st1 M1) : jGo E mi p l e R s m args below meth c Q c0 s0 pc ls st M := by
  unfold jstep at hs
  dsimp only at hs
  have hl : len = 1 := of_decide_eq_true f3
  subst hl
  split at hs
  · split at hs
    · rename_i hn
      simp only [jN, Option.some.injEq, Sum.inl.injEq, Prod.mk.injEq] at hs
      obtain ⟨rfl, rfl, rfl, rfl⟩ := hs
      exact j_irem C f1 hn.1 k
    · cases hs
  · cases hs
theorem g_dup_x1  (C : jCtx E mi p l s m args meth c) (f1 : decode (jmb mi) pc = .ok (.dup_x1, len)) (f2 : okL (jnm mi) (jht mi) (jrt mi) (pc, .dup_x1, len, a, b, w) = true) (f3 : okX1 (jmeths.getD mi jm0) (pc, .dup_x1, len, a, b, w) = true) (hs : jstep (.dup_x1, len, a, b, w) pc ls st M = some (.inl (pc1, ls1, st1, M1))) (hr1 : jcells M1 - c0 ≤ R.cells) (hr2 : jslots M1 - s0 ≤ R.slots) (hc0 : c0 ≤ jcells M) (hs0 : s0 ≤ jslots M) (k : jGo E mi p l e R s m args below meth c Q c0 s0 pc1 ls1 st1 M1) : jGo E mi p l e R s m args below meth c Q c0 s0 pc ls st M := by
  unfold jstep at hs
  dsimp only at hs
  have hl : len = 1 := of_decide_eq_true f3
  subst hl
  split at hs
  · split at hs
    · rename_i hn
      simp only [jN, Option.some.injEq, Sum.inl.injEq, Prod.mk.injEq] at hs
      obtain ⟨rfl, rfl, rfl, rfl⟩ := hs
      exact j_dup_x1 C f1 hn.1 hn.2 k
    · cases hs
  · cases hs
theorem g_checkcast {n : Nat} (C : jCtx E mi p l s m args meth c) (f1 : decode (jmb mi) pc = .ok (.checkcast n, len)) (f2 : okL (jnm mi) (jht mi) (jrt mi) (pc, .checkcast n, len, a, b, w) = true) (f3 : okX1 (jmeths.getD mi jm0) (pc, .checkcast n, len, a, b, w) = true) (hs : jstep (.checkcast n, len, a, b, w) pc ls st M = some (.inl (pc1, ls1, st1, M1))) (hr1 : jcells M1 - c0 ≤ R.cells) (hr2 : jslots M1 - s0 ≤ R.slots) (hc0 : c0 ≤ jcells M) (hs0 : s0 ≤ jslots M) (k : jGo E mi p l e R s m args below meth c Q c0 s0 pc1 ls1 st1 M1) : jGo E mi p l e R s m args below meth c Q c0 s0 pc ls st M := by
  unfold jstep at hs
  dsimp only at hs
  have hl : len = 3 := of_decide_eq_true f3
  subst hl
  have e2 : (jtw w (.classLink (jnm mi).cls n (jcasn a)) && decide (a = 101 ∨ a = 116 ∨ a = 11)) = true := f2
  rw [Bool.and_eq_true] at e2
  split at hs
  · split at hs
    · rename_i hn
      simp only [jN, Option.some.injEq, Sum.inl.injEq, Prod.mk.injEq] at hs
      obtain ⟨rfl, rfl, rfl, rfl⟩ := hs
      exact j_cast C f1 (jtw_mem e2.1) (of_decide_eq_true e2.2) hn.1 hn.2 k
    · cases hs
  · simp only [jN, Option.some.injEq, Sum.inl.injEq, Prod.mk.injEq] at hs
    obtain ⟨rfl, rfl, rfl, rfl⟩ := hs
    exact j_castN C f1 k
  · cases hs
theorem g_if_acmp {cc : Jvm.ClassFile.ACond} {off : Int} (C : jCtx E mi p l s m args meth c) (f1 : decode (jmb mi) pc = .ok (.if_acmp cc off, len)) (f2 : okL (jnm mi) (jht mi) (jrt mi) (pc, .if_acmp cc off, len, a, b, w) = true) (f3 : okX1 (jmeths.getD mi jm0) (pc, .if_acmp cc off, len, a, b, w) = true) (hs : jstep (.if_acmp cc off, len, a, b, w) pc ls st M = some (.inl (pc1, ls1, st1, M1))) (hr1 : jcells M1 - c0 ≤ R.cells) (hr2 : jslots M1 - s0 ≤ R.slots) (hc0 : c0 ≤ jcells M) (hs0 : s0 ≤ jslots M) (k : jGo E mi p l e R s m args below meth c Q c0 s0 pc1 ls1 st1 M1) : jGo E mi p l e R s m args below meth c Q c0 s0 pc ls st M := by
  unfold jstep at hs
  dsimp only at hs
  have hl : len = 3 := of_decide_eq_true f3
  subst hl
  split at hs
  · split at hs
    · rename_i hn
      unfold jbr at hs
      split at hs
      · rename_i hc
        simp only [jN, Option.some.injEq, Sum.inl.injEq, Prod.mk.injEq] at hs
        obtain ⟨rfl, rfl, rfl, rfl⟩ := hs
        exact j_acmp C f1 (of_decide_eq_true f2) hn.1 hn.2.1 hn.2.2 (fun _ => k) (fun h => by rw [hc] at h; cases h)
      · rename_i hc
        simp only [jN, Option.some.injEq, Sum.inl.injEq, Prod.mk.injEq] at hs
        obtain ⟨rfl, rfl, rfl, rfl⟩ := hs
        exact j_acmp C f1 (of_decide_eq_true f2) hn.1 hn.2.1 hn.2.2 (fun h => absurd h hc) (fun _ => k)
    · cases hs
  · cases hs
theorem g_iadd  (C : jCtx E mi p l s m args meth c) (f1 : decode (jmb mi) pc = .ok (.iadd, len)) (f2 : okL (jnm mi) (jht mi) (jrt mi) (pc, .iadd, len, a, b, w) = true) (f3 : okX1 (jmeths.getD mi jm0) (pc, .iadd, len, a, b, w) = true) (hs : jstep (.iadd, len, a, b, w) pc ls st M = some (.inl (pc1, ls1, st1, M1))) (hr1 : jcells M1 - c0 ≤ R.cells) (hr2 : jslots M1 - s0 ≤ R.slots) (hc0 : c0 ≤ jcells M) (hs0 : s0 ≤ jslots M) (k : jGo E mi p l e R s m args below meth c Q c0 s0 pc1 ls1 st1 M1) : jGo E mi p l e R s m args below meth c Q c0 s0 pc ls st M := by
  unfold jstep at hs
  dsimp only at hs
  have hl : len = 1 := of_decide_eq_true f3
  subst hl
  split at hs
  · simp only [jN, Option.some.injEq, Sum.inl.injEq, Prod.mk.injEq] at hs
    obtain ⟨rfl, rfl, rfl, rfl⟩ := hs
    exact j_iadd C f1 k
  · cases hs
theorem g_isub  (C : jCtx E mi p l s m args meth c) (f1 : decode (jmb mi) pc = .ok (.isub, len)) (f2 : okL (jnm mi) (jht mi) (jrt mi) (pc, .isub, len, a, b, w) = true) (f3 : okX1 (jmeths.getD mi jm0) (pc, .isub, len, a, b, w) = true) (hs : jstep (.isub, len, a, b, w) pc ls st M = some (.inl (pc1, ls1, st1, M1))) (hr1 : jcells M1 - c0 ≤ R.cells) (hr2 : jslots M1 - s0 ≤ R.slots) (hc0 : c0 ≤ jcells M) (hs0 : s0 ≤ jslots M) (k : jGo E mi p l e R s m args below meth c Q c0 s0 pc1 ls1 st1 M1) : jGo E mi p l e R s m args below meth c Q c0 s0 pc ls st M := by
  unfold jstep at hs
  dsimp only at hs
  have hl : len = 1 := of_decide_eq_true f3
  subst hl
  split at hs
  · simp only [jN, Option.some.injEq, Sum.inl.injEq, Prod.mk.injEq] at hs
    obtain ⟨rfl, rfl, rfl, rfl⟩ := hs
    exact j_isub C f1 k
  · cases hs
theorem g_imul  (C : jCtx E mi p l s m args meth c) (f1 : decode (jmb mi) pc = .ok (.imul, len)) (f2 : okL (jnm mi) (jht mi) (jrt mi) (pc, .imul, len, a, b, w) = true) (f3 : okX1 (jmeths.getD mi jm0) (pc, .imul, len, a, b, w) = true) (hs : jstep (.imul, len, a, b, w) pc ls st M = some (.inl (pc1, ls1, st1, M1))) (hr1 : jcells M1 - c0 ≤ R.cells) (hr2 : jslots M1 - s0 ≤ R.slots) (hc0 : c0 ≤ jcells M) (hs0 : s0 ≤ jslots M) (k : jGo E mi p l e R s m args below meth c Q c0 s0 pc1 ls1 st1 M1) : jGo E mi p l e R s m args below meth c Q c0 s0 pc ls st M := by
  unfold jstep at hs
  dsimp only at hs
  have hl : len = 1 := of_decide_eq_true f3
  subst hl
  split at hs
  · simp only [jN, Option.some.injEq, Sum.inl.injEq, Prod.mk.injEq] at hs
    obtain ⟨rfl, rfl, rfl, rfl⟩ := hs
    exact j_imul C f1 k
  · cases hs
theorem g_iand  (C : jCtx E mi p l s m args meth c) (f1 : decode (jmb mi) pc = .ok (.iand, len)) (f2 : okL (jnm mi) (jht mi) (jrt mi) (pc, .iand, len, a, b, w) = true) (f3 : okX1 (jmeths.getD mi jm0) (pc, .iand, len, a, b, w) = true) (hs : jstep (.iand, len, a, b, w) pc ls st M = some (.inl (pc1, ls1, st1, M1))) (hr1 : jcells M1 - c0 ≤ R.cells) (hr2 : jslots M1 - s0 ≤ R.slots) (hc0 : c0 ≤ jcells M) (hs0 : s0 ≤ jslots M) (k : jGo E mi p l e R s m args below meth c Q c0 s0 pc1 ls1 st1 M1) : jGo E mi p l e R s m args below meth c Q c0 s0 pc ls st M := by
  unfold jstep at hs
  dsimp only at hs
  have hl : len = 1 := of_decide_eq_true f3
  subst hl
  split at hs
  · simp only [jN, Option.some.injEq, Sum.inl.injEq, Prod.mk.injEq] at hs
    obtain ⟨rfl, rfl, rfl, rfl⟩ := hs
    exact j_iand C f1 k
  · cases hs
theorem g_ishr  (C : jCtx E mi p l s m args meth c) (f1 : decode (jmb mi) pc = .ok (.ishr, len)) (f2 : okL (jnm mi) (jht mi) (jrt mi) (pc, .ishr, len, a, b, w) = true) (f3 : okX1 (jmeths.getD mi jm0) (pc, .ishr, len, a, b, w) = true) (hs : jstep (.ishr, len, a, b, w) pc ls st M = some (.inl (pc1, ls1, st1, M1))) (hr1 : jcells M1 - c0 ≤ R.cells) (hr2 : jslots M1 - s0 ≤ R.slots) (hc0 : c0 ≤ jcells M) (hs0 : s0 ≤ jslots M) (k : jGo E mi p l e R s m args below meth c Q c0 s0 pc1 ls1 st1 M1) : jGo E mi p l e R s m args below meth c Q c0 s0 pc ls st M := by
  unfold jstep at hs
  dsimp only at hs
  have hl : len = 1 := of_decide_eq_true f3
  subst hl
  split at hs
  · simp only [jN, Option.some.injEq, Sum.inl.injEq, Prod.mk.injEq] at hs
    obtain ⟨rfl, rfl, rfl, rfl⟩ := hs
    exact j_ishr C f1 k
  · cases hs
theorem g_iushr  (C : jCtx E mi p l s m args meth c) (f1 : decode (jmb mi) pc = .ok (.iushr, len)) (f2 : okL (jnm mi) (jht mi) (jrt mi) (pc, .iushr, len, a, b, w) = true) (f3 : okX1 (jmeths.getD mi jm0) (pc, .iushr, len, a, b, w) = true) (hs : jstep (.iushr, len, a, b, w) pc ls st M = some (.inl (pc1, ls1, st1, M1))) (hr1 : jcells M1 - c0 ≤ R.cells) (hr2 : jslots M1 - s0 ≤ R.slots) (hc0 : c0 ≤ jcells M) (hs0 : s0 ≤ jslots M) (k : jGo E mi p l e R s m args below meth c Q c0 s0 pc1 ls1 st1 M1) : jGo E mi p l e R s m args below meth c Q c0 s0 pc ls st M := by
  unfold jstep at hs
  dsimp only at hs
  have hl : len = 1 := of_decide_eq_true f3
  subst hl
  split at hs
  · simp only [jN, Option.some.injEq, Sum.inl.injEq, Prod.mk.injEq] at hs
    obtain ⟨rfl, rfl, rfl, rfl⟩ := hs
    exact j_iushr C f1 k
  · cases hs
theorem g_i2b  (C : jCtx E mi p l s m args meth c) (f1 : decode (jmb mi) pc = .ok (.i2b, len)) (f2 : okL (jnm mi) (jht mi) (jrt mi) (pc, .i2b, len, a, b, w) = true) (f3 : okX1 (jmeths.getD mi jm0) (pc, .i2b, len, a, b, w) = true) (hs : jstep (.i2b, len, a, b, w) pc ls st M = some (.inl (pc1, ls1, st1, M1))) (hr1 : jcells M1 - c0 ≤ R.cells) (hr2 : jslots M1 - s0 ≤ R.slots) (hc0 : c0 ≤ jcells M) (hs0 : s0 ≤ jslots M) (k : jGo E mi p l e R s m args below meth c Q c0 s0 pc1 ls1 st1 M1) : jGo E mi p l e R s m args below meth c Q c0 s0 pc ls st M := by
  unfold jstep at hs
  dsimp only at hs
  have hl : len = 1 := of_decide_eq_true f3
  subst hl
  split at hs
  · simp only [jN, Option.some.injEq, Sum.inl.injEq, Prod.mk.injEq] at hs
    obtain ⟨rfl, rfl, rfl, rfl⟩ := hs
    exact j_i2b C f1 k
  · cases hs
theorem g_i2c  (C : jCtx E mi p l s m args meth c) (f1 : decode (jmb mi) pc = .ok (.i2c, len)) (f2 : okL (jnm mi) (jht mi) (jrt mi) (pc, .i2c, len, a, b, w) = true) (f3 : okX1 (jmeths.getD mi jm0) (pc, .i2c, len, a, b, w) = true) (hs : jstep (.i2c, len, a, b, w) pc ls st M = some (.inl (pc1, ls1, st1, M1))) (hr1 : jcells M1 - c0 ≤ R.cells) (hr2 : jslots M1 - s0 ≤ R.slots) (hc0 : c0 ≤ jcells M) (hs0 : s0 ≤ jslots M) (k : jGo E mi p l e R s m args below meth c Q c0 s0 pc1 ls1 st1 M1) : jGo E mi p l e R s m args below meth c Q c0 s0 pc ls st M := by
  unfold jstep at hs
  dsimp only at hs
  have hl : len = 1 := of_decide_eq_true f3
  subst hl
  split at hs
  · simp only [jN, Option.some.injEq, Sum.inl.injEq, Prod.mk.injEq] at hs
    obtain ⟨rfl, rfl, rfl, rfl⟩ := hs
    exact j_i2c C f1 k
  · cases hs
theorem g_i2l  (C : jCtx E mi p l s m args meth c) (f1 : decode (jmb mi) pc = .ok (.i2l, len)) (f2 : okL (jnm mi) (jht mi) (jrt mi) (pc, .i2l, len, a, b, w) = true) (f3 : okX1 (jmeths.getD mi jm0) (pc, .i2l, len, a, b, w) = true) (hs : jstep (.i2l, len, a, b, w) pc ls st M = some (.inl (pc1, ls1, st1, M1))) (hr1 : jcells M1 - c0 ≤ R.cells) (hr2 : jslots M1 - s0 ≤ R.slots) (hc0 : c0 ≤ jcells M) (hs0 : s0 ≤ jslots M) (k : jGo E mi p l e R s m args below meth c Q c0 s0 pc1 ls1 st1 M1) : jGo E mi p l e R s m args below meth c Q c0 s0 pc ls st M := by
  unfold jstep at hs
  dsimp only at hs
  have hl : len = 1 := of_decide_eq_true f3
  subst hl
  split at hs
  · simp only [jN, Option.some.injEq, Sum.inl.injEq, Prod.mk.injEq] at hs
    obtain ⟨rfl, rfl, rfl, rfl⟩ := hs
    exact j_i2l C f1 k
  · cases hs
theorem g_lcmp  (C : jCtx E mi p l s m args meth c) (f1 : decode (jmb mi) pc = .ok (.lcmp, len)) (f2 : okL (jnm mi) (jht mi) (jrt mi) (pc, .lcmp, len, a, b, w) = true) (f3 : okX1 (jmeths.getD mi jm0) (pc, .lcmp, len, a, b, w) = true) (hs : jstep (.lcmp, len, a, b, w) pc ls st M = some (.inl (pc1, ls1, st1, M1))) (hr1 : jcells M1 - c0 ≤ R.cells) (hr2 : jslots M1 - s0 ≤ R.slots) (hc0 : c0 ≤ jcells M) (hs0 : s0 ≤ jslots M) (k : jGo E mi p l e R s m args below meth c Q c0 s0 pc1 ls1 st1 M1) : jGo E mi p l e R s m args below meth c Q c0 s0 pc ls st M := by
  unfold jstep at hs
  dsimp only at hs
  have hl : len = 1 := of_decide_eq_true f3
  subst hl
  split at hs
  · simp only [jN, Option.some.injEq, Sum.inl.injEq, Prod.mk.injEq] at hs
    obtain ⟨rfl, rfl, rfl, rfl⟩ := hs
    exact j_lcmp C f1 k
  · cases hs
theorem g_ior  (C : jCtx E mi p l s m args meth c) (f1 : decode (jmb mi) pc = .ok (.ior, len)) (f2 : okL (jnm mi) (jht mi) (jrt mi) (pc, .ior, len, a, b, w) = true) (f3 : okX1 (jmeths.getD mi jm0) (pc, .ior, len, a, b, w) = true) (hs : jstep (.ior, len, a, b, w) pc ls st M = some (.inl (pc1, ls1, st1, M1))) (hr1 : jcells M1 - c0 ≤ R.cells) (hr2 : jslots M1 - s0 ≤ R.slots) (hc0 : c0 ≤ jcells M) (hs0 : s0 ≤ jslots M) (k : jGo E mi p l e R s m args below meth c Q c0 s0 pc1 ls1 st1 M1) : jGo E mi p l e R s m args below meth c Q c0 s0 pc ls st M := by
  unfold jstep at hs
  dsimp only at hs
  have hl : len = 1 := of_decide_eq_true f3
  subst hl
  split at hs
  · simp only [jN, Option.some.injEq, Sum.inl.injEq, Prod.mk.injEq] at hs
    obtain ⟨rfl, rfl, rfl, rfl⟩ := hs
    exact j_ior C f1 k
  · cases hs
theorem g_ishl  (C : jCtx E mi p l s m args meth c) (f1 : decode (jmb mi) pc = .ok (.ishl, len)) (f2 : okL (jnm mi) (jht mi) (jrt mi) (pc, .ishl, len, a, b, w) = true) (f3 : okX1 (jmeths.getD mi jm0) (pc, .ishl, len, a, b, w) = true) (hs : jstep (.ishl, len, a, b, w) pc ls st M = some (.inl (pc1, ls1, st1, M1))) (hr1 : jcells M1 - c0 ≤ R.cells) (hr2 : jslots M1 - s0 ≤ R.slots) (hc0 : c0 ≤ jcells M) (hs0 : s0 ≤ jslots M) (k : jGo E mi p l e R s m args below meth c Q c0 s0 pc1 ls1 st1 M1) : jGo E mi p l e R s m args below meth c Q c0 s0 pc ls st M := by
  unfold jstep at hs
  dsimp only at hs
  have hl : len = 1 := of_decide_eq_true f3
  subst hl
  split at hs
  · simp only [jN, Option.some.injEq, Sum.inl.injEq, Prod.mk.injEq] at hs
    obtain ⟨rfl, rfl, rfl, rfl⟩ := hs
    exact j_ishl C f1 k
  · cases hs
theorem g_ladd  (C : jCtx E mi p l s m args meth c) (f1 : decode (jmb mi) pc = .ok (.ladd, len)) (f2 : okL (jnm mi) (jht mi) (jrt mi) (pc, .ladd, len, a, b, w) = true) (f3 : okX1 (jmeths.getD mi jm0) (pc, .ladd, len, a, b, w) = true) (hs : jstep (.ladd, len, a, b, w) pc ls st M = some (.inl (pc1, ls1, st1, M1))) (hr1 : jcells M1 - c0 ≤ R.cells) (hr2 : jslots M1 - s0 ≤ R.slots) (hc0 : c0 ≤ jcells M) (hs0 : s0 ≤ jslots M) (k : jGo E mi p l e R s m args below meth c Q c0 s0 pc1 ls1 st1 M1) : jGo E mi p l e R s m args below meth c Q c0 s0 pc ls st M := by
  unfold jstep at hs
  dsimp only at hs
  have hl : len = 1 := of_decide_eq_true f3
  subst hl
  split at hs
  · simp only [jN, Option.some.injEq, Sum.inl.injEq, Prod.mk.injEq] at hs
    obtain ⟨rfl, rfl, rfl, rfl⟩ := hs
    exact j_ladd C f1 k
  · cases hs
theorem g_lsub  (C : jCtx E mi p l s m args meth c) (f1 : decode (jmb mi) pc = .ok (.lsub, len)) (f2 : okL (jnm mi) (jht mi) (jrt mi) (pc, .lsub, len, a, b, w) = true) (f3 : okX1 (jmeths.getD mi jm0) (pc, .lsub, len, a, b, w) = true) (hs : jstep (.lsub, len, a, b, w) pc ls st M = some (.inl (pc1, ls1, st1, M1))) (hr1 : jcells M1 - c0 ≤ R.cells) (hr2 : jslots M1 - s0 ≤ R.slots) (hc0 : c0 ≤ jcells M) (hs0 : s0 ≤ jslots M) (k : jGo E mi p l e R s m args below meth c Q c0 s0 pc1 ls1 st1 M1) : jGo E mi p l e R s m args below meth c Q c0 s0 pc ls st M := by
  unfold jstep at hs
  dsimp only at hs
  have hl : len = 1 := of_decide_eq_true f3
  subst hl
  split at hs
  · simp only [jN, Option.some.injEq, Sum.inl.injEq, Prod.mk.injEq] at hs
    obtain ⟨rfl, rfl, rfl, rfl⟩ := hs
    exact j_lsub C f1 k
  · cases hs
theorem g_lmul  (C : jCtx E mi p l s m args meth c) (f1 : decode (jmb mi) pc = .ok (.lmul, len)) (f2 : okL (jnm mi) (jht mi) (jrt mi) (pc, .lmul, len, a, b, w) = true) (f3 : okX1 (jmeths.getD mi jm0) (pc, .lmul, len, a, b, w) = true) (hs : jstep (.lmul, len, a, b, w) pc ls st M = some (.inl (pc1, ls1, st1, M1))) (hr1 : jcells M1 - c0 ≤ R.cells) (hr2 : jslots M1 - s0 ≤ R.slots) (hc0 : c0 ≤ jcells M) (hs0 : s0 ≤ jslots M) (k : jGo E mi p l e R s m args below meth c Q c0 s0 pc1 ls1 st1 M1) : jGo E mi p l e R s m args below meth c Q c0 s0 pc ls st M := by
  unfold jstep at hs
  dsimp only at hs
  have hl : len = 1 := of_decide_eq_true f3
  subst hl
  split at hs
  · simp only [jN, Option.some.injEq, Sum.inl.injEq, Prod.mk.injEq] at hs
    obtain ⟨rfl, rfl, rfl, rfl⟩ := hs
    exact j_lmul C f1 k
  · cases hs
theorem g_l2i  (C : jCtx E mi p l s m args meth c) (f1 : decode (jmb mi) pc = .ok (.l2i, len)) (f2 : okL (jnm mi) (jht mi) (jrt mi) (pc, .l2i, len, a, b, w) = true) (f3 : okX1 (jmeths.getD mi jm0) (pc, .l2i, len, a, b, w) = true) (hs : jstep (.l2i, len, a, b, w) pc ls st M = some (.inl (pc1, ls1, st1, M1))) (hr1 : jcells M1 - c0 ≤ R.cells) (hr2 : jslots M1 - s0 ≤ R.slots) (hc0 : c0 ≤ jcells M) (hs0 : s0 ≤ jslots M) (k : jGo E mi p l e R s m args below meth c Q c0 s0 pc1 ls1 st1 M1) : jGo E mi p l e R s m args below meth c Q c0 s0 pc ls st M := by
  unfold jstep at hs
  dsimp only at hs
  have hl : len = 1 := of_decide_eq_true f3
  subst hl
  split at hs
  · simp only [jN, Option.some.injEq, Sum.inl.injEq, Prod.mk.injEq] at hs
    obtain ⟨rfl, rfl, rfl, rfl⟩ := hs
    exact j_l2i C f1 k
  · cases hs
theorem g_dup  (C : jCtx E mi p l s m args meth c) (f1 : decode (jmb mi) pc = .ok (.dup, len)) (f2 : okL (jnm mi) (jht mi) (jrt mi) (pc, .dup, len, a, b, w) = true) (f3 : okX1 (jmeths.getD mi jm0) (pc, .dup, len, a, b, w) = true) (hs : jstep (.dup, len, a, b, w) pc ls st M = some (.inl (pc1, ls1, st1, M1))) (hr1 : jcells M1 - c0 ≤ R.cells) (hr2 : jslots M1 - s0 ≤ R.slots) (hc0 : c0 ≤ jcells M) (hs0 : s0 ≤ jslots M) (k : jGo E mi p l e R s m args below meth c Q c0 s0 pc1 ls1 st1 M1) : jGo E mi p l e R s m args below meth c Q c0 s0 pc ls st M := by
  unfold jstep at hs
  dsimp only at hs
  have hl : len = 1 := of_decide_eq_true f3
  subst hl
  split at hs
  · split at hs
    · rename_i hn
      simp only [jN, Option.some.injEq, Sum.inl.injEq, Prod.mk.injEq] at hs
      obtain ⟨rfl, rfl, rfl, rfl⟩ := hs
      exact j_dup C f1 hn k
    · cases hs
  · cases hs
theorem g_pop  (C : jCtx E mi p l s m args meth c) (f1 : decode (jmb mi) pc = .ok (.pop, len)) (f2 : okL (jnm mi) (jht mi) (jrt mi) (pc, .pop, len, a, b, w) = true) (f3 : okX1 (jmeths.getD mi jm0) (pc, .pop, len, a, b, w) = true) (hs : jstep (.pop, len, a, b, w) pc ls st M = some (.inl (pc1, ls1, st1, M1))) (hr1 : jcells M1 - c0 ≤ R.cells) (hr2 : jslots M1 - s0 ≤ R.slots) (hc0 : c0 ≤ jcells M) (hs0 : s0 ≤ jslots M) (k : jGo E mi p l e R s m args below meth c Q c0 s0 pc1 ls1 st1 M1) : jGo E mi p l e R s m args below meth c Q c0 s0 pc ls st M := by
  unfold jstep at hs
  dsimp only at hs
  have hl : len = 1 := of_decide_eq_true f3
  subst hl
  split at hs
  · split at hs
    · rename_i hn
      simp only [jN, Option.some.injEq, Sum.inl.injEq, Prod.mk.injEq] at hs
      obtain ⟨rfl, rfl, rfl, rfl⟩ := hs
      exact j_pop C f1 hn k
    · cases hs
  · cases hs
theorem g_dup2  (C : jCtx E mi p l s m args meth c) (f1 : decode (jmb mi) pc = .ok (.dup2, len)) (f2 : okL (jnm mi) (jht mi) (jrt mi) (pc, .dup2, len, a, b, w) = true) (f3 : okX1 (jmeths.getD mi jm0) (pc, .dup2, len, a, b, w) = true) (hs : jstep (.dup2, len, a, b, w) pc ls st M = some (.inl (pc1, ls1, st1, M1))) (hr1 : jcells M1 - c0 ≤ R.cells) (hr2 : jslots M1 - s0 ≤ R.slots) (hc0 : c0 ≤ jcells M) (hs0 : s0 ≤ jslots M) (k : jGo E mi p l e R s m args below meth c Q c0 s0 pc1 ls1 st1 M1) : jGo E mi p l e R s m args below meth c Q c0 s0 pc ls st M := by
  unfold jstep at hs
  dsimp only at hs
  have hl : len = 1 := of_decide_eq_true f3
  subst hl
  split at hs
  · split at hs
    · rename_i hn
      simp only [jN, Option.some.injEq, Sum.inl.injEq, Prod.mk.injEq] at hs
      obtain ⟨rfl, rfl, rfl, rfl⟩ := hs
      exact j_dup2 C f1 hn.1 hn.2 k
    · cases hs
  · cases hs
theorem g_goto {off : Int} (C : jCtx E mi p l s m args meth c) (f1 : decode (jmb mi) pc = .ok (.goto off, len)) (f2 : okL (jnm mi) (jht mi) (jrt mi) (pc, .goto off, len, a, b, w) = true) (f3 : okX1 (jmeths.getD mi jm0) (pc, .goto off, len, a, b, w) = true) (hs : jstep (.goto off, len, a, b, w) pc ls st M = some (.inl (pc1, ls1, st1, M1))) (hr1 : jcells M1 - c0 ≤ R.cells) (hr2 : jslots M1 - s0 ≤ R.slots) (hc0 : c0 ≤ jcells M) (hs0 : s0 ≤ jslots M) (k : jGo E mi p l e R s m args below meth c Q c0 s0 pc1 ls1 st1 M1) : jGo E mi p l e R s m args below meth c Q c0 s0 pc ls st M := by
  unfold jstep at hs
  dsimp only at hs
  have hl : len = 3 := of_decide_eq_true f3
  subst hl
  simp only [jN, Option.some.injEq, Sum.inl.injEq, Prod.mk.injEq] at hs
  obtain ⟨rfl, rfl, rfl, rfl⟩ := hs
  exact j_goto C f1 (of_decide_eq_true f2) k
theorem g_ifnull {off : Int} (C : jCtx E mi p l s m args meth c) (f1 : decode (jmb mi) pc = .ok (.ifnull off, len)) (f2 : okL (jnm mi) (jht mi) (jrt mi) (pc, .ifnull off, len, a, b, w) = true) (f3 : okX1 (jmeths.getD mi jm0) (pc, .ifnull off, len, a, b, w) = true) (hs : jstep (.ifnull off, len, a, b, w) pc ls st M = some (.inl (pc1, ls1, st1, M1))) (hr1 : jcells M1 - c0 ≤ R.cells) (hr2 : jslots M1 - s0 ≤ R.slots) (hc0 : c0 ≤ jcells M) (hs0 : s0 ≤ jslots M) (k : jGo E mi p l e R s m args below meth c Q c0 s0 pc1 ls1 st1 M1) : jGo E mi p l e R s m args below meth c Q c0 s0 pc ls st M := by
  unfold jstep at hs
  dsimp only at hs
  have hl : len = 3 := of_decide_eq_true f3
  subst hl
  split at hs
  · simp only [jN, Option.some.injEq, Sum.inl.injEq, Prod.mk.injEq] at hs
    obtain ⟨rfl, rfl, rfl, rfl⟩ := hs
    exact j_ifnull C f1 k
  · simp only [jN, Option.some.injEq, Sum.inl.injEq, Prod.mk.injEq] at hs
    obtain ⟨rfl, rfl, rfl, rfl⟩ := hs
    exact j_ifnullN C f1 (of_decide_eq_true f2) k
  · cases hs
theorem g_ifnonnull {off : Int} (C : jCtx E mi p l s m args meth c) (f1 : decode (jmb mi) pc = .ok (.ifnonnull off, len)) (f2 : okL (jnm mi) (jht mi) (jrt mi) (pc, .ifnonnull off, len, a, b, w) = true) (f3 : okX1 (jmeths.getD mi jm0) (pc, .ifnonnull off, len, a, b, w) = true) (hs : jstep (.ifnonnull off, len, a, b, w) pc ls st M = some (.inl (pc1, ls1, st1, M1))) (hr1 : jcells M1 - c0 ≤ R.cells) (hr2 : jslots M1 - s0 ≤ R.slots) (hc0 : c0 ≤ jcells M) (hs0 : s0 ≤ jslots M) (k : jGo E mi p l e R s m args below meth c Q c0 s0 pc1 ls1 st1 M1) : jGo E mi p l e R s m args below meth c Q c0 s0 pc ls st M := by
  unfold jstep at hs
  dsimp only at hs
  have hl : len = 3 := of_decide_eq_true f3
  subst hl
  split at hs
  · simp only [jN, Option.some.injEq, Sum.inl.injEq, Prod.mk.injEq] at hs
    obtain ⟨rfl, rfl, rfl, rfl⟩ := hs
    exact j_ifnonnull C f1 (of_decide_eq_true f2) k
  · simp only [jN, Option.some.injEq, Sum.inl.injEq, Prod.mk.injEq] at hs
    obtain ⟨rfl, rfl, rfl, rfl⟩ := hs
    exact j_ifnonnullN C f1 k
  · cases hs
theorem g_ifCond {cc : Jvm.ClassFile.Cond} {off : Int} (C : jCtx E mi p l s m args meth c) (f1 : decode (jmb mi) pc = .ok (.ifCond cc off, len)) (f2 : okL (jnm mi) (jht mi) (jrt mi) (pc, .ifCond cc off, len, a, b, w) = true) (f3 : okX1 (jmeths.getD mi jm0) (pc, .ifCond cc off, len, a, b, w) = true) (hs : jstep (.ifCond cc off, len, a, b, w) pc ls st M = some (.inl (pc1, ls1, st1, M1))) (hr1 : jcells M1 - c0 ≤ R.cells) (hr2 : jslots M1 - s0 ≤ R.slots) (hc0 : c0 ≤ jcells M) (hs0 : s0 ≤ jslots M) (k : jGo E mi p l e R s m args below meth c Q c0 s0 pc1 ls1 st1 M1) : jGo E mi p l e R s m args below meth c Q c0 s0 pc ls st M := by
  unfold jstep at hs
  dsimp only at hs
  have hl : len = 3 := of_decide_eq_true f3
  subst hl
  split at hs
  · unfold jbr at hs
    split at hs
    · rename_i hc
      simp only [jN, Option.some.injEq, Sum.inl.injEq, Prod.mk.injEq] at hs
      obtain ⟨rfl, rfl, rfl, rfl⟩ := hs
      cases cc
      · exact j_ifCond_eq C f1 (of_decide_eq_true f2) (fun _ => k) (fun h => by rw [hc] at h; cases h)
      · exact j_ifCond_ne C f1 (of_decide_eq_true f2) (fun _ => k) (fun h => by rw [hc] at h; cases h)
      · exact j_ifCond_lt C f1 (of_decide_eq_true f2) (fun _ => k) (fun h => by rw [hc] at h; cases h)
      · exact j_ifCond_ge C f1 (of_decide_eq_true f2) (fun _ => k) (fun h => by rw [hc] at h; cases h)
      · exact j_ifCond_gt C f1 (of_decide_eq_true f2) (fun _ => k) (fun h => by rw [hc] at h; cases h)
      · exact j_ifCond_le C f1 (of_decide_eq_true f2) (fun _ => k) (fun h => by rw [hc] at h; cases h)
    · rename_i hc
      simp only [jN, Option.some.injEq, Sum.inl.injEq, Prod.mk.injEq] at hs
      obtain ⟨rfl, rfl, rfl, rfl⟩ := hs
      cases cc
      · exact j_ifCond_eq C f1 (of_decide_eq_true f2) (fun h => absurd h hc) (fun _ => k)
      · exact j_ifCond_ne C f1 (of_decide_eq_true f2) (fun h => absurd h hc) (fun _ => k)
      · exact j_ifCond_lt C f1 (of_decide_eq_true f2) (fun h => absurd h hc) (fun _ => k)
      · exact j_ifCond_ge C f1 (of_decide_eq_true f2) (fun h => absurd h hc) (fun _ => k)
      · exact j_ifCond_gt C f1 (of_decide_eq_true f2) (fun h => absurd h hc) (fun _ => k)
      · exact j_ifCond_le C f1 (of_decide_eq_true f2) (fun h => absurd h hc) (fun _ => k)
  · cases hs
theorem g_if_icmp {cc : Jvm.ClassFile.Cond} {off : Int} (C : jCtx E mi p l s m args meth c) (f1 : decode (jmb mi) pc = .ok (.if_icmp cc off, len)) (f2 : okL (jnm mi) (jht mi) (jrt mi) (pc, .if_icmp cc off, len, a, b, w) = true) (f3 : okX1 (jmeths.getD mi jm0) (pc, .if_icmp cc off, len, a, b, w) = true) (hs : jstep (.if_icmp cc off, len, a, b, w) pc ls st M = some (.inl (pc1, ls1, st1, M1))) (hr1 : jcells M1 - c0 ≤ R.cells) (hr2 : jslots M1 - s0 ≤ R.slots) (hc0 : c0 ≤ jcells M) (hs0 : s0 ≤ jslots M) (k : jGo E mi p l e R s m args below meth c Q c0 s0 pc1 ls1 st1 M1) : jGo E mi p l e R s m args below meth c Q c0 s0 pc ls st M := by
  unfold jstep at hs
  dsimp only at hs
  have hl : len = 3 := of_decide_eq_true f3
  subst hl
  split at hs
  · unfold jbr at hs
    split at hs
    · rename_i hc
      simp only [jN, Option.some.injEq, Sum.inl.injEq, Prod.mk.injEq] at hs
      obtain ⟨rfl, rfl, rfl, rfl⟩ := hs
      cases cc
      · exact j_if_icmp_eq C f1 (of_decide_eq_true f2) (fun _ => k) (fun h => by rw [hc] at h; cases h)
      · exact j_if_icmp_ne C f1 (of_decide_eq_true f2) (fun _ => k) (fun h => by rw [hc] at h; cases h)
      · exact j_if_icmp_lt C f1 (of_decide_eq_true f2) (fun _ => k) (fun h => by rw [hc] at h; cases h)
      · exact j_if_icmp_ge C f1 (of_decide_eq_true f2) (fun _ => k) (fun h => by rw [hc] at h; cases h)
      · exact j_if_icmp_gt C f1 (of_decide_eq_true f2) (fun _ => k) (fun h => by rw [hc] at h; cases h)
      · exact j_if_icmp_le C f1 (of_decide_eq_true f2) (fun _ => k) (fun h => by rw [hc] at h; cases h)
    · rename_i hc
      simp only [jN, Option.some.injEq, Sum.inl.injEq, Prod.mk.injEq] at hs
      obtain ⟨rfl, rfl, rfl, rfl⟩ := hs
      cases cc
      · exact j_if_icmp_eq C f1 (of_decide_eq_true f2) (fun h => absurd h hc) (fun _ => k)
      · exact j_if_icmp_ne C f1 (of_decide_eq_true f2) (fun h => absurd h hc) (fun _ => k)
      · exact j_if_icmp_lt C f1 (of_decide_eq_true f2) (fun h => absurd h hc) (fun _ => k)
      · exact j_if_icmp_ge C f1 (of_decide_eq_true f2) (fun h => absurd h hc) (fun _ => k)
      · exact j_if_icmp_gt C f1 (of_decide_eq_true f2) (fun h => absurd h hc) (fun _ => k)
      · exact j_if_icmp_le C f1 (of_decide_eq_true f2) (fun h => absurd h hc) (fun _ => k)
  · cases hs
theorem g_getfield {n : Nat} (C : jCtx E mi p l s m args meth c) (f1 : decode (jmb mi) pc = .ok (.getfield n, len)) (f2 : okL (jnm mi) (jht mi) (jrt mi) (pc, .getfield n, len, a, b, w) = true) (f3 : okX1 (jmeths.getD mi jm0) (pc, .getfield n, len, a, b, w) = true) (hs : jstep (.getfield n, len, a, b, w) pc ls st M = some (.inl (pc1, ls1, st1, M1))) (hr1 : jcells M1 - c0 ≤ R.cells) (hr2 : jslots M1 - s0 ≤ R.slots) (hc0 : c0 ≤ jcells M) (hs0 : s0 ≤ jslots M) (k : jGo E mi p l e R s m args below meth c Q c0 s0 pc1 ls1 st1 M1) : jGo E mi p l e R s m args below meth c Q c0 s0 pc ls st M := by
  unfold jstep at hs
  dsimp only at hs
  have e3 : decide (len = 3) = true := f3
  have e2 : (decide (a < 16) && decide (b < (jfields a).length) && (jtw w (.fieldLink (jnm mi).cls n (jfd a b).1 (jfd a b).2.1 (jfd a b).2.2.1) || (decide (((jnm mi).cls, n, a, b) ∈ jfnests) || (decide (a = 13 ∧ b = 0) && jtw w (.fieldLink (jnm mi).cls n "java/util/ArrayList" (jfd a b).2.1 (jfd a b).2.2.1))))) = true := f2
  simp only [Bool.and_eq_true, Bool.or_eq_true, decide_eq_true_eq] at e2
  obtain ⟨⟨ha, hb⟩, e2⟩ := e2
  have hl := of_decide_eq_true e3
  subst hl
  split at hs
  · split at hs
    · rename_i hi
      obtain ⟨rfl, hi1, hi2⟩ := hi
      have hn15 : ((jnm mi).cls, n, 15, b) ∉ jfnests := by
        intro h
        have h2 := List.all_eq_true.mp jfn_cls _ h
        have h3 := of_decide_eq_true h2
        exact absurd rfl h3
      have e4 : Cond.fieldLink (jnm mi).cls n (jfd 15 b).1 (jfd 15 b).2.1 (jfd 15 b).2.2.1 ∈ jgood := by
        rcases e2 with q | q | q
        · exact jtw_mem q
        · exact absurd q hn15
        · omega
      split at hs
      · rename_i hb2
        by_cases hb0 : b = 0
        · rw [if_pos hb0] at hs
          subst hb0
          simp only [jN, Option.some.injEq, Sum.inl.injEq, Prod.mk.injEq] at hs
          obtain ⟨rfl, rfl, rfl, rfl⟩ := hs
          exact j_getfieldV C f1 e4 hi1 hi2 k
        · rw [if_neg hb0] at hs
          have hb1 : b = 1 := by omega
          subst hb1
          simp only [jN, Option.some.injEq, Sum.inl.injEq, Prod.mk.injEq] at hs
          obtain ⟨rfl, rfl, rfl, rfl⟩ := hs
          exact j_getfieldC C f1 e4 hi1 hi2 k
      · cases hs
    · split at hs
      · rename_i hsh
        split at hs
        · rename_i hc
          rw [Nat.mod_eq_of_lt (by omega : a < 100)] at hc
          obtain ⟨h1, rfl, h3⟩ := hc
          simp only [jN, Option.some.injEq, Sum.inl.injEq, Prod.mk.injEq] at hs
          obtain ⟨rfl, rfl, rfl, rfl⟩ := hs
          rcases e2 with q | q | q
          · exact j_getfield C f1 (jtw_mem q) (Or.inl rfl) ha hb hsh h1 k
          · exact j_getfieldN C f1 q ha hb hsh h1 k
          · exact j_getfield C f1 (jtw_mem q.2) (Or.inr ⟨q.1.1, q.1.2, rfl⟩) ha hb hsh h1 k
        · cases hs
      · cases hs
  · cases hs
theorem g_putfield {n : Nat} (C : jCtx E mi p l s m args meth c) (f1 : decode (jmb mi) pc = .ok (.putfield n, len)) (f2 : okL (jnm mi) (jht mi) (jrt mi) (pc, .putfield n, len, a, b, w) = true) (f3 : okX1 (jmeths.getD mi jm0) (pc, .putfield n, len, a, b, w) = true) (hs : jstep (.putfield n, len, a, b, w) pc ls st M = some (.inl (pc1, ls1, st1, M1))) (hr1 : jcells M1 - c0 ≤ R.cells) (hr2 : jslots M1 - s0 ≤ R.slots) (hc0 : c0 ≤ jcells M) (hs0 : s0 ≤ jslots M) (k : jGo E mi p l e R s m args below meth c Q c0 s0 pc1 ls1 st1 M1) : jGo E mi p l e R s m args below meth c Q c0 s0 pc ls st M := by
  unfold jstep at hs
  dsimp only at hs
  have hl : len = 3 := of_decide_eq_true f3
  subst hl
  have e2 : (decide (a % 100 < 16) && decide (b < (jfields (a % 100)).length) && (jtw w (.fieldLink (jnm mi).cls n (jfd (a % 100) b).1 (jfd (a % 100) b).2.1 (jfd (a % 100) b).2.2.1) || (decide (a % 100 = 13 ∧ b = 0) && jtw w (.fieldLink (jnm mi).cls n "java/util/ArrayList" (jfd (a % 100) b).2.1 (jfd (a % 100) b).2.2.1))) && decide (a / 100 = jkd (jfd (a % 100) b).2.2.1)
        && (!(jfd (a % 100) b).2.2.2 || (decide ((jnm mi).name = "<init>") && decide ((jfd (a % 100) b).1 = (jnm mi).cls)))) = true := f2
  simp only [Bool.and_eq_true, Bool.or_eq_true, Bool.not_eq_true', decide_eq_true_eq] at e2
  obtain ⟨⟨⟨⟨g1, g2⟩, g3⟩, g4⟩, g5⟩ := e2
  split at hs
  · split at hs
    · rename_i hsh
      split at hs
      · rename_i hc
        obtain ⟨h1, rfl, h3, h4⟩ := hc
        rw [g4] at h4
        simp only [jN, Option.some.injEq, Sum.inl.injEq, Prod.mk.injEq] at hs
        obtain ⟨rfl, rfl, rfl, rfl⟩ := hs
        rcases g3 with q | q
        · exact j_putfield C f1 (jtw_mem q) (Or.inl rfl) g1 g2 hsh h1 g5 h4 k
        · exact j_putfield C f1 (jtw_mem q.2) (Or.inr ⟨q.1.1, q.1.2, rfl⟩) g1 g2 hsh h1 g5 h4 k
      · cases hs
    · cases hs
  · cases hs
theorem g_arraylength  (C : jCtx E mi p l s m args meth c) (f1 : decode (jmb mi) pc = .ok (.arraylength, len)) (f2 : okL (jnm mi) (jht mi) (jrt mi) (pc, .arraylength, len, a, b, w) = true) (f3 : okX1 (jmeths.getD mi jm0) (pc, .arraylength, len, a, b, w) = true) (hs : jstep (.arraylength, len, a, b, w) pc ls st M = some (.inl (pc1, ls1, st1, M1))) (hr1 : jcells M1 - c0 ≤ R.cells) (hr2 : jslots M1 - s0 ≤ R.slots) (hc0 : c0 ≤ jcells M) (hs0 : s0 ≤ jslots M) (k : jGo E mi p l e R s m args below meth c Q c0 s0 pc1 ls1 st1 M1) : jGo E mi p l e R s m args below meth c Q c0 s0 pc ls st M := by
  unfold jstep at hs
  dsimp only at hs
  have hl : len = 1 := of_decide_eq_true f3
  subst hl
  split at hs
  · rename_i i r
    split at hs
    · rename_i n hn
      split at hs
      · rename_i hlt
        simp only [jN, Option.some.injEq, Sum.inl.injEq, Prod.mk.injEq] at hs
        obtain ⟨rfl, rfl, rfl, rfl⟩ := hs
        unfold jlen at hn
        split at hn
        · rename_i hi
          split at hn
          · rename_i hsh
            split at hn
            · rename_i ht
              cases hn
              exact j_arraylength C f1 hsh ht hi k
            · cases hn
          · cases hn
        · split at hn
          · rename_i hi
            obtain rfl := Option.some.inj hn
            subst hi
            exact j_arraylengthS C f1 hlt k
          · split at hn
            · rename_i hi
              obtain rfl := Option.some.inj hn
              subst hi
              exact j_arraylengthE C f1 k
            · split at hn
              · rename_i hi
                obtain rfl := Option.some.inj hn
                exact j_arraylengthL C f1 hi.1 hi.2 k
              · cases hn
      · cases hs
    · cases hs
  · cases hs
theorem g_iaload  (C : jCtx E mi p l s m args meth c) (f1 : decode (jmb mi) pc = .ok (.iaload, len)) (f2 : okL (jnm mi) (jht mi) (jrt mi) (pc, .iaload, len, a, b, w) = true) (f3 : okX1 (jmeths.getD mi jm0) (pc, .iaload, len, a, b, w) = true) (hs : jstep (.iaload, len, a, b, w) pc ls st M = some (.inl (pc1, ls1, st1, M1))) (hr1 : jcells M1 - c0 ≤ R.cells) (hr2 : jslots M1 - s0 ≤ R.slots) (hc0 : c0 ≤ jcells M) (hs0 : s0 ≤ jslots M) (k : jGo E mi p l e R s m args below meth c Q c0 s0 pc1 ls1 st1 M1) : jGo E mi p l e R s m args below meth c Q c0 s0 pc ls st M := by
  unfold jstep at hs
  dsimp only at hs
  have hl : len = 1 := of_decide_eq_true f3
  subst hl
  split at hs
  · split at hs
    · rename_i hi
      subst hi
      split at hs
      · rename_i hc
        simp only [jN, Option.some.injEq, Sum.inl.injEq, Prod.mk.injEq] at hs
        obtain ⟨rfl, rfl, rfl, rfl⟩ := hs
        exact j_ialoadS C f1 hc.1 hc.2 k
      · cases hs
    · rename_i hi
      unfold jread at hs
      split at hs
      · rename_i hsh
        split at hs
        · rename_i hc
          obtain ⟨h1, rfl, h3, h4⟩ := hc
          simp only [jN, Option.some.injEq, Sum.inl.injEq, Prod.mk.injEq] at hs
          obtain ⟨rfl, rfl, rfl, rfl⟩ := hs
          exact j_iaload C f1 hsh h1 h3 h4 k
        · cases hs
      · cases hs
  · cases hs
theorem g_baload  (C : jCtx E mi p l s m args meth c) (f1 : decode (jmb mi) pc = .ok (.baload, len)) (f2 : okL (jnm mi) (jht mi) (jrt mi) (pc, .baload, len, a, b, w) = true) (f3 : okX1 (jmeths.getD mi jm0) (pc, .baload, len, a, b, w) = true) (hs : jstep (.baload, len, a, b, w) pc ls st M = some (.inl (pc1, ls1, st1, M1))) (hr1 : jcells M1 - c0 ≤ R.cells) (hr2 : jslots M1 - s0 ≤ R.slots) (hc0 : c0 ≤ jcells M) (hs0 : s0 ≤ jslots M) (k : jGo E mi p l e R s m args below meth c Q c0 s0 pc1 ls1 st1 M1) : jGo E mi p l e R s m args below meth c Q c0 s0 pc ls st M := by
  unfold jstep at hs
  dsimp only at hs
  have hl : len = 1 := of_decide_eq_true f3
  subst hl
  split at hs
  · split at hs
    · rename_i hi
      split at hs
      · rename_i hc
        simp only [jN, Option.some.injEq, Sum.inl.injEq, Prod.mk.injEq] at hs
        obtain ⟨rfl, rfl, rfl, rfl⟩ := hs
        exact j_baloadL C f1 hi.1 hi.2 hc.1 hc.2 k
      · cases hs
    · rename_i hi
      split at hs
      · rename_i ht
        unfold jread at hs
        split at hs
        · rename_i hsh
          split at hs
          · rename_i hc
            obtain ⟨h1, rfl, h3, h4⟩ := hc
            simp only [jN, Option.some.injEq, Sum.inl.injEq, Prod.mk.injEq] at hs
            obtain ⟨rfl, rfl, rfl, rfl⟩ := hs
            exact j_baload1 C f1 hsh h1 h3 h4 k
          · cases hs
        · cases hs
      · rename_i ht
        unfold jread at hs
        split at hs
        · rename_i hsh
          split at hs
          · rename_i hc
            obtain ⟨h1, rfl, h3, h4⟩ := hc
            simp only [jN, Option.some.injEq, Sum.inl.injEq, Prod.mk.injEq] at hs
            obtain ⟨rfl, rfl, rfl, rfl⟩ := hs
            exact j_baload2 C f1 hsh h1 h3 h4 k
          · cases hs
        · cases hs
  · cases hs
theorem g_laload  (C : jCtx E mi p l s m args meth c) (f1 : decode (jmb mi) pc = .ok (.laload, len)) (f2 : okL (jnm mi) (jht mi) (jrt mi) (pc, .laload, len, a, b, w) = true) (f3 : okX1 (jmeths.getD mi jm0) (pc, .laload, len, a, b, w) = true) (hs : jstep (.laload, len, a, b, w) pc ls st M = some (.inl (pc1, ls1, st1, M1))) (hr1 : jcells M1 - c0 ≤ R.cells) (hr2 : jslots M1 - s0 ≤ R.slots) (hc0 : c0 ≤ jcells M) (hs0 : s0 ≤ jslots M) (k : jGo E mi p l e R s m args below meth c Q c0 s0 pc1 ls1 st1 M1) : jGo E mi p l e R s m args below meth c Q c0 s0 pc ls st M := by
  unfold jstep at hs
  dsimp only at hs
  have hl : len = 1 := of_decide_eq_true f3
  subst hl
  split at hs
  ·
    unfold jread at hs
    split at hs
    · rename_i hsh
      split at hs
      · rename_i hc
        obtain ⟨h1, rfl, h3, h4⟩ := hc
        simp only [jN, Option.some.injEq, Sum.inl.injEq, Prod.mk.injEq] at hs
        obtain ⟨rfl, rfl, rfl, rfl⟩ := hs
        exact j_laload C f1 hsh h1 h3 h4 k
      · cases hs
    · cases hs
  · cases hs
theorem g_aaload  (C : jCtx E mi p l s m args meth c) (f1 : decode (jmb mi) pc = .ok (.aaload, len)) (f2 : okL (jnm mi) (jht mi) (jrt mi) (pc, .aaload, len, a, b, w) = true) (f3 : okX1 (jmeths.getD mi jm0) (pc, .aaload, len, a, b, w) = true) (hs : jstep (.aaload, len, a, b, w) pc ls st M = some (.inl (pc1, ls1, st1, M1))) (hr1 : jcells M1 - c0 ≤ R.cells) (hr2 : jslots M1 - s0 ≤ R.slots) (hc0 : c0 ≤ jcells M) (hs0 : s0 ≤ jslots M) (k : jGo E mi p l e R s m args below meth c Q c0 s0 pc1 ls1 st1 M1) : jGo E mi p l e R s m args below meth c Q c0 s0 pc ls st M := by
  unfold jstep at hs
  dsimp only at hs
  have hl : len = 1 := of_decide_eq_true f3
  subst hl
  split at hs
  · split at hs
    · rename_i ht
      unfold jread at hs
      split at hs
      · rename_i hsh
        split at hs
        · rename_i hc
          obtain ⟨h1, rfl, h3, h4⟩ := hc
          simp only [jN, Option.some.injEq, Sum.inl.injEq, Prod.mk.injEq] at hs
          obtain ⟨rfl, rfl, rfl, rfl⟩ := hs
          exact j_aaload C f1 hsh ht h1 h3 h4 k
        · cases hs
      · cases hs
    · cases hs
  · cases hs
theorem g_iastore  (C : jCtx E mi p l s m args meth c) (f1 : decode (jmb mi) pc = .ok (.iastore, len)) (f2 : okL (jnm mi) (jht mi) (jrt mi) (pc, .iastore, len, a, b, w) = true) (f3 : okX1 (jmeths.getD mi jm0) (pc, .iastore, len, a, b, w) = true) (hs : jstep (.iastore, len, a, b, w) pc ls st M = some (.inl (pc1, ls1, st1, M1))) (hr1 : jcells M1 - c0 ≤ R.cells) (hr2 : jslots M1 - s0 ≤ R.slots) (hc0 : c0 ≤ jcells M) (hs0 : s0 ≤ jslots M) (k : jGo E mi p l e R s m args below meth c Q c0 s0 pc1 ls1 st1 M1) : jGo E mi p l e R s m args below meth c Q c0 s0 pc ls st M := by
  unfold jstep at hs
  dsimp only at hs
  have hl : len = 1 := of_decide_eq_true f3
  subst hl
  split at hs
  ·
    unfold jwrite at hs
    split at hs
    · rename_i hsh
      split at hs
      · rename_i hc
        obtain ⟨h1, rfl, h3, h4⟩ := hc
        simp only [jN, Option.some.injEq, Sum.inl.injEq, Prod.mk.injEq] at hs
        obtain ⟨rfl, rfl, rfl, rfl⟩ := hs
        exact j_iastore C f1 hsh h1 h3 h4 k
      · cases hs
    · cases hs
  · cases hs
theorem g_lastore  (C : jCtx E mi p l s m args meth c) (f1 : decode (jmb mi) pc = .ok (.lastore, len)) (f2 : okL (jnm mi) (jht mi) (jrt mi) (pc, .lastore, len, a, b, w) = true) (f3 : okX1 (jmeths.getD mi jm0) (pc, .lastore, len, a, b, w) = true) (hs : jstep (.lastore, len, a, b, w) pc ls st M = some (.inl (pc1, ls1, st1, M1))) (hr1 : jcells M1 - c0 ≤ R.cells) (hr2 : jslots M1 - s0 ≤ R.slots) (hc0 : c0 ≤ jcells M) (hs0 : s0 ≤ jslots M) (k : jGo E mi p l e R s m args below meth c Q c0 s0 pc1 ls1 st1 M1) : jGo E mi p l e R s m args below meth c Q c0 s0 pc ls st M := by
  unfold jstep at hs
  dsimp only at hs
  have hl : len = 1 := of_decide_eq_true f3
  subst hl
  split at hs
  ·
    unfold jwrite at hs
    split at hs
    · rename_i hsh
      split at hs
      · rename_i hc
        obtain ⟨h1, rfl, h3, h4⟩ := hc
        simp only [jN, Option.some.injEq, Sum.inl.injEq, Prod.mk.injEq] at hs
        obtain ⟨rfl, rfl, rfl, rfl⟩ := hs
        exact j_lastore C f1 hsh h1 h3 h4 k
      · cases hs
    · cases hs
  · cases hs
theorem g_bastore  (C : jCtx E mi p l s m args meth c) (f1 : decode (jmb mi) pc = .ok (.bastore, len)) (f2 : okL (jnm mi) (jht mi) (jrt mi) (pc, .bastore, len, a, b, w) = true) (f3 : okX1 (jmeths.getD mi jm0) (pc, .bastore, len, a, b, w) = true) (hs : jstep (.bastore, len, a, b, w) pc ls st M = some (.inl (pc1, ls1, st1, M1))) (hr1 : jcells M1 - c0 ≤ R.cells) (hr2 : jslots M1 - s0 ≤ R.slots) (hc0 : c0 ≤ jcells M) (hs0 : s0 ≤ jslots M) (k : jGo E mi p l e R s m args below meth c Q c0 s0 pc1 ls1 st1 M1) : jGo E mi p l e R s m args below meth c Q c0 s0 pc ls st M := by
  unfold jstep at hs
  dsimp only at hs
  have hl : len = 1 := of_decide_eq_true f3
  subst hl
  split at hs
  · split at hs
    · rename_i ht
      unfold jwrite at hs
      split at hs
      · rename_i hsh
        split at hs
        · rename_i hc
          obtain ⟨h1, rfl, h3, h4⟩ := hc
          simp only [jN, Option.some.injEq, Sum.inl.injEq, Prod.mk.injEq] at hs
          obtain ⟨rfl, rfl, rfl, rfl⟩ := hs
          exact j_bastore1 C f1 hsh h1 h3 h4 k
        · cases hs
      · cases hs
    · rename_i ht
      split at hs
      · rename_i hz
        unfold jwrite at hs
        split at hs
        · rename_i hsh
          split at hs
          · rename_i hc
            obtain ⟨h1, rfl, h3, h4⟩ := hc
            simp only [jN, Option.some.injEq, Sum.inl.injEq, Prod.mk.injEq] at hs
            obtain ⟨rfl, rfl, rfl, rfl⟩ := hs
            exact j_bastore2 C f1 hsh h1 h3 h4 hz k
          · cases hs
        · cases hs
      · cases hs
  · cases hs
theorem g_aastore  (C : jCtx E mi p l s m args meth c) (f1 : decode (jmb mi) pc = .ok (.aastore, len)) (f2 : okL (jnm mi) (jht mi) (jrt mi) (pc, .aastore, len, a, b, w) = true) (f3 : okX1 (jmeths.getD mi jm0) (pc, .aastore, len, a, b, w) = true) (hs : jstep (.aastore, len, a, b, w) pc ls st M = some (.inl (pc1, ls1, st1, M1))) (hr1 : jcells M1 - c0 ≤ R.cells) (hr2 : jslots M1 - s0 ≤ R.slots) (hc0 : c0 ≤ jcells M) (hs0 : s0 ≤ jslots M) (k : jGo E mi p l e R s m args below meth c Q c0 s0 pc1 ls1 st1 M1) : jGo E mi p l e R s m args below meth c Q c0 s0 pc ls st M := by
  unfold jstep at hs
  dsimp only at hs
  have hl : len = 1 := of_decide_eq_true f3
  subst hl
  split at hs
  · split at hs
    · rename_i hc0
      unfold jwrite at hs
      split at hs
      · rename_i hsh
        split at hs
        · rename_i hc
          obtain ⟨h1, rfl, h3, h4⟩ := hc
          simp only [jN, Option.some.injEq, Sum.inl.injEq, Prod.mk.injEq] at hs
          obtain ⟨rfl, rfl, rfl, rfl⟩ := hs
          (rcases hc0 with q | q; exact j_aastore C f1 hsh h1 q.1 q.2 h3 h4 k; rw [q.1] at hsh; exact j_aastoreO C f1 hsh h1 q.2.1 q.2.2 h3 h4 k)
        · cases hs
      · cases hs
    · cases hs
  · split at hs
    · rename_i hc0
      unfold jwrite at hs
      split at hs
      · rename_i hsh
        split at hs
        · rename_i hc
          obtain ⟨h1, rfl, h3, h4⟩ := hc
          simp only [jN, Option.some.injEq, Sum.inl.injEq, Prod.mk.injEq] at hs
          obtain ⟨rfl, rfl, rfl, rfl⟩ := hs
          exact j_aastoreN C f1 hsh h1 h3 h4 k
        · cases hs
      · cases hs
    · cases hs
  · cases hs
theorem g_new {n : Nat} (C : jCtx E mi p l s m args meth c) (f1 : decode (jmb mi) pc = .ok (.new n, len)) (f2 : okL (jnm mi) (jht mi) (jrt mi) (pc, .new n, len, a, b, w) = true) (f3 : okX1 (jmeths.getD mi jm0) (pc, .new n, len, a, b, w) = true) (hs : jstep (.new n, len, a, b, w) pc ls st M = some (.inl (pc1, ls1, st1, M1))) (hr1 : jcells M1 - c0 ≤ R.cells) (hr2 : jslots M1 - s0 ≤ R.slots) (hc0 : c0 ≤ jcells M) (hs0 : s0 ≤ jslots M) (k : jGo E mi p l e R s m args below meth c Q c0 s0 pc1 ls1 st1 M1) : jGo E mi p l e R s m args below meth c Q c0 s0 pc ls st M := by
  unfold jstep at hs
  dsimp only at hs
  split at hs
  · rename_i ha
    have e2 : (if a < 100 then decide (a < 16) && jtw w (.classLink (jnm mi).cls n (jclsn a)) else true) = true := f2
    rw [if_pos ha, Bool.and_eq_true] at e2
    have hl : len = 3 := of_decide_eq_true f3
    subst hl
    split at hs
    · rename_i hc
      simp only [jN, Option.some.injEq, Sum.inl.injEq, Prod.mk.injEq] at hs
      obtain ⟨rfl, rfl, rfl, rfl⟩ := hs
      exact j_new C f1 (jtw_mem e2.2) (of_decide_eq_true e2.1) hc.1 hc.2 hr1 hr2 hc0 hs0 k
    · cases hs
  · split at hs <;> cases hs
theorem g_newarray {t : ArrayType} (C : jCtx E mi p l s m args meth c) (f1 : decode (jmb mi) pc = .ok (.newarray t, len)) (f2 : okL (jnm mi) (jht mi) (jrt mi) (pc, .newarray t, len, a, b, w) = true) (f3 : okX1 (jmeths.getD mi jm0) (pc, .newarray t, len, a, b, w) = true) (hs : jstep (.newarray t, len, a, b, w) pc ls st M = some (.inl (pc1, ls1, st1, M1))) (hr1 : jcells M1 - c0 ≤ R.cells) (hr2 : jslots M1 - s0 ≤ R.slots) (hc0 : c0 ≤ jcells M) (hs0 : s0 ≤ jslots M) (k : jGo E mi p l e R s m args below meth c Q c0 s0 pc1 ls1 st1 M1) : jGo E mi p l e R s m args below meth c Q c0 s0 pc ls st M := by
  unfold jstep at hs
  dsimp only at hs
  have hl : len = 2 := of_decide_eq_true f3
  subst hl
  have e2 : (jtw w (.arrayClass (newarray.typeOf t)) && decide (t = jaty a) && decide (100 ≤ a ∧ a < 104)) = true := f2
  simp only [Bool.and_eq_true, decide_eq_true_eq] at e2
  split at hs
  · split at hs
    · rename_i hc
      simp only [jN, Option.some.injEq, Sum.inl.injEq, Prod.mk.injEq] at hs
      obtain ⟨rfl, rfl, rfl, rfl⟩ := hs
      exact j_newarray C f1 (jtw_mem e2.1.1) e2.2 e2.1.2 hc.1 hc.2.1 hc.2.2.1 hc.2.2.2 hr1 hr2 hc0 hs0 k
    · cases hs
  · cases hs
theorem g_anewarray {n : Nat} (C : jCtx E mi p l s m args meth c) (f1 : decode (jmb mi) pc = .ok (.anewarray n, len)) (f2 : okL (jnm mi) (jht mi) (jrt mi) (pc, .anewarray n, len, a, b, w) = true) (f3 : okX1 (jmeths.getD mi jm0) (pc, .anewarray n, len, a, b, w) = true) (hs : jstep (.anewarray n, len, a, b, w) pc ls st M = some (.inl (pc1, ls1, st1, M1))) (hr1 : jcells M1 - c0 ≤ R.cells) (hr2 : jslots M1 - s0 ≤ R.slots) (hc0 : c0 ≤ jcells M) (hs0 : s0 ≤ jslots M) (k : jGo E mi p l e R s m args below meth c Q c0 s0 pc1 ls1 st1 M1) : jGo E mi p l e R s m args below meth c Q c0 s0 pc ls st M := by
  unfold jstep at hs
  dsimp only at hs
  have hl : len = 3 := of_decide_eq_true f3
  subst hl
  have e2 : (jtw w (.classLink (jnm mi).cls n (if a = 199 then "java/lang/Object" else jclsn (a - 105))) && decide (a = 110 ∨ a = 112 ∨ a = 113 ∨ a = 116 ∨ a = 199)) = true := f2
  simp only [Bool.and_eq_true, decide_eq_true_eq] at e2
  split at hs
  · split at hs
    · rename_i hc
      simp only [jN, Option.some.injEq, Sum.inl.injEq, Prod.mk.injEq] at hs
      obtain ⟨rfl, rfl, rfl, rfl⟩ := hs
      exact j_anewarray C f1 (jtw_mem e2.1) e2.2 hc.1 hc.2.1 hc.2.2.1 hc.2.2.2 hr1 hr2 hc0 hs0 k
    · cases hs
  · cases hs
theorem jcall_no {y n : Nat} {virt recv : Bool} {r : Nat × List JV × List JV × JM} : jcall y n virt recv ls st M ≠ some (.inl r) := by
  intro h
  unfold jcall at h
  dsimp only at h
  generalize (if recv = true then n + 1 else n) = k0 at h
  split at h
  · split at h
    · split at h <;> cases h
    · cases h
    · cases h
  · cases h
theorem g_invokespecial {n : Nat} (C : jCtx E mi p l s m args meth c) (f1 : decode (jmb mi) pc = .ok (.invokespecial n, len)) (f2 : okL (jnm mi) (jht mi) (jrt mi) (pc, .invokespecial n, len, a, b, w) = true) (f3 : okX1 (jmeths.getD mi jm0) (pc, .invokespecial n, len, a, b, w) = true) (hs : jstep (.invokespecial n, len, a, b, w) pc ls st M = some (.inl (pc1, ls1, st1, M1))) (hr1 : jcells M1 - c0 ≤ R.cells) (hr2 : jslots M1 - s0 ≤ R.slots) (hc0 : c0 ≤ jcells M) (hs0 : s0 ≤ jslots M) (k : jGo E mi p l e R s m args below meth c Q c0 s0 pc1 ls1 st1 M1) : jGo E mi p l e R s m args below meth c Q c0 s0 pc ls st M := by
  unfold jstep at hs
  dsimp only at hs
  exact absurd hs jcall_no
theorem g_invokeinterface {n n1 : Nat} (C : jCtx E mi p l s m args meth c) (f1 : decode (jmb mi) pc = .ok (.invokeinterface n n1, len)) (f2 : okL (jnm mi) (jht mi) (jrt mi) (pc, .invokeinterface n n1, len, a, b, w) = true) (f3 : okX1 (jmeths.getD mi jm0) (pc, .invokeinterface n n1, len, a, b, w) = true) (hs : jstep (.invokeinterface n n1, len, a, b, w) pc ls st M = some (.inl (pc1, ls1, st1, M1))) (hr1 : jcells M1 - c0 ≤ R.cells) (hr2 : jslots M1 - s0 ≤ R.slots) (hc0 : c0 ≤ jcells M) (hs0 : s0 ≤ jslots M) (k : jGo E mi p l e R s m args below meth c Q c0 s0 pc1 ls1 st1 M1) : jGo E mi p l e R s m args below meth c Q c0 s0 pc ls st M := by
  unfold jstep at hs
  dsimp only at hs
  exact absurd hs jcall_no
theorem g_ireturn  (C : jCtx E mi p l s m args meth c) (f1 : decode (jmb mi) pc = .ok (.ireturn, len)) (f2 : okL (jnm mi) (jht mi) (jrt mi) (pc, .ireturn, len, a, b, w) = true) (f3 : okX1 (jmeths.getD mi jm0) (pc, .ireturn, len, a, b, w) = true) (hs : jstep (.ireturn, len, a, b, w) pc ls st M = some (.inl (pc1, ls1, st1, M1))) (hr1 : jcells M1 - c0 ≤ R.cells) (hr2 : jslots M1 - s0 ≤ R.slots) (hc0 : c0 ≤ jcells M) (hs0 : s0 ≤ jslots M) (k : jGo E mi p l e R s m args below meth c Q c0 s0 pc1 ls1 st1 M1) : jGo E mi p l e R s m args below meth c Q c0 s0 pc ls st M := by
  unfold jstep at hs
  dsimp only at hs
  split at hs <;> first | (split at hs <;> cases hs) | cases hs
theorem g_areturn  (C : jCtx E mi p l s m args meth c) (f1 : decode (jmb mi) pc = .ok (.areturn, len)) (f2 : okL (jnm mi) (jht mi) (jrt mi) (pc, .areturn, len, a, b, w) = true) (f3 : okX1 (jmeths.getD mi jm0) (pc, .areturn, len, a, b, w) = true) (hs : jstep (.areturn, len, a, b, w) pc ls st M = some (.inl (pc1, ls1, st1, M1))) (hr1 : jcells M1 - c0 ≤ R.cells) (hr2 : jslots M1 - s0 ≤ R.slots) (hc0 : c0 ≤ jcells M) (hs0 : s0 ≤ jslots M) (k : jGo E mi p l e R s m args below meth c Q c0 s0 pc1 ls1 st1 M1) : jGo E mi p l e R s m args below meth c Q c0 s0 pc ls st M := by
  unfold jstep at hs
  dsimp only at hs
  split at hs <;> first | (split at hs <;> cases hs) | cases hs
theorem g_return_  (C : jCtx E mi p l s m args meth c) (f1 : decode (jmb mi) pc = .ok (.return_, len)) (f2 : okL (jnm mi) (jht mi) (jrt mi) (pc, .return_, len, a, b, w) = true) (f3 : okX1 (jmeths.getD mi jm0) (pc, .return_, len, a, b, w) = true) (hs : jstep (.return_, len, a, b, w) pc ls st M = some (.inl (pc1, ls1, st1, M1))) (hr1 : jcells M1 - c0 ≤ R.cells) (hr2 : jslots M1 - s0 ≤ R.slots) (hc0 : c0 ≤ jcells M) (hs0 : s0 ≤ jslots M) (k : jGo E mi p l e R s m args below meth c Q c0 s0 pc1 ls1 st1 M1) : jGo E mi p l e R s m args below meth c Q c0 s0 pc ls st M := by
  unfold jstep at hs
  dsimp only at hs
  split at hs <;> first | (split at hs <;> cases hs) | cases hs
theorem g_nop  (C : jCtx E mi p l s m args meth c) (f1 : decode (jmb mi) pc = .ok (.nop, len)) (f2 : okL (jnm mi) (jht mi) (jrt mi) (pc, .nop, len, a, b, w) = true) (f3 : okX1 (jmeths.getD mi jm0) (pc, .nop, len, a, b, w) = true) (hs : jstep (.nop, len, a, b, w) pc ls st M = some (.inl (pc1, ls1, st1, M1))) (hr1 : jcells M1 - c0 ≤ R.cells) (hr2 : jslots M1 - s0 ≤ R.slots) (hc0 : c0 ≤ jcells M) (hs0 : s0 ≤ jslots M) (k : jGo E mi p l e R s m args below meth c Q c0 s0 pc1 ls1 st1 M1) : jGo E mi p l e R s m args below meth c Q c0 s0 pc ls st M := by
  unfold jstep at hs
  dsimp only at hs
  cases f3
theorem g_invokestatic {n : Nat} (C : jCtx E mi p l s m args meth c) (f1 : decode (jmb mi) pc = .ok (.invokestatic n, len)) (f2 : okL (jnm mi) (jht mi) (jrt mi) (pc, .invokestatic n, len, a, b, w) = true) (f3 : okX1 (jmeths.getD mi jm0) (pc, .invokestatic n, len, a, b, w) = true) (hs : jstep (.invokestatic n, len, a, b, w) pc ls st M = some (.inl (pc1, ls1, st1, M1))) (hR1 : jht mi ≤ R.frames) (hR2 : 33 * jht mi ≤ R.locals)
    (KF : a = 8003 → jfill pc ls st M = some (.inl (pc1, ls1, st1, M1)) → Cond.methodLink (jnm mi).cls n jfillN ∈ jgood → 2 ≤ jht mi → decode (jmb mi) pc = .ok (.invokestatic n, 3) → jGo E mi p l e R s m args below meth c Q c0 s0 pc ls st M) (KS : a = 8004 → jsame pc ls st M = some (.inl (pc1, ls1, st1, M1)) → Cond.methodLink (jnm mi).cls n jequalN ∈ jgood → 5 ≤ jht mi → decode (jmb mi) pc = .ok (.invokestatic n, 3) → jGo E mi p l e R s m args below meth c Q c0 s0 pc ls st M) (k : jGo E mi p l e R s m args below meth c Q c0 s0 pc1 ls1 st1 M1) : jGo E mi p l e R s m args below meth c Q c0 s0 pc ls st M := by
  have hl : len = 3 := by
    have h : (decide (len = 3) && true) = true := f3
    rw [Bool.and_true] at h
    exact of_decide_eq_true h
  subst hl
  have hs : (if a = 8001 then jcopy pc ls st M else if a = 8003 then jfill pc ls st M else if a = 8004 then jsame pc ls st M else jcall a b false false ls st M) = some (.inl (pc1, ls1, st1, M1)) := hs
  have e2 : (if 9000 ≤ a then true else if a = 8001 then jtw w (.methodLink (jnm mi).cls n arraycopyName) && decide (1 ≤ jht mi) else if a = 8003 then jtw w (.methodLink (jnm mi).cls n jfillN) && decide (2 ≤ jht mi) else if a = 8004 then jtw w (.methodLink (jnm mi).cls n jequalN) && decide (5 ≤ jht mi)
        else decide (a < 275) && (jtw w (.methodLink (jnm mi).cls n (jnm a)) || decide (((jnm mi).cls, n, jnm a, jhost (jnm mi)) ∈ jnests)) && jsta a && decide (jht a + 1 ≤ jht mi) && decide ((parseMethodDescriptor (jnm a).desc).map (fun d => d.parameters.length) = some b)) = true := f2
  by_cases h1 : a = 8001
  · rw [if_pos h1] at hs
    rw [if_neg (by omega), if_pos h1, Bool.and_eq_true] at e2
    have hht := of_decide_eq_true e2.2
    unfold jcopy at hs
    split at hs
    · split at hs
      · rename_i ha hb
        split at hs
        · rename_i hc
          obtain ⟨c1, rfl, c3, c4, c5, c6, c7, c8, c9, c10, c11⟩ := hc
          simp only [jN, Option.some.injEq, Sum.inl.injEq, Prod.mk.injEq] at hs
          obtain ⟨rfl, rfl, rfl, rfl⟩ := hs
          exact j_copy C f1 (jtw_mem e2.1) (by omega) (by omega) c9 c10 ha hb c1 c4 c5 c6 c7 c8 c11 k
        · cases hs
      · cases hs
    · cases hs
  · rw [if_neg h1] at hs
    by_cases h3 : a = 8003
    · rw [if_pos h3] at hs
      rw [if_neg (by omega), if_neg h1, if_pos h3, Bool.and_eq_true] at e2
      exact KF h3 hs (jtw_mem e2.1) (of_decide_eq_true e2.2) f1
    · rw [if_neg h3] at hs
      by_cases h4 : a = 8004
      · rw [if_pos h4] at hs
        rw [if_neg (by omega), if_neg h1, if_neg h3, if_pos h4, Bool.and_eq_true] at e2
        exact KS h4 hs (jtw_mem e2.1) (of_decide_eq_true e2.2) f1
      · rw [if_neg h4] at hs
        exact absurd hs jcall_no
theorem g_invokevirtual {n : Nat} (C : jCtx E mi p l s m args meth c) (f1 : decode (jmb mi) pc = .ok (.invokevirtual n, len)) (f2 : okL (jnm mi) (jht mi) (jrt mi) (pc, .invokevirtual n, len, a, b, w) = true) (f3 : okX1 (jmeths.getD mi jm0) (pc, .invokevirtual n, len, a, b, w) = true) (hs : jstep (.invokevirtual n, len, a, b, w) pc ls st M = some (.inl (pc1, ls1, st1, M1))) (hR1 : jht mi ≤ R.frames) (hR2 : 33 * jht mi ≤ R.locals) (hr1 : jcells M1 - c0 ≤ R.cells) (hr2 : jslots M1 - s0 ≤ R.slots) (hc0 : c0 ≤ jcells M) (hs0 : s0 ≤ jslots M) (k : jGo E mi p l e R s m args below meth c Q c0 s0 pc1 ls1 st1 M1) : jGo E mi p l e R s m args below meth c Q c0 s0 pc ls st M := by
  have hs : (if a = 8002 then jclone pc ls st M else jcall a b true true ls st M) = some (.inl (pc1, ls1, st1, M1)) := hs
  have e2 : (if 9000 ≤ a then true else if a = 8002 then jtw w (.methodLink (jnm mi).cls n jcloneB) && decide (1 ≤ jht mi)
        else decide (a < 275) && jtw w (.methodLink (jnm mi).cls n (jref a)) && !(jsta a) && decide (jht a + 1 ≤ jht mi) && decide ((parseMethodDescriptor (jnm a).desc).map (fun d => d.parameters.length) = some b)) = true := f2
  by_cases h1 : a = 8002
  · rw [if_pos h1] at hs
    rw [if_neg (by omega), if_pos h1, Bool.and_eq_true] at e2
    have hht := of_decide_eq_true e2.2
    have hl : len = 3 := by
      have h : (decide (len = 3) && (if 8000 ≤ a then true else decide ((jpl a).2.1 ≠ 99999999))) = true := f3
      rw [Bool.and_eq_true] at h
      exact of_decide_eq_true h.1
    subst hl
    unfold jclone at hs
    split at hs
    · split at hs
      · rename_i hsh
        split at hs
        · rename_i hc
          obtain ⟨c1, rfl, c3, c4, c5, c6, c7, c8⟩ := hc
          simp only [jN, Option.some.injEq, Sum.inl.injEq, Prod.mk.injEq] at hs
          obtain ⟨rfl, rfl, rfl, rfl⟩ := hs
          exact j_clone C f1 (jtw_mem e2.1) (by omega) (by omega) c6 c7 hsh c1 c3 c4 c5 c8 hr1 hr2 hc0 hs0 k
        · cases hs
      · cases hs
    · cases hs
  · rw [if_neg h1] at hs
    exact absurd hs jcall_no
theorem jgo_step {x : JI} (C : jCtx E mi p l s m args meth c) (hM : okM (jmeths.getD mi jm0) = true) (hX : okX (jmeths.getD mi jm0) = true) (hc : jcode mi pc = some x) (hs : jstep x pc ls st M = some (.inl (pc1, ls1, st1, M1))) (hR1 : jht mi ≤ R.frames) (hR2 : 33 * jht mi ≤ R.locals) (hr1 : jcells M1 - c0 ≤ R.cells) (hr2 : jslots M1 - s0 ≤ R.slots) (hc0 : c0 ≤ jcells M) (hs0 : s0 ≤ jslots M)
    (KF : ∀ n, jfill pc ls st M = some (.inl (pc1, ls1, st1, M1)) → Cond.methodLink (jnm mi).cls n jfillN ∈ jgood → 2 ≤ jht mi → decode (jmb mi) pc = .ok (.invokestatic n, 3) → jGo E mi p l e R s m args below meth c Q c0 s0 pc ls st M) (KS : ∀ n, jsame pc ls st M = some (.inl (pc1, ls1, st1, M1)) → Cond.methodLink (jnm mi).cls n jequalN ∈ jgood → 5 ≤ jht mi → decode (jmb mi) pc = .ok (.invokestatic n, 3) → jGo E mi p l e R s m args below meth c Q c0 s0 pc ls st M) (k : jGo E mi p l e R s m args below meth c Q c0 s0 pc1 ls1 st1 M1) : jGo E mi p l e R s m args below meth c Q c0 s0 pc ls st M := by
  obtain ⟨f1, f2, f3⟩ := jfacts hM hX hc
  obtain ⟨ins, len, a, b, w⟩ := x
  dsimp only at f1
  cases ins
  case aload_n => exact g_aload_n C f1 f2 f3 hs hr1 hr2 hc0 hs0 k
  case aload => exact g_aload C f1 f2 f3 hs hr1 hr2 hc0 hs0 k
  case iload_n => exact g_iload_n C f1 f2 f3 hs hr1 hr2 hc0 hs0 k
  case iload => exact g_iload C f1 f2 f3 hs hr1 hr2 hc0 hs0 k
  case istore_n => exact g_istore_n C f1 f2 f3 hs hr1 hr2 hc0 hs0 k
  case istore => exact g_istore C f1 f2 f3 hs hr1 hr2 hc0 hs0 k
  case astore_n => exact g_astore_n C f1 f2 f3 hs hr1 hr2 hc0 hs0 k
  case astore => exact g_astore C f1 f2 f3 hs hr1 hr2 hc0 hs0 k
  case iinc => exact g_iinc C f1 f2 f3 hs hr1 hr2 hc0 hs0 k
  case iconst => exact g_iconst C f1 f2 f3 hs hr1 hr2 hc0 hs0 k
  case bipush => exact g_bipush C f1 f2 f3 hs hr1 hr2 hc0 hs0 k
  case sipush => exact g_sipush C f1 f2 f3 hs hr1 hr2 hc0 hs0 k
  case lconst => exact g_lconst C f1 f2 f3 hs hr1 hr2 hc0 hs0 k
  case ldc => exact g_ldc C f1 f2 f3 hs hr1 hr2 hc0 hs0 k
  case ldc_w => exact g_ldc_w C f1 f2 f3 hs hr1 hr2 hc0 hs0 k
  case getstatic => exact g_getstatic C f1 f2 f3 hs hr1 hr2 hc0 hs0 k
  case aconst_null => exact g_aconst_null C f1 f2 f3 hs hr1 hr2 hc0 hs0 k
  case ldc2_w => exact g_ldc2_w C f1 f2 f3 hs hr1 hr2 hc0 hs0 k
  case idiv => exact g_idiv C f1 f2 f3 hs hr1 hr2 hc0 hs0 k
  case irem => exact g_irem C f1 f2 f3 hs hr1 hr2 hc0 hs0 k
  case dup_x1 => exact g_dup_x1 C f1 f2 f3 hs hr1 hr2 hc0 hs0 k
  case checkcast => exact g_checkcast C f1 f2 f3 hs hr1 hr2 hc0 hs0 k
  case if_acmp => exact g_if_acmp C f1 f2 f3 hs hr1 hr2 hc0 hs0 k
  case iadd => exact g_iadd C f1 f2 f3 hs hr1 hr2 hc0 hs0 k
  case isub => exact g_isub C f1 f2 f3 hs hr1 hr2 hc0 hs0 k
  case imul => exact g_imul C f1 f2 f3 hs hr1 hr2 hc0 hs0 k
  case iand => exact g_iand C f1 f2 f3 hs hr1 hr2 hc0 hs0 k
  case ishr => exact g_ishr C f1 f2 f3 hs hr1 hr2 hc0 hs0 k
  case iushr => exact g_iushr C f1 f2 f3 hs hr1 hr2 hc0 hs0 k
  case i2b => exact g_i2b C f1 f2 f3 hs hr1 hr2 hc0 hs0 k
  case i2c => exact g_i2c C f1 f2 f3 hs hr1 hr2 hc0 hs0 k
  case i2l => exact g_i2l C f1 f2 f3 hs hr1 hr2 hc0 hs0 k
  case lcmp => exact g_lcmp C f1 f2 f3 hs hr1 hr2 hc0 hs0 k
  case ior => exact g_ior C f1 f2 f3 hs hr1 hr2 hc0 hs0 k
  case ishl => exact g_ishl C f1 f2 f3 hs hr1 hr2 hc0 hs0 k
  case ladd => exact g_ladd C f1 f2 f3 hs hr1 hr2 hc0 hs0 k
  case lsub => exact g_lsub C f1 f2 f3 hs hr1 hr2 hc0 hs0 k
  case lmul => exact g_lmul C f1 f2 f3 hs hr1 hr2 hc0 hs0 k
  case l2i => exact g_l2i C f1 f2 f3 hs hr1 hr2 hc0 hs0 k
  case dup => exact g_dup C f1 f2 f3 hs hr1 hr2 hc0 hs0 k
  case pop => exact g_pop C f1 f2 f3 hs hr1 hr2 hc0 hs0 k
  case dup2 => exact g_dup2 C f1 f2 f3 hs hr1 hr2 hc0 hs0 k
  case goto => exact g_goto C f1 f2 f3 hs hr1 hr2 hc0 hs0 k
  case ifnull => exact g_ifnull C f1 f2 f3 hs hr1 hr2 hc0 hs0 k
  case ifnonnull => exact g_ifnonnull C f1 f2 f3 hs hr1 hr2 hc0 hs0 k
  case ifCond => exact g_ifCond C f1 f2 f3 hs hr1 hr2 hc0 hs0 k
  case if_icmp => exact g_if_icmp C f1 f2 f3 hs hr1 hr2 hc0 hs0 k
  case getfield => exact g_getfield C f1 f2 f3 hs hr1 hr2 hc0 hs0 k
  case putfield => exact g_putfield C f1 f2 f3 hs hr1 hr2 hc0 hs0 k
  case arraylength => exact g_arraylength C f1 f2 f3 hs hr1 hr2 hc0 hs0 k
  case iaload => exact g_iaload C f1 f2 f3 hs hr1 hr2 hc0 hs0 k
  case baload => exact g_baload C f1 f2 f3 hs hr1 hr2 hc0 hs0 k
  case laload => exact g_laload C f1 f2 f3 hs hr1 hr2 hc0 hs0 k
  case aaload => exact g_aaload C f1 f2 f3 hs hr1 hr2 hc0 hs0 k
  case iastore => exact g_iastore C f1 f2 f3 hs hr1 hr2 hc0 hs0 k
  case lastore => exact g_lastore C f1 f2 f3 hs hr1 hr2 hc0 hs0 k
  case bastore => exact g_bastore C f1 f2 f3 hs hr1 hr2 hc0 hs0 k
  case aastore => exact g_aastore C f1 f2 f3 hs hr1 hr2 hc0 hs0 k
  case new => exact g_new C f1 f2 f3 hs hr1 hr2 hc0 hs0 k
  case newarray => exact g_newarray C f1 f2 f3 hs hr1 hr2 hc0 hs0 k
  case anewarray => exact g_anewarray C f1 f2 f3 hs hr1 hr2 hc0 hs0 k
  case invokespecial => exact g_invokespecial C f1 f2 f3 hs hr1 hr2 hc0 hs0 k
  case invokeinterface => exact g_invokeinterface C f1 f2 f3 hs hr1 hr2 hc0 hs0 k
  case ireturn => exact g_ireturn C f1 f2 f3 hs hr1 hr2 hc0 hs0 k
  case areturn => exact g_areturn C f1 f2 f3 hs hr1 hr2 hc0 hs0 k
  case return_ => exact g_return_ C f1 f2 f3 hs hr1 hr2 hc0 hs0 k
  case nop => exact g_nop C f1 f2 f3 hs hr1 hr2 hc0 hs0 k
  case invokestatic => exact g_invokestatic C f1 f2 f3 hs hR1 hR2 (fun _ => KF _) (fun _ => KS _) k
  case invokevirtual => exact g_invokevirtual C f1 f2 f3 hs hR1 hR2 hr1 hr2 hc0 hs0 k
  all_goals exact absurd (show (none : Option JR) = some (.inl (pc1, ls1, st1, M1)) from hs) (by simp)
end J15
end
section
/-! THE PRINTED MACHINE HELD AGAINST THE PURE ONE: calls, ends -/
/-- what a step makes is not taken back -/
def jle (M M1 : JM) : Prop := jcells M ≤ jcells M1 ∧ jslots M ≤ jslots M1
theorem jle_rf {M : JM} : jle M M := ⟨Nat.le_refl _, Nat.le_refl _⟩
theorem jle_tr {M M1 M2 : JM} (h : jle M M1) (k : jle M1 M2) : jle M M2 := ⟨Nat.le_trans h.1 k.1, Nat.le_trans h.2 k.2⟩
theorem jle_set {M : JM} {i k : Nat} {v : JV} : jle M (jset M i k v) := ⟨Nat.le_refl _, Nat.le_refl _⟩
theorem jle_copied {M : JM} {a b c d n : Nat} : jle M (jcopied M a b c d n) := ⟨Nat.le_refl _, Nat.le_refl _⟩
theorem jle_filled {M : JM} {i : Nat} {v : JV} : jle M (jfilled M i v) := ⟨Nat.le_refl _, Nat.le_refl _⟩
theorem jle_push {M : JM} {t n : Nat} {f : Nat → JV} : jle M (jpush M t n f) := ⟨Nat.le_add_right _ _, Nat.le_add_right _ _⟩
theorem jle_throw {M : JM} : jle M (jthrow M) := ⟨Nat.le_add_right _ _, Nat.le_add_right _ _⟩
def jleR (M : JM) (r : JR) : Prop := match r with
  | .inl (_, _, _, M1) => jle M M1
  | .inr (.inl _) => True
  | .inr (.inr (_, M1)) => jle M M1
set_option maxHeartbeats 4000000 in
theorem jstep_le {x : JI} {pc : Nat} {ls st : List JV} {M : JM} {r : JR} (hs : jstep x pc ls st M = some r) : jleR M r := by
  have hN : ∀ {pc : Nat} {ls st : List JV} {M1 : JM}, jle M M1 → jN pc ls st M1 = some r → jleR M r := fun h e => by
    cases Option.some.inj e; exact h
  have hNo : ∀ {pc : Nat} {q : Option (List JV)} {st : List JV}, jNo pc q st M = some r → jleR M r := fun {pc q st} e => by
    cases q with
    | none => cases e
    | some ls => exact hN jle_rf e
  have hF : ∀ {v : Option JV}, jF v M = some r → jleR M r := fun e => by cases Option.some.inj e; exact jle_rf
  have h1 : ∀ {x : JV} {st : List JV} {pc : Nat}, jld1 x st pc ls M = some r → jleR M r := fun {x st pc} e => by
    unfold jld1 at e; split at e
    · exact hN jle_rf e
    · cases e
  have h2 : ∀ {x : JV} {st : List JV} {pc : Nat}, jld2 x st pc ls M = some r → jleR M r := fun {x st pc} e => by
    unfold jld2 at e; split at e
    · exact hN jle_rf e
    · exact hN jle_rf e
    · cases e
  have h5 : ∀ {i pc : Nat} {st : List JV}, jst1 i st pc ls M = some r → jleR M r := fun {i pc st} e => by
    unfold jst1 at e; split at e
    · exact hNo e
    · cases e
  have h6 : ∀ {i pc : Nat} {st : List JV}, jst2 i st pc ls M = some r → jleR M r := fun {i pc st} e => by
    unfold jst2 at e; split at e
    · exact hNo e
    · exact hNo e
    · cases e
  have h7 : ∀ {cc : Bool} {t f : Nat} {st : List JV}, jbr cc t f ls st M = some r → jleR M r := fun {cc t f st} e => by
    unfold jbr at e; split at e
    · exact hN jle_rf e
    · exact hN jle_rf e
  have h8 : ∀ {t i pc : Nat} {k : Int} {st : List JV}, jread t i k pc ls st M = some r → jleR M r := fun {t i pc k st} e => by
    unfold jread at e; split at e
    · split at e
      · exact hN jle_rf e
      · cases e
    · cases e
  have h9 : ∀ {t i pc : Nat} {k : Int} {v : JV} {st : List JV}, jwrite t i k v pc ls st M = some r → jleR M r := fun {t i pc k v st} e => by
    unfold jwrite at e; split at e
    · split at e
      · exact hN jle_set e
      · cases e
    · cases e
  have h10 : ∀ {y n : Nat} {virt recv : Bool}, jcall y n virt recv ls st M = some r → jleR M r := fun {y n virt recv} e => by
    unfold jcall at e
    dsimp only at e
    generalize (if recv = true then n + 1 else n) = k0 at e
    split at e
    · split at e
      · split at e
        · cases Option.some.inj e; trivial
        · cases e
      · cases e
      · cases Option.some.inj e; trivial
    · cases e
  have h11 : jcopy pc ls st M = some r → jleR M r := fun e => by
    unfold jcopy at e
    split at e
    · split at e
      · split at e
        · exact hN jle_copied e
        · cases e
      · cases e
    · cases e
  have h12 : jclone pc ls st M = some r → jleR M r := fun e => by
    unfold jclone at e
    split at e
    · split at e
      · split at e
        · exact hN jle_push e
        · cases e
      · cases e
    · cases e
  have h13 : jfill pc ls st M = some r → jleR M r := fun e => by
    unfold jfill at e
    split at e
    · split at e
      · split at e
        · exact hN jle_filled e
        · cases e
      · cases e
    · cases e
  have h14 : jsame pc ls st M = some r → jleR M r := fun e => by
    unfold jsame at e
    split at e
    · split at e
      · exact hN jle_rf e
      · cases e
    · cases e
  obtain ⟨ins, len, a, b, w⟩ := x
  unfold jstep at hs
  dsimp only at hs
  repeat' (split at hs)
  all_goals first
    | exact h1 hs
    | exact h2 hs
    | exact h5 hs
    | exact h6 hs
    | exact h7 hs
    | exact h8 hs
    | exact h9 hs
    | exact h10 hs
    | exact h11 hs
    | exact h12 hs
    | exact h13 hs
    | exact h14 hs
    | exact hNo hs
    | exact hF hs
    | exact hN jle_rf hs
    | exact hN jle_set hs
    | exact hN jle_push hs
    | (cases Option.some.inj hs; exact jle_throw)
    | (cases hs; done)
theorem jrun_le : ∀ {n mi pc : Nat} {ls st : List JV} {M : JM} {o : JO} {M1 : JM}, jrun n mi pc ls st M = some (o, M1) → jle M M1 := by
  intro n
  induction n with
  | zero => intro mi pc ls st M o M1 h; cases h
  | succ n ih =>
    intro mi pc ls st M o M1 h
    rw [jrun] at h
    split at h
    · cases h
    · split at h
      · cases h
      · rename_i hj
        have := jstep_le hj
        exact jle_tr this (ih h)
      · rename_i hj
        have := jstep_le hj
        cases Option.some.inj h
        exact this
      · rename_i hj
        split at h
        · cases h
        · rename_i hy
          exact jle_tr (ih hy) (ih h)
        · rename_i hy
          cases Option.some.inj h
          exact ih hy
/-- a method's contract at one run of the pure machine that ends without a throw -/
def jPc (E : JE) (M : JM) (as : List JV) : Array Value → State → Prop := va_Pc (as.map (jval E)) fun U => jFx E U U.heap ∧ jRel E M U.heap ∧ ∀ v ∈ as, jok v ∧ jc2 v = false
def jQc (E : JE) (M1 : JM) (v : Option JV) : Array Value → State → Outcome → State → Prop := fun _ st oc t =>
  (oc = .returned (v.map (jval E)) ∧ (∀ x, v = some x → jok x) ∧ jRel E M1 t.heap) ∧ va_F (jA E) st t
def jcw1 (y : Nat) : Cond := .code (jnm y) (jmb y) (jmaxL y) (jrt y)
def jws (y : Nat) : List Cond := jcw1 y :: jgood
def jrm (y : Nat) (M M1 : JM) : Room := { frames := jht y, cells := jcells M1 - jcells M, slots := jslots M1 - jslots M, locals := 33 * jht y }
def jMet (l : Launch) (n y : Nat) : Prop := ∀ (E : JE) (as : List JV) (M M1 : JM) (v : Option JV), jrun n y 0 (jargs y as) [] M = some (.inl v, M1) → as.length ≤ jmaxL y →
  Met l (jnm y) (jws y) (jrm y M M1) (jPc E M as) (jQc E M1 v) (jcells M1 - jcells M) (jslots M1 - jslots M) (jA E)
theorem jPc_blind {E : JE} {M : JM} {as : List JV} : FrameBlind (jPc E M as) := by
  intro a U g mk h
  exact ⟨h.1, jFx_warm (U := U.calling g mk a) (State.WarmedH.refl U) h.2.1, h.2.2.1, h.2.2.2⟩
theorem jok_kn {v : JV} (h : jok v) : jkn v = true := jkn_ok h
section J16
variable {E : JE} {mi : Nat} {p : Program} {l : Launch} {e : Env} {R : Room} {s : State} {m : MethodId} {args : Array Value} {below : List Frame} {meth : Method} {c : Code} {Q : State → Prop} {c0 s0 pc : Nat} {ls st : List JV} {M M1 : JM}
theorem j_keep {H : Heap} {locs : List Loc} {st₀ t T' : State} {L : List Loc} (h0 : st₀.heap = H) (e1 : T'.heap = t.heap) (hS : va_S (jA E) s.heap H locs) (hL : ∀ q ∈ L, jA E q.base) (hF : va_F (jA E) st₀ t) : va_S (jA E) s.heap T'.heap (locs ++ L) := by
  obtain ⟨hz, hk⟩ := hF
  rw [h0] at hz hk
  exact ⟨Nat.le_trans hS.1 (by rw [e1]; exact hz), fun q h1 h2 => by rw [e1, hk q (Nat.lt_of_lt_of_le h1 hS.1) h2]; exact hS.2.1 q h1 h2, fun q hq => by
      rcases List.mem_append.mp hq with h | h
      · exact hS.2.2 q h
      · exact hL q h⟩
/-- behind a call -/
theorem j_after {H : Heap} {locs : List Loc} {cells slots mc ms : Nat} {lsA : Array Slot} {st0 rest : List Value} {v : Option JV} {a : Array Value} (hr : va_Run p l e R s m args below meth c H locs cells slots mc ms (F0 m pc lsA st0) rest (jQc E M1 v a) (jA E)) (hS : va_S (jA E) s.heap H locs)
    (kk : ∀ (H1 : Heap) (locs1 : List Loc), jRel E M1 H1 → va_S (jA E) s.heap H1 locs1 → (∀ x, v = some x → jok x) → W p l e R s m args below meth c H1 locs1 (cells + mc) (slots + ms) Q (F0 m (pc + 3) lsA ((v.map (jval E)).toList ++ rest))) :
    W p l e R s m args below meth c H locs cells slots Q (F0 m pc lsA st0) := by
  intro T hT X
  obtain ⟨v1, st₀, t, T', L, h0, X', hL, e1, e2, ⟨⟨hv, hok, hR⟩, hF⟩, stp⟩ := hr T hT X
  cases hv
  obtain ⟨t2, a1, b1⟩ := kk T'.heap (locs ++ L) (by rw [e1]; exact hR) (j_keep h0 e1 hS hL hF) hok T' rfl X'
  exact ⟨t2, stp t2 a1, b1⟩
theorem j_after5 {H : Heap} {locs : List Loc} {cells slots mc ms : Nat} {lsA : Array Slot} {st0 rest : List Value} {v : Option JV} {a : Array Value} (hr : va_Run5 p l e R s m args below meth c H locs cells slots mc ms (F0 m pc lsA st0) rest (jQc E M1 v a) (jA E)) (hS : va_S (jA E) s.heap H locs)
    (kk : ∀ (H1 : Heap) (locs1 : List Loc), jRel E M1 H1 → va_S (jA E) s.heap H1 locs1 → (∀ x, v = some x → jok x) → W p l e R s m args below meth c H1 locs1 (cells + mc) (slots + ms) Q (F0 m (pc + 5) lsA ((v.map (jval E)).toList ++ rest))) :
    W p l e R s m args below meth c H locs cells slots Q (F0 m pc lsA st0) := by
  intro T hT X
  obtain ⟨v1, st₀, t, T', L, h0, X', hL, e1, e2, ⟨⟨hv, hok, hR⟩, hF⟩, stp⟩ := hr T hT X
  cases hv
  obtain ⟨t2, a1, b1⟩ := kk T'.heap (locs ++ L) (by rw [e1]; exact hR) (j_keep h0 e1 hS hL hF) hok T' rfl X'
  exact ⟨t2, stp t2 a1, b1⟩
/-- the words of a callee -/
theorem jws_warm {y : Nat} (hy : jcw1 y ∈ jgood) (C : jCtx E mi p l s m args meth c) : ∀ w ∈ jws y, ∀ (a' : Array Value) (U : State), s.WarmedH U.vm → w.before a' U = true := by
  intro w hw a' U hW
  have hg : w ∈ jgood := (List.mem_cons.mp hw).elim (fun q => q ▸ hy) id
  exact word_at hW (good_of_word (List.mem_filter.mp hg).2) (C.2.2.2.2.1 w hg)
theorem jPc_at {H : Heap} {as : List JV} {lsA : Array Slot} {locs : List Loc} (C : jCtx E mi p l s m args meth c) (I : jInv E mi s lsA H locs ls st M) (ha : ∀ v ∈ as, jok v ∧ jc2 v = false) : ∀ U : State, U.heap = H → s.WarmedH U.vm → jPc E M as (as.map (jval E)).toArray U := by
  intro U hU hW
  refine ⟨rfl, ?_, by rw [hU]; exact I.2.1, ha⟩
  rw [hU]
  exact jFx_kept I.2.2.2.2.1 I.2.2.2.1 (jFx_warm hW C.2.2.2.2.2.1)
end J16
end
section
/-! THE PRINTED MACHINE HELD AGAINST THE PURE ONE: each kind of call -/
def okZ (k : Nat) : Bool := decide (jht k ≤ 30) && decide ((jnm k).name ≠ "law") && (match parseMethodDescriptor (jnm k).desc with | some d => decide (d.parameters.length + (if jsta k then 0 else 1) ≤ jmaxL k) | none => false)
theorem okZa_0 : (List.range' (33 * 0) 33).all (fun k => decide (k = 274 ∨ 275 ≤ k) || okZ k) = true := by decide +kernel
theorem okZa_1 : (List.range' (33 * 1) 33).all (fun k => decide (k = 274 ∨ 275 ≤ k) || okZ k) = true := by decide +kernel
theorem okZa_2 : (List.range' (33 * 2) 33).all (fun k => decide (k = 274 ∨ 275 ≤ k) || okZ k) = true := by decide +kernel
theorem okZa_3 : (List.range' (33 * 3) 33).all (fun k => decide (k = 274 ∨ 275 ≤ k) || okZ k) = true := by decide +kernel
theorem okZa_4 : (List.range' (33 * 4) 33).all (fun k => decide (k = 274 ∨ 275 ≤ k) || okZ k) = true := by decide +kernel
theorem okZa_5 : (List.range' (33 * 5) 33).all (fun k => decide (k = 274 ∨ 275 ≤ k) || okZ k) = true := by decide +kernel
theorem okZa_6 : (List.range' (33 * 6) 33).all (fun k => decide (k = 274 ∨ 275 ≤ k) || okZ k) = true := by decide +kernel
theorem okZa_7 : (List.range' (33 * 7) 33).all (fun k => decide (k = 274 ∨ 275 ≤ k) || okZ k) = true := by decide +kernel
theorem okZa_8 : (List.range' (33 * 8) 33).all (fun k => decide (k = 274 ∨ 275 ≤ k) || okZ k) = true := by decide +kernel
theorem okZa_l : ∀ i ∈ [0, 1, 2, 3, 4, 5, 6, 7, 8], (List.range' (33 * i) 33).all (fun k => decide (k = 274 ∨ 275 ≤ k) || okZ k) = true := List.forall_mem_cons.mpr ⟨okZa_0, List.forall_mem_cons.mpr ⟨okZa_1, List.forall_mem_cons.mpr ⟨okZa_2, List.forall_mem_cons.mpr ⟨okZa_3, List.forall_mem_cons.mpr ⟨okZa_4, List.forall_mem_cons.mpr ⟨okZa_5, List.forall_mem_cons.mpr ⟨okZa_6, List.forall_mem_cons.mpr ⟨okZa_7, List.forall_mem_cons.mpr ⟨okZa_8, fun _ h => absurd h List.not_mem_nil⟩⟩⟩⟩⟩⟩⟩⟩⟩
theorem okZ_all {k : Nat} (h : k < 275) : (decide (k = 274 ∨ 275 ≤ k) || okZ k) = true := by
  have hm : k / 33 ∈ [0, 1, 2, 3, 4, 5, 6, 7, 8] := by
    rw [show [0, 1, 2, 3, 4, 5, 6, 7, 8] = List.range 9 from rfl]
    exact List.mem_range.mpr (by omega)
  refine List.all_eq_true.mp (okZa_l _ hm) k ?_
  rw [List.mem_range']
  exact ⟨k % 33, Nat.mod_lt _ (by decide), by omega⟩
theorem jY {y : Nat} (h : okY y = true) : jcw1 y ∈ jgood ∧ (if jsta y = true then Cond.static (jnm y) ∈ jgood else Cond.instanceMethod (jnm y) ∈ jgood) ∧ ((jpl y).2.1 = 99999999 ∨ (Cond.selects (jrcv y) (jref y) (jnm y) ∈ jgood ∧ ((jref y = jnm y ∧ jrcv y = (jnm y).cls) ∨ Cond.sameMethod (jref y).cls (jref y).cls (jref y).name (jref y).desc ∈ jgood))) ∧ Cond.initialized (jnm y).cls ∈ jgood ∧ plainName (jnm y).cls = true ∧ ((jnm y).cls ≠ "java/lang/invoke/MethodHandle" ∧ (jnm y).cls ≠ "java/lang/invoke/VarHandle") ∧ jmaxL y ≤ 14 ∧ ((jref y).cls ≠ "java/lang/invoke/MethodHandle" ∧ (jref y).cls ≠ "java/lang/invoke/VarHandle") := by
  unfold okY at h
  simp only [Bool.and_eq_true, Bool.or_eq_true, decide_eq_true_eq] at h
  obtain ⟨⟨⟨⟨⟨⟨⟨⟨⟨h1, h2⟩, h3⟩, h4⟩, h5⟩, h6⟩, h7⟩, h8⟩, h9⟩, h10⟩ := h
  refine ⟨jtw_mem h1, ?_, h3.imp id fun q => ⟨jtw_mem q.1, ?_⟩, jtw_mem h4, h5, ⟨h6, h7⟩, h8, h9, h10⟩
  · split
    · rename_i hs
      rw [if_pos hs] at h2
      exact jtw_mem h2
    · rename_i hs
      rw [if_neg hs] at h2
      exact jtw_mem h2
  · have q2 := q.2
    split at q2
    · rename_i hc
      exact Or.inl hc
    · exact Or.inr (jtw_mem q2)
section J17
variable {E : JE} {mi : Nat} {p : Program} {l : Launch} {e : Env} {R : Room} {s : State} {m : MethodId} {args : Array Value} {below : List Frame} {meth : Method} {c : Code} {Q : State → Prop} {c0 s0 pc : Nat} {ls st : List JV} {M M1 : JM}
theorem jcat {rest : List JV} : ((rest.map (jval E)).map fun v => v.category).sum = jwds rest := by
  induction rest with
  | nil => rfl
  | cons v r ih =>
    unfold jwds at ih ⊢
    simp only [List.map_cons, List.sum_cons]
    rw [ih]
    by_cases h : jc2 v = true
    · rw [if_pos h]
      rcases v with z | z | z
      · cases h
      · cases h
      · cases z <;> first | rfl | cases h
    · rw [if_neg h, jval_c2 (by simpa using h)]
theorem j_fin {v : Option JV} {lsA : Array Slot} {H : Heap} {locs : List Loc} {st0 : List Value} {rest : List JV} {a : Array Value} (I : jInv E mi s lsA H locs ls st M) (hrs : ∀ v ∈ rest, jok v ∧ jkn v = true) (hle : jle M M1) (hc0 : c0 ≤ jcells M) (hs0 : s0 ≤ jslots M)
    (hr : va_Run p l e R s m args below meth c H locs (jcells M - c0) (jslots M - s0) (jcells M1 - jcells M) (jslots M1 - jslots M) (F0 m pc lsA st0) (rest.map (jval E)) (jQc E M1 v a) (jA E))
    (kk : jGo E mi p l e R s m args below meth c Q c0 s0 (pc + 3) ls (v.toList ++ rest) M1) :
    W p l e R s m args below meth c H locs (jcells M - c0) (jslots M - s0) Q (F0 m pc lsA st0) := by
  have e1 : jcells M - c0 + (jcells M1 - jcells M) = jcells M1 - c0 := by have := hle.1; omega
  have e2 : jslots M - s0 + (jslots M1 - jslots M) = jslots M1 - s0 := by have := hle.2; omega
  refine j_after hr I.2.2.2 fun H1 locs1 hR hS hok => ?_
  rw [e1, e2]
  have h := kk lsA H1 locs1 ⟨I.1, hR, fun w hw => (List.mem_append.mp hw).elim (fun q => by
      have q2 := hok w (by cases v with
        | none => cases q
        | some x => rw [List.mem_singleton.mp q])
      exact ⟨q2, jok_kn q2⟩) (hrs w), hS⟩
  rw [List.map_append] at h
  cases v <;> exact h
theorem j_fin5 {v : Option JV} {lsA : Array Slot} {H : Heap} {locs : List Loc} {st0 : List Value} {rest : List JV} {a : Array Value} (I : jInv E mi s lsA H locs ls st M) (hrs : ∀ v ∈ rest, jok v ∧ jkn v = true) (hle : jle M M1) (hc0 : c0 ≤ jcells M) (hs0 : s0 ≤ jslots M)
    (hr : va_Run5 p l e R s m args below meth c H locs (jcells M - c0) (jslots M - s0) (jcells M1 - jcells M) (jslots M1 - jslots M) (F0 m pc lsA st0) (rest.map (jval E)) (jQc E M1 v a) (jA E))
    (kk : jGo E mi p l e R s m args below meth c Q c0 s0 (pc + 5) ls (v.toList ++ rest) M1) :
    W p l e R s m args below meth c H locs (jcells M - c0) (jslots M - s0) Q (F0 m pc lsA st0) := by
  have e1 : jcells M - c0 + (jcells M1 - jcells M) = jcells M1 - c0 := by have := hle.1; omega
  have e2 : jslots M - s0 + (jslots M1 - jslots M) = jslots M1 - s0 := by have := hle.2; omega
  refine j_after5 hr I.2.2.2 fun H1 locs1 hR hS hok => ?_
  rw [e1, e2]
  have h := kk lsA H1 locs1 ⟨I.1, hR, fun w hw => (List.mem_append.mp hw).elim (fun q => by
      have q2 := hok w (by cases v with
        | none => cases q
        | some x => rw [List.mem_singleton.mp q])
      exact ⟨q2, jok_kn q2⟩) (hrs w), hS⟩
  rw [List.map_append] at h
  cases v <;> exact h
/-- the room and the words of a callee -/
theorem jB0 {y : Nat} (C : jCtx E mi p l s m args meth c) (hY : okY y = true) (hht : jht y + 1 ≤ jht mi) (hR1 : jht mi ≤ R.frames) (hR2 : 33 * jht mi ≤ R.locals) : (jrm y M M1).cells = jcells M1 - jcells M ∧ (jrm y M M1).slots = jslots M1 - jslots M ∧ (jrm y M M1).frames + 1 ≤ R.frames ∧ 8 + (jmaxL y + 11) + (jrm y M M1).locals ≤ R.locals ∧ (∀ w ∈ jws y, ∀ (a' : Array Value) (U : State), s.WarmedH U.vm → w.before a' U = true) ∧ Cond.code (jnm y) (jmb y) (jmaxL y) (jrt y) ∈ jws y := by
  obtain ⟨y1, y2, y3, y4, y5, y6, y7, y8⟩ := jY hY
  refine ⟨rfl, rfl, ?_, ?_, jws_warm y1 C, List.mem_cons_self⟩
  · show jht y + 1 ≤ R.frames; omega
  · show 8 + (jmaxL y + 11) + 33 * jht y ≤ R.locals; omega
theorem jpars {x : MethodName} {b : Nat} (hpar : (parseMethodDescriptor x.desc).map (fun d => d.parameters.length) = some b) : ∀ sig, parseMethodDescriptor x.desc = some sig → b = sig.parameters.length := fun sig h => by
  rw [h] at hpar
  exact (Option.some.inj hpar).symm
theorem jB_of {y i b : Nat} (C : jCtx E mi p l s m args meth c) (hY : okY y = true) (hht : jht y + 1 ≤ jht mi) (hR1 : jht mi ≤ R.frames) (hR2 : 33 * jht mi ≤ R.locals) (hpar : (parseMethodDescriptor (jnm y).desc).map (fun d => d.parameters.length) = some b) (hl : Cond.methodLink (jnm mi).cls i (jnm y) ∈ jgood) : CallB R s args (jnm mi).cls i (jnm y) (jmb y) (jmaxL y) (jrt y) (jws y) (jrm y M M1) (jcells M1 - jcells M) (jslots M1 - jslots M) b := by
  obtain ⟨y1, y2, y3, y4, y5, y6, y7, y8⟩ := jY hY
  have hts := C.2.2.2.2.1
  obtain ⟨b1, b2, b3, b4, b5, b6⟩ := jB0 (M := M) (M1 := M1) C hY hht hR1 hR2
  exact ⟨b1, b2, b3, b4, b5, b6, hts _ y1, hts _ y4, y6, jpars hpar, hts _ hl⟩
theorem jN_of {y i b : Nat} {host : String} (C : jCtx E mi p l s m args meth c) (hY : okY y = true) (hht : jht y + 1 ≤ jht mi) (hR1 : jht mi ≤ R.frames) (hR2 : 33 * jht mi ≤ R.locals) (hpar : (parseMethodDescriptor (jnm y).desc).map (fun d => d.parameters.length) = some b) (hl : ((jnm mi).cls, i, jnm y, host) ∈ jnests) : va_CN R s args (jnm mi).cls i (jnm y) host (jmb y) (jmaxL y) (jrt y) (jws y) (jrm y M M1) (jcells M1 - jcells M) (jslots M1 - jslots M) b := by
  obtain ⟨y1, y2, y3, y4, y5, y6, y7, y8⟩ := jY hY
  have hts := C.2.2.2.2.1
  exact ⟨jB0 C hY hht hR1 hR2, hts _ y1, hts _ y4, y6, jpars hpar, va_Nw.use (A := args) rfl (C.2.2.2.2.2.1.nest _ hl)⟩
/-- the receiver -/
theorem jrecv {y i : Nat} {lsA : Array Slot} {H : Heap} {locs : List Loc} (C : jCtx E mi p l s m args meth c) (I : jInv E mi s lsA H locs ls st M) (htag : jtag M i = jcls y) (h99 : jtag M i < 16) : ∃ cellB : Cell, H[jad E i]? = some cellB ∧ cellB.vm.isStatics = false ∧ s.vm.findClass (jrcv y) = some cellB.cls := by
  have hcn : jclsn (jtag M i) = jrcv y := by
    rw [htag] at h99 ⊢
    unfold jcls at h99 ⊢
    unfold jrcv
    split
    · rename_i hq
      have hq : (jnm y).cls = "java/lang/AbstractStringBuilder" := hq
      rw [if_pos hq]
      decide +kernel
    · rename_i hq
      rw [if_neg hq] at h99
      have hq : ¬ (jnm y).cls = "java/lang/AbstractStringBuilder" := hq
      rw [if_neg hq]
      have h12 : jFs.length = 16 := by decide +kernel
      have hfi : jFs.findIdx (fun q => q.1 == jown y) < jFs.length := by omega
      have hg := List.findIdx_getElem (w := hfi)
      have hg : (jFs[jFs.findIdx (fun q => q.1 == jown y)]).1 = jown y := by simpa using hg
      unfold jclsn
      rw [List.getD_eq_getElem?_getD, List.getElem?_eq_getElem hfi]
      exact hg
  rw [← hcn]
  by_cases hi : i < 1000000
  · obtain ⟨q, hq⟩ : ∃ q, jsh M i = some q := by
      unfold jtag at h99
      rw [if_pos hi] at h99
      cases hq : jsh M i with
      | none => rw [hq] at h99; simp at h99
      | some q => exact ⟨q, rfl⟩
    have hq1 : jtag M i = q.1 := by
      unfold jtag
      rw [if_pos hi, hq]
      rfl
    rw [hq1] at h99 ⊢
    have h1 := (I.2.1.1 i q.1 q.2 hq).1
    unfold jcellAt at h1
    rw [if_pos h99] at h1
    obtain ⟨-, cell, g1, g2, g3, -⟩ := h1
    rw [jad_i hi]
    refine ⟨cell, g1, by rw [g3]; rfl, ?_⟩
    have hcl := (C.2.2.2.2.2.1.1.1 q.1 _ (jcl_get h99)).2.1
    rw [g2, ← hcl]
  · have hl : 2000000 ≤ i ∧ i < 2000014 := by
      unfold jtag at h99
      rw [if_neg hi] at h99
      split at h99
      · assumption
      · omega
    have ht : jtag M i = 15 := by
      unfold jtag
      rw [if_neg hi, if_pos hl]
    rw [ht, show jclsn 15 = "java/lang/String" by decide +kernel, jad_k hl.1 (by omega)]
    exact vk_recv C.2.2.2.2.2.1.lit (by omega) I.2.2.2
theorem jargs_ok {as rest : List JV} {M : JM} {lsA : Array Slot} {H : Heap} {locs : List Loc} (I : jInv E mi s lsA H locs ls (as.reverse ++ rest) M) (hc2 : (as.reverse.all fun v => !jc2 v) = true) : ∀ v ∈ as, jok v ∧ jc2 v = false := by
  intro v hv
  have hmem : v ∈ as.reverse := List.mem_reverse.mpr hv
  have := List.all_eq_true.mp hc2 v hmem
  exact ⟨(I.2.2.1 v (List.mem_append_left _ hmem)).1, by simpa using this⟩
theorem j_callV {n y idx i b : Nat} {as rest : List JV} {v : Option JV} (C : jCtx E mi p l s m args meth c) (hM : jMet l n y) (hd : decode (jmb mi) pc = .ok (.invokevirtual idx, 3)) (hl : Cond.methodLink (jnm mi).cls idx (jref y) ∈ jgood) (hY : okY y = true) (hYr : okY (jrefn y) = true) (hrs9 : jsta (jrefn y) = false) (hsel : (jpl y).2.1 ≠ 99999999) (hsta : jsta y = false) (hht : jht y + 1 ≤ jht mi) (hR1 : jht mi ≤ R.frames) (hR2 : 33 * jht mi ≤ R.locals) (hpar : (parseMethodDescriptor (jref y).desc).map (fun d => d.parameters.length) = some b) (hb : as.length = b) (hmx : as.length + 1 ≤ jmaxL y)
    (htag : jtag M i = jcls y) (h99 : jtag M i < 16) (hrun : jrun n y 0 (jargs y (.inr (.inl i) :: as)) [] M = some (.inl v, M1)) (h8 : jwds rest ≤ 8) (hc2 : ((.inr (.inl i) :: as : List JV).reverse.all fun v => !jc2 v) = true) (hr1 : jcells M1 - c0 ≤ R.cells) (hr2 : jslots M1 - s0 ≤ R.slots) (hc0 : c0 ≤ jcells M) (hs0 : s0 ≤ jslots M)
    (kk : jGo E mi p l e R s m args below meth c Q c0 s0 (pc + 3) ls (v.toList ++ rest) M1) :
    jGo E mi p l e R s m args below meth c Q c0 s0 pc ls (as.reverse ++ .inr (.inl i) :: rest) M := by
  intro lsA H locs I
  have hle := jrun_le hrun
  have hts := C.2.2.2.2.1
  obtain ⟨y1, y2, y3, y4, y5, y6, y7, y8⟩ := jY hY
  rw [hsta, if_neg Bool.false_ne_true] at y2
  have estk : as.reverse ++ (.inr (.inl i) : JV) :: rest = (.inr (.inl i) :: as : List JV).reverse ++ rest := by simp
  have ha : ∀ w ∈ (.inr (.inl i) : JV) :: as, jok w ∧ jc2 w = false := jargs_ok (rest := rest) (by rw [← estk]; exact I) hc2
  have hrecv := jrecv C I htag h99
  have hM1 := hM E (.inr (.inl i) :: as) M M1 v hrun hmx
  obtain ⟨y31, y32⟩ := y3.resolve_left hsel
  by_cases hown : jref y = jnm y ∧ jrcv y = (jnm y).cls
  · rw [hown.1] at hl hpar y31
    rw [hown.2] at y31 hrecv
    have hr := va_runV (e := e) (below := below) (meth := meth) (g := F0 m pc lsA ((as.reverse ++ .inr (.inl i) :: rest).map (jval E))) (rest := rest.map (jval E)) (As := as.map (jval E)) (b := jad E i) (locs := locs) (cells := jcells M - c0) (slots := jslots M - s0) ⟨C.1, C.2.1, C.2.2.1, C.2.2.2.1, hts⟩ hM1 ⟨jB_of C hY hht hR1 hR2 hpar hl, hts _ y2, hts _ y31⟩ ⟨jPc_blind, hrecv, jPc_at C I ha⟩ rfl (by rw [List.length_map]; exact hb) I.1.1 (by rw [List.map_append, List.map_reverse]; rfl) (by show 2 * 0 + _ ≤ 8; rw [jcat]; omega) hd ⟨by have := hle.1; omega, by have := hle.2; omega⟩
    exact j_fin I (fun w hw => I.2.2.1 w (List.mem_append_right _ (List.mem_cons_of_mem _ hw))) hle hc0 hs0 hr kk
  · have y33 := y32.resolve_left hown
    obtain ⟨x1, x2, x3, x4, x5, x6, x7, x8⟩ := jY hYr
    rw [hrs9, if_neg Bool.false_ne_true] at x2
    have hdecl : va_Decl s ⟨(jref y).cls, (jref y).name, (jref y).desc⟩ := va_Decl.of (args := args) (x := jnm (jrefn y)) (b := jmb (jrefn y)) (m := jmaxL (jrefn y)) (ret := jrt (jrefn y)) (hts _ x2) (hts _ x1)
    have hr := va_runU (e := e) (below := below) (meth := meth) (x := jref y) (y := jnm y) (owner := (jref y).cls) (C := jrcv y) (bytes := jmb y) (maxL := jmaxL y) (ret := jrt y) (own := (jnm mi).cls) (g := F0 m pc lsA ((as.reverse ++ .inr (.inl i) :: rest).map (jval E))) (rest := rest.map (jval E)) (As := as.map (jval E)) (b := jad E i) (locs := locs) (cells := jcells M - c0) (slots := jslots M - s0) ⟨C.1, C.2.1, C.2.2.1, C.2.2.2.1, hts⟩ hM1 ⟨jB0 C hY hht hR1 hR2, hts _ y1, hts _ y4, y8, jpars hpar, hts _ hl, hts _ y33, hdecl, hts _ y31, hts _ y2⟩ ⟨jPc_blind, hrecv, jPc_at C I ha⟩ rfl (by rw [List.length_map]; exact hb) I.1.1 (by rw [List.map_append, List.map_reverse]; rfl) (by show 2 * 0 + _ ≤ 8; rw [jcat]; omega) hd ⟨by have := hle.1; omega, by have := hle.2; omega⟩
    exact j_fin I (fun w hw => I.2.2.1 w (List.mem_append_right _ (List.mem_cons_of_mem _ hw))) hle hc0 hs0 hr kk
theorem j_callS {n y idx b : Nat} {as rest : List JV} {v : Option JV} (C : jCtx E mi p l s m args meth c) (hM : jMet l n y) (hd : decode (jmb mi) pc = .ok (.invokestatic idx, 3)) (hl : Cond.methodLink (jnm mi).cls idx (jnm y) ∈ jgood ∨ ∃ host, ((jnm mi).cls, idx, jnm y, host) ∈ jnests) (hY : okY y = true) (hsta : jsta y = true) (hht : jht y + 1 ≤ jht mi) (hR1 : jht mi ≤ R.frames) (hR2 : 33 * jht mi ≤ R.locals) (hpar : (parseMethodDescriptor (jnm y).desc).map (fun d => d.parameters.length) = some b) (hb : as.length = b) (hmx : as.length ≤ jmaxL y)
    (hrun : jrun n y 0 (jargs y as) [] M = some (.inl v, M1)) (h8 : jwds rest ≤ 8) (hc2 : (as.reverse.all fun v => !jc2 v) = true) (hr1 : jcells M1 - c0 ≤ R.cells) (hr2 : jslots M1 - s0 ≤ R.slots) (hc0 : c0 ≤ jcells M) (hs0 : s0 ≤ jslots M)
    (kk : jGo E mi p l e R s m args below meth c Q c0 s0 (pc + 3) ls (v.toList ++ rest) M1) :
    jGo E mi p l e R s m args below meth c Q c0 s0 pc ls (as.reverse ++ rest) M := by
  intro lsA H locs I
  have hle := jrun_le hrun
  have hts := C.2.2.2.2.1
  obtain ⟨y1, y2, y3, y4, y5, y6, y7, y8⟩ := jY hY
  rw [hsta, if_pos rfl] at y2
  have ha := jargs_ok I hc2
  have hM1 := hM E as M M1 v hrun hmx
  have hrs : ∀ w ∈ rest, jok w ∧ jkn w = true := fun w hw => I.2.2.1 w (List.mem_append_right _ hw)
  rcases hl with hl | ⟨host, hl⟩
  · have hr := va_runS (e := e) (below := below) (meth := meth) (g := F0 m pc lsA ((as.reverse ++ rest).map (jval E))) (rest := rest.map (jval E)) (As := as.map (jval E)) (locs := locs) (cells := jcells M - c0) (slots := jslots M - s0) ⟨C.1, C.2.1, C.2.2.1, C.2.2.2.1, hts⟩ hM1 ⟨jB_of C hY hht hR1 hR2 hpar hl, hts _ y2⟩ ⟨jPc_blind, jPc_at C I ha⟩ rfl (by rw [List.length_map]; exact hb) I.1.1 (by rw [List.map_append, List.map_reverse]) (by show 2 * 0 + _ ≤ 8; rw [jcat]; omega) hd ⟨by have := hle.1; omega, by have := hle.2; omega⟩
    exact j_fin I hrs hle hc0 hs0 hr kk
  · have hr := va_runSN (e := e) (below := below) (meth := meth) (host := host) (bytes := jmb y) (maxL := jmaxL y) (ret := jrt y) (own := (jnm mi).cls) (g := F0 m pc lsA ((as.reverse ++ rest).map (jval E))) (rest := rest.map (jval E)) (As := as.map (jval E)) (locs := locs) (cells := jcells M - c0) (slots := jslots M - s0) ⟨C.1, C.2.1, C.2.2.1, C.2.2.2.1, hts⟩ hM1 ⟨jN_of C hY hht hR1 hR2 hpar hl, hts _ y2, trivial⟩ ⟨jPc_blind, jPc_at C I ha⟩ rfl (by rw [List.length_map]; exact hb) I.1.1 (by rw [List.map_append, List.map_reverse]) (by show 2 * 0 + _ ≤ 8; rw [jcat]; omega) hd ⟨by have := hle.1; omega, by have := hle.2; omega⟩
    exact j_fin I hrs hle hc0 hs0 hr kk
theorem j_callI {n y idx b i : Nat} {as rest : List JV} {v : Option JV} (C : jCtx E mi p l s m args meth c) (hM : jMet l n y) (hd : decode (jmb mi) pc = .ok (.invokespecial idx, 3)) (hl : Cond.methodLink (jnm mi).cls idx (jnm y) ∈ jgood ∨ ∃ host, ((jnm mi).cls, idx, jnm y, host) ∈ jnests) (hY : okY y = true) (hsta : jsta y = false) (hht : jht y + 1 ≤ jht mi) (hR1 : jht mi ≤ R.frames) (hR2 : 33 * jht mi ≤ R.locals) (hin : (jnm y).name = "<init>") (hrt : jrt y = none) (hpar : (parseMethodDescriptor (jnm y).desc).map (fun d => d.parameters.length) = some b) (hb : as.length = b) (hmx : as.length + 1 ≤ jmaxL y)
    (hrun : jrun n y 0 (jargs y (.inr (.inl i) :: as)) [] M = some (.inl v, M1)) (h8 : jwds rest ≤ 8) (hc2 : ((.inr (.inl i) :: as : List JV).reverse.all fun v => !jc2 v) = true) (hr1 : jcells M1 - c0 ≤ R.cells) (hr2 : jslots M1 - s0 ≤ R.slots) (hc0 : c0 ≤ jcells M) (hs0 : s0 ≤ jslots M)
    (kk : jGo E mi p l e R s m args below meth c Q c0 s0 (pc + 3) ls (v.toList ++ rest) M1) :
    jGo E mi p l e R s m args below meth c Q c0 s0 pc ls (as.reverse ++ .inr (.inl i) :: rest) M := by
  intro lsA H locs I
  have hle := jrun_le hrun
  have hts := C.2.2.2.2.1
  obtain ⟨y1, y2, y3, y4, y5, y6, y7, y8⟩ := jY hY
  rw [hsta, if_neg Bool.false_ne_true] at y2
  have estk : as.reverse ++ (.inr (.inl i) : JV) :: rest = (.inr (.inl i) :: as : List JV).reverse ++ rest := by simp
  have ha : ∀ w ∈ (.inr (.inl i) : JV) :: as, jok w ∧ jc2 w = false := jargs_ok (rest := rest) (by rw [← estk]; exact I) hc2
  have hM1 := hM E (.inr (.inl i) :: as) M M1 v hrun hmx
  have hrs : ∀ w ∈ rest, jok w ∧ jkn w = true := fun w hw => I.2.2.1 w (List.mem_append_right _ (List.mem_cons_of_mem _ hw))
  rcases hl with hl | ⟨host, hl⟩
  · have hB := jB_of (M := M) (M1 := M1) C hY hht hR1 hR2 hpar hl
    rw [hrt] at hB
    have hr := va_runI (e := e) (below := below) (meth := meth) (g := F0 m pc lsA ((as.reverse ++ .inr (.inl i) :: rest).map (jval E))) (rest := rest.map (jval E)) (As := as.map (jval E)) (b := jad E i) (locs := locs) (cells := jcells M - c0) (slots := jslots M - s0) ⟨C.1, C.2.1, C.2.2.1, C.2.2.2.1, hts⟩ hM1 ⟨hB, hin, hts _ y2⟩ ⟨jPc_blind, jPc_at C I ha⟩ rfl (by rw [List.length_map]; exact hb) I.1.1 (by rw [List.map_append, List.map_reverse]; rfl) (by show 2 * 0 + _ ≤ 8; rw [jcat]; omega) hd ⟨by have := hle.1; omega, by have := hle.2; omega⟩
    exact j_fin I hrs hle hc0 hs0 hr kk
  · have hB := jN_of (M := M) (M1 := M1) C hY hht hR1 hR2 hpar hl
    rw [hrt] at hB
    have hr := va_runIN (e := e) (below := below) (meth := meth) (host := host) (g := F0 m pc lsA ((as.reverse ++ .inr (.inl i) :: rest).map (jval E))) (rest := rest.map (jval E)) (As := as.map (jval E)) (b := jad E i) (locs := locs) (cells := jcells M - c0) (slots := jslots M - s0) ⟨C.1, C.2.1, C.2.2.1, C.2.2.2.1, hts⟩ hM1 ⟨hB, hin, hts _ y2⟩ ⟨jPc_blind, jPc_at C I ha⟩ rfl (by rw [List.length_map]; exact hb) I.1.1 (by rw [List.map_append, List.map_reverse]; rfl) (by show 2 * 0 + _ ≤ 8; rw [jcat]; omega) hd ⟨by have := hle.1; omega, by have := hle.2; omega⟩
    exact j_fin I hrs hle hc0 hs0 hr kk
/-- super's own method, on a StringBuilder -/
theorem jsuw : (jtw 6071 (.superclass "java/lang/StringBuilder" "java/lang/AbstractStringBuilder") && ([179, 197, 248] : List Nat).all (fun y => decide ((jnm y).cls = "java/lang/AbstractStringBuilder") && decide ((jnm y).name ≠ "<init>") && jtw (jpl y).2.2.2 (.sameMethod (jnm y).cls (jnm y).cls (jnm y).name (jnm y).desc))) = true := by decide +kernel
theorem j_callU {n y idx b i : Nat} {as rest : List JV} {v : Option JV} (C : jCtx E mi p l s m args meth c) (hM : jMet l n y) (hd : decode (jmb mi) pc = .ok (.invokespecial idx, 3)) (hl : Cond.methodLink (jnm mi).cls idx (jnm y) ∈ jgood) (hyu : y ∈ ([179, 197, 248] : List Nat)) (hmc : (jnm mi).cls = "java/lang/StringBuilder") (hY : okY y = true) (hsta : jsta y = false) (hht : jht y + 1 ≤ jht mi) (hR1 : jht mi ≤ R.frames) (hR2 : 33 * jht mi ≤ R.locals) (hpar : (parseMethodDescriptor (jnm y).desc).map (fun d => d.parameters.length) = some b) (hb : as.length = b) (hmx : as.length + 1 ≤ jmaxL y) (htag : jtag M i = jcls y) (h99 : jtag M i < 16)
    (hrun : jrun n y 0 (jargs y (.inr (.inl i) :: as)) [] M = some (.inl v, M1)) (h8 : jwds rest ≤ 8) (hc2 : ((.inr (.inl i) :: as : List JV).reverse.all fun v => !jc2 v) = true) (hr1 : jcells M1 - c0 ≤ R.cells) (hr2 : jslots M1 - s0 ≤ R.slots) (hc0 : c0 ≤ jcells M) (hs0 : s0 ≤ jslots M)
    (kk : jGo E mi p l e R s m args below meth c Q c0 s0 (pc + 3) ls (v.toList ++ rest) M1) :
    jGo E mi p l e R s m args below meth c Q c0 s0 pc ls (as.reverse ++ .inr (.inl i) :: rest) M := by
  intro lsA H locs I
  have hle := jrun_le hrun
  have hts := C.2.2.2.2.1
  obtain ⟨y1, y2, y3, y4, y5, y6, y7, y8⟩ := jY hY
  rw [hsta, if_neg Bool.false_ne_true] at y2
  have hw := jsuw
  rw [Bool.and_eq_true] at hw
  have hw2 := List.all_eq_true.mp hw.2 y hyu
  simp only [Bool.and_eq_true, decide_eq_true_eq] at hw2
  obtain ⟨⟨w1, w2⟩, w3⟩ := hw2
  have estk : as.reverse ++ (.inr (.inl i) : JV) :: rest = (.inr (.inl i) :: as : List JV).reverse ++ rest := by simp
  have ha : ∀ w ∈ (.inr (.inl i) : JV) :: as, jok w ∧ jc2 w = false := jargs_ok (rest := rest) (by rw [← estk]; exact I) hc2
  have hM1 := hM E (.inr (.inl i) :: as) M M1 v hrun hmx
  have hrs : ∀ w ∈ rest, jok w ∧ jkn w = true := fun w hw => I.2.2.1 w (List.mem_append_right _ (List.mem_cons_of_mem _ hw))
  have hrecv := jrecv C I htag h99
  have hrc : jrcv y = "java/lang/StringBuilder" := by unfold jrcv; rw [if_pos w1]
  rw [hrc] at hrecv
  have hat : ClassAt s "java/lang/StringBuilder" ((jD E).1 14) := by
    have := (C.2.2.2.2.2.1.1.1 14 _ (jcl_get (by omega))).2
    rw [show jclsn 14 = "java/lang/StringBuilder" by decide +kernel] at this
    exact this
  have hr := va_runSU (e := e) (below := below) (meth := meth) (bytes := jmb y) (maxL := jmaxL y) (ret := jrt y) (own := (jnm mi).cls) (C := "java/lang/StringBuilder") (g := F0 m pc lsA ((as.reverse ++ .inr (.inl i) :: rest).map (jval E))) (rest := rest.map (jval E)) (As := as.map (jval E)) (b := jad E i) (locs := locs) (cells := jcells M - c0) (slots := jslots M - s0) hat ⟨C.1, C.2.1, C.2.2.1, C.2.2.2.1, hts⟩ hM1 ⟨jB0 C hY hht hR1 hR2, hts _ hl, hts _ (jtw_mem w3), by rw [hmc, w1]; exact hts _ (jtw_mem hw.1), hts _ y2, hts _ y4, hts _ y1, w2, jpars hpar⟩ ⟨jPc_blind, hrecv, jPc_at C I ha⟩ rfl (by rw [List.length_map]; exact hb) I.1.1 (by rw [List.map_append, List.map_reverse]; rfl) (by show 2 * 0 + _ ≤ 8; rw [jcat]; omega) hd ⟨by have := hle.1; omega, by have := hle.2; omega⟩
  exact j_fin I hrs hle hc0 hs0 hr kk
/-- by an interface, on a String -/
theorem jifw : (jtw 7082 (.selects "java/lang/String" (jcsN "length" "()I") (jstN "length" "()I")) && jtw 7093 (.selects "java/lang/String" (jcsN "charAt" "(I)C") (jstN "charAt" "(I)C")) && decide (jnm 20 = jstN "length" "()I") && decide (jnm 22 = jstN "charAt" "(I)C")) = true := by decide +kernel
theorem j_callF {n y idx b i nn : Nat} {as rest : List JV} {v : Option JV} (C : jCtx E mi p l s m args meth c) (hM : jMet l n y) (hd : decode (jmb mi) pc = .ok (.invokeinterface idx nn, 5)) (hl : Cond.methodLink (jnm mi).cls idx (jcsN (jnm y).name (jnm y).desc) ∈ jgood) (hyf : y = 20 ∨ y = 22) (hY : okY y = true) (hsta : jsta y = false) (hht : jht y + 1 ≤ jht mi) (hR1 : jht mi ≤ R.frames) (hR2 : 33 * jht mi ≤ R.locals) (hpar : (parseMethodDescriptor (jnm y).desc).map (fun d => d.parameters.length) = some b) (hb : as.length = b) (hmx : as.length + 1 ≤ jmaxL y) (htag : jtag M i = jcls y) (h99 : jtag M i < 16)
    (hrun : jrun n y 0 (jargs y (.inr (.inl i) :: as)) [] M = some (.inl v, M1)) (h8 : jwds rest ≤ 8) (hc2 : ((.inr (.inl i) :: as : List JV).reverse.all fun v => !jc2 v) = true) (hr1 : jcells M1 - c0 ≤ R.cells) (hr2 : jslots M1 - s0 ≤ R.slots) (hc0 : c0 ≤ jcells M) (hs0 : s0 ≤ jslots M)
    (kk : jGo E mi p l e R s m args below meth c Q c0 s0 (pc + 5) ls (v.toList ++ rest) M1) :
    jGo E mi p l e R s m args below meth c Q c0 s0 pc ls (as.reverse ++ .inr (.inl i) :: rest) M := by
  intro lsA H locs I
  have hle := jrun_le hrun
  have hts := C.2.2.2.2.1
  obtain ⟨y1, y2, y3, y4, y5, y6, y7, y8⟩ := jY hY
  rw [hsta, if_neg Bool.false_ne_true] at y2
  have estk : as.reverse ++ (.inr (.inl i) : JV) :: rest = (.inr (.inl i) :: as : List JV).reverse ++ rest := by simp
  have ha : ∀ w ∈ (.inr (.inl i) : JV) :: as, jok w ∧ jc2 w = false := jargs_ok (rest := rest) (by rw [← estk]; exact I) hc2
  have hM1 := hM E (.inr (.inl i) :: as) M M1 v hrun hmx
  have hrs : ∀ w ∈ rest, jok w ∧ jkn w = true := fun w hw => I.2.2.1 w (List.mem_append_right _ (List.mem_cons_of_mem _ hw))
  have hrecv := jrecv C I htag h99
  have hw := jifw
  simp only [Bool.and_eq_true, decide_eq_true_eq] at hw
  obtain ⟨⟨⟨w1, w2⟩, w3⟩, w4⟩ := hw
  obtain ⟨q, hq, hn, hs9⟩ : ∃ q ∈ jifs, jnm y = jstN q.1 q.2 ∧ Cond.selects "java/lang/String" (jcsN q.1 q.2) (jstN q.1 q.2) ∈ jgood := by
    rcases hyf with rfl | rfl
    · exact ⟨("length", "()I"), by simp [jifs], w3, jtw_mem w1⟩
    · exact ⟨("charAt", "(I)C"), by simp [jifs], w4, jtw_mem w2⟩
  have hF := C.2.2.2.2.2.1.ifs q hq
  have hrc : jrcv y = "java/lang/String" := by
    unfold jrcv
    rw [hn]
    rfl
  rw [hrc] at hrecv
  have hat : ClassAt s "java/lang/String" ((jD E).1 15) := by
    have := (C.2.2.2.2.2.1.1.1 15 _ (jcl_get (by omega))).2
    rw [show jclsn 15 = "java/lang/String" by decide +kernel] at this
    exact this
  have en : jcsN (jnm y).name (jnm y).desc = jcsN q.1 q.2 := by rw [hn]; rfl
  rw [en] at hl
  rw [← hn] at hs9 hF
  obtain ⟨f1, f2, f3, f4, f5⟩ := hF
  have an : ∀ {w : Cond}, w.onTables = true → w.before #[] s = true → w.before args s = true := fun h1 h2 => va_tabs h1 rfl h2
  have hr := va_runF (e := e) (below := below) (meth := meth) (x := jcsN q.1 q.2) (y := jnm y) (bytes := jmb y) (maxL := jmaxL y) (ret := jrt y) (own := (jnm mi).cls) (C := "java/lang/String") (g := F0 m pc lsA ((as.reverse ++ .inr (.inl i) :: rest).map (jval E))) (rest := rest.map (jval E)) (As := as.map (jval E)) (b := jad E i) (locs := locs) (cells := jcells M - c0) (slots := jslots M - s0) hat ⟨C.1, C.2.1, C.2.2.1, C.2.2.2.1, hts⟩ hM1 ⟨jB0 C hY hht hR1 hR2, hts _ hl, an rfl f1, an rfl f2, hts _ hs9, hts _ y2, an rfl f3, an rfl f4, an rfl f5, hts _ y4, hts _ y1, jifs_cls, by rw [hn] at hpar; exact jpars (x := jcsN q.1 q.2) hpar⟩ ⟨jPc_blind, hrecv, jPc_at C I ha⟩ rfl (by rw [List.length_map]; exact hb) I.1.1 (by rw [List.map_append, List.map_reverse]; rfl) (by show 2 * 0 + _ ≤ 8; rw [jcat]; omega) hd ⟨by have := hle.1; omega, by have := hle.2; omega⟩
  exact j_fin5 I hrs hle hc0 hs0 hr kk
end J17
end
section
/-! THE PRINTED MACHINE HELD AGAINST THE PURE ONE: Math, Object, throws, the walk of a body -/
theorem jmw : ([6, 72] : List Nat).all (fun k => jtw (jwp k) (.code (jnm k) (jmb k) 2 (some .int)) && jtw (jpl k).1 (.static (jnm k)) && jtw (jpl k).2.2.1 (.initialized (jnm k).cls)) = true := by decide +kernel
theorem jmx6 : jnm 6 = Jvm.Lib.Math.max.name ∧ jmb 6 = Jvm.Lib.Math.max.code := by decide +kernel
theorem jmx72 : jnm 72 = Jvm.Lib.Math.min.name ∧ jmb 72 = Jvm.Lib.Math.min.code := by decide +kernel
theorem jow : (jtw (jpl 1).1 (.instanceMethod Jvm.Lib.objectInit) && jtw (jwp 1) (.code Jvm.Lib.objectInit ⟨#[0xb1]⟩ 1 none)) = true := by decide +kernel
theorem jon : jnm 1 = Jvm.Lib.objectInit := by decide +kernel
theorem jobj {n : Nat} {v : JV} {M M1 : JM} {o : JO} (h : jrun n 1 0 (jargs 1 [v]) [] M = some (o, M1)) : o = .inl none ∧ M1 = M := by
  have e0 : jcode 1 0 = some (.return_, 1, 0, 0, 0) := by decide +kernel
  cases n with
  | zero => cases h
  | succ n =>
    rw [jrun, e0] at h
    simp only [jstep, if_true, jF, Option.some.injEq, Prod.mk.injEq] at h
    exact ⟨h.1.symm, h.2.symm⟩
theorem jrun_no {n y pc : Nat} {ls st : List JV} {M : JM} (h : jcode y pc = none) : jrun n y pc ls st M = none := by
  cases n with
  | zero => rfl
  | succ n => rw [jrun, h]
theorem jmax_run {n : Nat} {v1 v2 : JV} {M M1 : JM} {o : JO} (h : jrun n 6 0 (jargs 6 [v1, v2]) [] M = some (o, M1)) : ∃ x y : Int, v1 = .inl x ∧ v2 = .inl y ∧ o = .inl (some (.inl (if x < y then y else x))) ∧ M1 = M := by
  have e0 : jcode 6 0 = some (.iload_n 0, 1, 0, 0, 0) := by decide +kernel
  have e1 : jcode 6 1 = some (.iload_n 1, 1, 0, 0, 0) := by decide +kernel
  have e2 : jcode 6 2 = some (.if_icmp .lt 7, 3, 9, 0, 0) := by decide +kernel
  have e5 : jcode 6 5 = some (.iload_n 0, 1, 0, 0, 0) := by decide +kernel
  have e6 : jcode 6 6 = some (.goto 4, 3, 10, 0, 0) := by decide +kernel
  have e9 : jcode 6 9 = some (.iload_n 1, 1, 0, 0, 0) := by decide +kernel
  have e10 : jcode 6 10 = some (.ireturn, 1, 0, 0, 0) := by decide +kernel
  have ea : jargs 6 [v1, v2] = [v1, v2] := by
    unfold jargs
    rw [show jmaxL 6 = 2 by decide +kernel]
    rfl
  rw [ea] at h
  rcases v1 with x | v1
  · rcases v2 with y | v2
    · refine ⟨x, y, rfl, rfl, ?_⟩
      by_cases hxy : x < y
      · rcases n with _ | _ | _ | _ | _ | n <;> simp [jrun, e0, e1, e2, e5, e6, e9, e10, jstep, jld1, jld, jN, jbr, jcond, jF, jret, hxy] at h
        rw [if_pos hxy]
        exact ⟨h.1.symm, h.2.symm⟩
      · rcases n with _ | _ | _ | _ | _ | _ | n <;> simp [jrun, e0, e1, e2, e5, e6, e9, e10, jstep, jld1, jld, jN, jbr, jcond, jF, jret, hxy] at h
        rw [if_neg hxy]
        exact ⟨h.1.symm, h.2.symm⟩
    · rcases n with _ | _ | n <;> simp [jrun, e0, e1, jstep, jld1, jld, jN] at h
  · rcases n with _ | n <;> simp [jrun, e0, jstep, jld1, jld, jN] at h
theorem jmin_run {n : Nat} {v1 v2 : JV} {M M1 : JM} {o : JO} (h : jrun n 72 0 (jargs 72 [v1, v2]) [] M = some (o, M1)) : ∃ x y : Int, v1 = .inl x ∧ v2 = .inl y ∧ o = .inl (some (.inl (if y < x then y else x))) ∧ M1 = M := by
  have e0 : jcode 72 0 = some (.iload_n 0, 1, 0, 0, 0) := by decide +kernel
  have e1 : jcode 72 1 = some (.iload_n 1, 1, 0, 0, 0) := by decide +kernel
  have e2 : jcode 72 2 = some (.if_icmp .gt 7, 3, 9, 0, 0) := by decide +kernel
  have e5 : jcode 72 5 = some (.iload_n 0, 1, 0, 0, 0) := by decide +kernel
  have e6 : jcode 72 6 = some (.goto 4, 3, 10, 0, 0) := by decide +kernel
  have e9 : jcode 72 9 = some (.iload_n 1, 1, 0, 0, 0) := by decide +kernel
  have e10 : jcode 72 10 = some (.ireturn, 1, 0, 0, 0) := by decide +kernel
  have ea : jargs 72 [v1, v2] = [v1, v2] := by
    unfold jargs
    rw [show jmaxL 72 = 2 by decide +kernel]
    rfl
  rw [ea] at h
  rcases v1 with x | v1
  · rcases v2 with y | v2
    · refine ⟨x, y, rfl, rfl, ?_⟩
      by_cases hxy : y < x
      · rcases n with _ | _ | _ | _ | _ | n <;> simp [jrun, e0, e1, e2, e5, e6, e9, e10, jstep, jld1, jld, jN, jbr, jcond, jF, jret, hxy] at h
        rw [if_pos hxy]
        exact ⟨h.1.symm, h.2.symm⟩
      · rcases n with _ | _ | _ | _ | _ | _ | n <;> simp [jrun, e0, e1, e2, e5, e6, e9, e10, jstep, jld1, jld, jN, jbr, jcond, jF, jret, hxy] at h
        rw [if_neg hxy]
        exact ⟨h.1.symm, h.2.symm⟩
    · rcases n with _ | _ | n <;> simp [jrun, e0, e1, jstep, jld1, jld, jN] at h
  · rcases n with _ | n <;> simp [jrun, e0, jstep, jld1, jld, jN] at h
section J18
variable {E : JE} {mi : Nat} {p : Program} {l : Launch} {e : Env} {R : Room} {s : State} {m : MethodId} {args : Array Value} {below : List Frame} {meth : Method} {c : Code} {Q : State → Prop} {c0 s0 pc : Nat} {ls st : List JV} {M M1 : JM}
theorem j_max {idx : Nat} {x y : Int} {rest : List JV} (C : jCtx E mi p l s m args meth c) (hd : decode (jmb mi) pc = .ok (.invokestatic idx, 3)) (hl : Cond.methodLink (jnm mi).cls idx (jnm 6) ∈ jgood) (hR1 : 1 ≤ R.frames) (hR2 : 33 ≤ R.locals) (h8 : jwds rest ≤ 8) (hr1 : jcells M - c0 ≤ R.cells) (hr2 : jslots M - s0 ≤ R.slots) (k : jGo E mi p l e R s m args below meth c Q c0 s0 (pc + 3) ls (.inl (if x < y then y else x) :: rest) M) : jGo E mi p l e R s m args below meth c Q c0 s0 pc ls (.inl y :: .inl x :: rest) M := by
  intro lsA H locs I
  have hts := C.2.2.2.2.1
  have hw := List.all_eq_true.mp jmw 6 (by simp)
  simp only [Bool.and_eq_true] at hw
  obtain ⟨⟨w1, w2⟩, w3⟩ := hw
  have w1 := hts _ (jtw_mem w1)
  have w2 := hts _ (jtw_mem w2)
  have w3 := hts _ (jtw_mem w3)
  have hl := hts _ hl
  rw [jmx6.1] at w1 w2 w3 hl
  rw [jmx6.2] at w1
  have kk := k lsA H locs (I.tl.tl.push (v := .inl (if x < y then y else x)) (by split; exact I.hd.1; exact I.tl.hd.1) rfl)
  refine va_mmax C.1 C.2.1 (C.2.2.1.trans I.1.1.symm) C.2.2.2.1 hl w2 w3 w1 hR1 (by rw [jcat]; omega) hr1 hr2 hd ?_
  rw [show (if Int32.ofInt x < Int32.ofInt y then Int32.ofInt y else Int32.ofInt x) = Int32.ofInt (if x < y then y else x) by
    by_cases hxy : x < y
    · rw [if_pos hxy, if_pos ((jlt_iff I.tl.hd.1 I.hd.1).mpr hxy)]
    · rw [if_neg hxy, if_neg (fun h => hxy ((jlt_iff I.tl.hd.1 I.hd.1).mp h))]]
  exact kk
theorem j_min {idx : Nat} {x y : Int} {rest : List JV} (C : jCtx E mi p l s m args meth c) (hd : decode (jmb mi) pc = .ok (.invokestatic idx, 3)) (hl : Cond.methodLink (jnm mi).cls idx (jnm 72) ∈ jgood) (hR1 : 1 ≤ R.frames) (hR2 : 33 ≤ R.locals) (h8 : jwds rest ≤ 8) (hr1 : jcells M - c0 ≤ R.cells) (hr2 : jslots M - s0 ≤ R.slots) (k : jGo E mi p l e R s m args below meth c Q c0 s0 (pc + 3) ls (.inl (if y < x then y else x) :: rest) M) : jGo E mi p l e R s m args below meth c Q c0 s0 pc ls (.inl y :: .inl x :: rest) M := by
  intro lsA H locs I
  have hts := C.2.2.2.2.1
  have hw := List.all_eq_true.mp jmw 72 (by simp)
  simp only [Bool.and_eq_true] at hw
  obtain ⟨⟨w1, w2⟩, w3⟩ := hw
  have w1 := hts _ (jtw_mem w1)
  have w2 := hts _ (jtw_mem w2)
  have w3 := hts _ (jtw_mem w3)
  have hl := hts _ hl
  rw [jmx72.1] at w1 w2 w3 hl
  rw [jmx72.2] at w1
  have kk := k lsA H locs (I.tl.tl.push (v := .inl (if y < x then y else x)) (by split; exact I.hd.1; exact I.tl.hd.1) rfl)
  refine va_mmin C.1 C.2.1 (C.2.2.1.trans I.1.1.symm) C.2.2.2.1 hl w2 w3 w1 hR1 (by rw [jcat]; omega) hr1 hr2 hd ?_
  rw [show (if Int32.ofInt y < Int32.ofInt x then Int32.ofInt y else Int32.ofInt x) = Int32.ofInt (if y < x then y else x) by
    by_cases hxy : y < x
    · rw [if_pos hxy, if_pos ((jlt_iff I.hd.1 I.tl.hd.1).mpr hxy)]
    · rw [if_neg hxy, if_neg (fun h => hxy ((jlt_iff I.hd.1 I.tl.hd.1).mp h))]]
  exact kk
theorem j_objInit {idx v0 : Nat} {rest : List JV} (C : jCtx E mi p l s m args meth c) (hd : decode (jmb mi) pc = .ok (.invokespecial idx, 3)) (hl : Cond.methodLink (jnm mi).cls idx (jnm 1) ∈ jgood) (hR1 : 1 ≤ R.frames) (hR2 : 33 ≤ R.locals) (h8 : jwds rest ≤ 8) (k : jGo E mi p l e R s m args below meth c Q c0 s0 (pc + 3) ls rest M) : jGo E mi p l e R s m args below meth c Q c0 s0 pc ls (.inr (.inl v0) :: rest) M := by
  intro lsA H locs I
  have hts := C.2.2.2.2.1
  have hw := jow
  rw [Bool.and_eq_true] at hw
  have hl := hts _ hl
  rw [jon] at hl
  exact W.objInit C.1 C.2.1 C.2.2.2.1 hl (hts _ (jtw_mem hw.1)) (hts _ (jtw_mem hw.2)) rfl (I.1.1.trans C.2.2.1.symm) (g := F0 m pc lsA (.ref (jad E v0) :: rest.map (jval E))) rfl hd hR1 (by show 2 * 0 + _ + 12 ≤ R.locals; rw [jcat]; omega) (k lsA H locs I.tl)
end J18
end
section
/-! THE PRINTED MACHINE HELD AGAINST THE PURE ONE: the walk of a body, all methods' contracts -/
set_option maxHeartbeats 4000000 in
theorem jstep_call {x : JI} {pc : Nat} {ls st : List JV} {M : JM} {y : Nat × List JV × List JV} (hs : jstep x pc ls st M = some (.inr (.inl y))) :
    (∃ i, x.1 = .invokestatic i ∧ jcall x.2.2.1 x.2.2.2.1 false false ls st M = some (.inr (.inl y))) ∨ (∃ i, x.1 = .invokevirtual i ∧ jcall x.2.2.1 x.2.2.2.1 true true ls st M = some (.inr (.inl y))) ∨ (∃ i, x.1 = .invokespecial i ∧ jcall x.2.2.1 (x.2.2.2.1 % 100) (jsup x.2.2.1) true ls st M = some (.inr (.inl y))) ∨ ∃ i n, x.1 = .invokeinterface i n ∧ jcall x.2.2.1 x.2.2.2.1 true true ls st M = some (.inr (.inl y)) := by
  have hN : ∀ {pc : Nat} {ls st : List JV} {M1 : JM}, jN pc ls st M1 = some (.inr (.inl y)) → False := fun e => by cases Option.some.inj e
  have hNo : ∀ {pc : Nat} {q : Option (List JV)} {st : List JV}, jNo pc q st M = some (.inr (.inl y)) → False := fun {pc q st} e => by
    cases q with
    | none => cases e
    | some ls => exact hN e
  have hF : ∀ {v : Option JV}, jF v M = some (.inr (.inl y)) → False := fun e => by cases Option.some.inj e
  have h1 : ∀ {x : JV} {st : List JV} {pc : Nat}, jld1 x st pc ls M = some (.inr (.inl y)) → False := fun {x st pc} e => by
    unfold jld1 at e; split at e
    · exact hN e
    · cases e
  have h2 : ∀ {x : JV} {st : List JV} {pc : Nat}, jld2 x st pc ls M = some (.inr (.inl y)) → False := fun {x st pc} e => by
    unfold jld2 at e; split at e
    · exact hN e
    · exact hN e
    · cases e
  have h5 : ∀ {i pc : Nat} {st : List JV}, jst1 i st pc ls M = some (.inr (.inl y)) → False := fun {i pc st} e => by
    unfold jst1 at e; split at e
    · exact hNo e
    · cases e
  have h6 : ∀ {i pc : Nat} {st : List JV}, jst2 i st pc ls M = some (.inr (.inl y)) → False := fun {i pc st} e => by
    unfold jst2 at e; split at e
    · exact hNo e
    · exact hNo e
    · cases e
  have h7 : ∀ {cc : Bool} {t f : Nat} {st : List JV}, jbr cc t f ls st M = some (.inr (.inl y)) → False := fun {cc t f st} e => by
    unfold jbr at e; split at e
    · exact hN e
    · exact hN e
  have h8 : ∀ {t i pc : Nat} {k : Int} {st : List JV}, jread t i k pc ls st M = some (.inr (.inl y)) → False := fun {t i pc k st} e => by
    unfold jread at e; split at e
    · split at e
      · exact hN e
      · cases e
    · cases e
  have h9 : ∀ {t i pc : Nat} {k : Int} {v : JV} {st : List JV}, jwrite t i k v pc ls st M = some (.inr (.inl y)) → False := fun {t i pc k v st} e => by
    unfold jwrite at e; split at e
    · split at e
      · exact hN e
      · cases e
    · cases e
  obtain ⟨ins, len, a, b, w⟩ := x
  cases ins
  case invokestatic n =>
    refine Or.inl ⟨n, rfl, ?_⟩
    have hs : (if a = 8001 then jcopy pc ls st M else if a = 8003 then jfill pc ls st M else if a = 8004 then jsame pc ls st M else jcall a b false false ls st M) = some (.inr (.inl y)) := hs
    split at hs
    · unfold jcopy at hs
      repeat' (split at hs)
      all_goals first | exact (hN hs).elim | (cases hs; done)
    · split at hs
      · unfold jfill at hs
        repeat' (split at hs)
        all_goals first | exact (hN hs).elim | (cases hs; done)
      · split at hs
        · unfold jsame at hs
          repeat' (split at hs)
          all_goals first | exact (hN hs).elim | (cases hs; done)
        · exact hs
  case invokevirtual n =>
    refine Or.inr (Or.inl ⟨n, rfl, ?_⟩)
    have hs : (if a = 8002 then jclone pc ls st M else jcall a b true true ls st M) = some (.inr (.inl y)) := hs
    split at hs
    · unfold jclone at hs
      repeat' (split at hs)
      all_goals first | exact (hN hs).elim | (cases hs; done)
    · exact hs
  case invokespecial n => exact Or.inr (Or.inr (Or.inl ⟨n, rfl, hs⟩))
  case invokeinterface n n1 => exact Or.inr (Or.inr (Or.inr ⟨n, n1, rfl, hs⟩))
  all_goals
    exfalso
    unfold jstep at hs
    dsimp only at hs
    repeat' (split at hs)
    all_goals first
      | exact h1 hs
      | exact h2 hs
      | exact h5 hs
      | exact h6 hs
      | exact h7 hs
      | exact h8 hs
      | exact h9 hs
      | exact hNo hs
      | exact hF hs
      | exact hN hs
      | (cases Option.some.inj hs; done)
      | (cases hs; done)
theorem jcall_rec {y n : Nat} {virt : Bool} {ls st as st1 : List JV} {y1 : Nat} {M : JM} (h : jcall y n virt true ls st M = some (.inr (.inl (y1, as, st1)))) : y1 = y ∧ ∃ (i : Nat) (as' : List JV), as = .inr (.inl i) :: as' ∧ st = as'.reverse ++ .inr (.inl i) :: st1 ∧ as'.length = n ∧ jwds st1 ≤ 8 ∧ (as.reverse.all fun v => !jc2 v) = true ∧ (virt = false ∨ jtag M i = jcls y) := by
  unfold jcall at h
  dsimp only at h
  rw [if_pos rfl] at h
  split at h
  · rename_i hc
    obtain ⟨c1, c2, c3⟩ := hc
    generalize hrev : (st.take (n + 1)).reverse = rv at h
    rcases rv with _ | ⟨v0, tl⟩
    · cases h
    · rcases v0 with z | z
      · cases h
      · rcases z with i | z
        · dsimp only at h
          split at h
          · rename_i ht
            cases Option.some.inj h
            refine ⟨rfl, i, tl, rfl, ?_, ?_, c2, by rw [← hrev, List.reverse_reverse]; exact c3, ht⟩
            · have h1 : st.take (n + 1) = (.inr (.inl i) :: tl).reverse := by rw [← hrev, List.reverse_reverse]
              rw [List.reverse_cons] at h1
              calc st = st.take (n + 1) ++ st.drop (n + 1) := (List.take_append_drop _ _).symm
                _ = _ := by rw [h1, List.append_assoc]; rfl
            · have h1 := congrArg List.length hrev
              rw [List.length_reverse, List.length_take, List.length_cons] at h1
              omega
          · cases h
        · cases h
  · cases h
theorem jcall_sta {y n : Nat} {ls st as st1 : List JV} {y1 : Nat} {M : JM} (h : jcall y n false false ls st M = some (.inr (.inl (y1, as, st1)))) : y1 = y ∧ st = as.reverse ++ st1 ∧ as.length = n ∧ jwds st1 ≤ 8 ∧ (as.reverse.all fun v => !jc2 v) = true := by
  unfold jcall at h
  dsimp only at h
  rw [if_neg Bool.false_ne_true] at h
  split at h
  · rename_i hc
    obtain ⟨c1, c2, c3⟩ := hc
    cases Option.some.inj h
    refine ⟨rfl, ?_, ?_, c2, by rw [List.reverse_reverse]; exact c3⟩
    · rw [List.reverse_reverse, List.take_append_drop]
    · rw [List.length_reverse, List.length_take]; omega
  · cases h
theorem jcode_no {y : Nat} (h : 275 ≤ y) (pc : Nat) : jcode y pc = none := by
  unfold jcode
  rw [List.getD_eq_getElem?_getD, List.getElem?_eq_none (by rw [jmeths_len]; exact h)]
  rfl
theorem jYof {y : Nat} (h : y < 274) (h1 : y ≠ 1) (h6 : y ≠ 6) (h79 : y ≠ 72) : okY y = true := by
  have := okY_all (show y < 275 by omega)
  rw [Bool.or_eq_true] at this
  rcases this with q | q
  · have := of_decide_eq_true q; omega
  · exact q
theorem jZof {y : Nat} (h : y < 274) : (jht y ≤ 30 ∧ (jnm y).name ≠ "law") ∧ ∃ d, parseMethodDescriptor (jnm y).desc = some d ∧ d.parameters.length + (if jsta y then 0 else 1) ≤ jmaxL y := by
  have := okZ_all (show y < 275 by omega)
  rw [Bool.or_eq_true] at this
  rcases this with q | q
  · have := of_decide_eq_true q; omega
  · unfold okZ at q
    rw [Bool.and_eq_true, Bool.and_eq_true] at q
    refine ⟨⟨of_decide_eq_true q.1.1, of_decide_eq_true q.1.2⟩, ?_⟩
    have q2 := q.2
    split at q2
    · rename_i d hd
      exact ⟨d, hd, of_decide_eq_true q2⟩
    · cases q2
theorem jrefn_lt {y : Nat} (h : y < 274) : jrefn y < 274 ∧ (jrefn y = y ∨ (jrefn y ≠ 1 ∧ jrefn y ≠ 6 ∧ jrefn y ≠ 72 ∧ jsta (jrefn y) = false)) := by
  unfold jrefn
  split
  · exact ⟨by omega, Or.inr ⟨by omega, by omega, by omega, by decide +kernel⟩⟩
  · split
    · exact ⟨by omega, Or.inr ⟨by omega, by omega, by omega, by decide +kernel⟩⟩
    · exact ⟨h, Or.inl rfl⟩
theorem jrefn_par {y b : Nat} (h : (parseMethodDescriptor (jnm y).desc).map (fun d => d.parameters.length) = some b) : (parseMethodDescriptor (jref y).desc).map (fun d => d.parameters.length) = some b := by
  unfold jref jrefn
  split
  · rename_i q
    subst q
    have e : (parseMethodDescriptor (jnm 177).desc).map (fun d => d.parameters.length) = (parseMethodDescriptor (jnm 179).desc).map (fun d => d.parameters.length) := by decide +kernel
    rw [← e]; exact h
  · split
    · rename_i q
      subst q
      have e : (parseMethodDescriptor (jnm 247).desc).map (fun d => d.parameters.length) = (parseMethodDescriptor (jnm 248).desc).map (fun d => d.parameters.length) := by decide +kernel
      rw [← e]; exact h
    · exact h
theorem jtag_own {y : Nat} (h : y < 275) (hs : jsta y = false) (hi : (jnm y).name ≠ "<init>") : jcls y < 16 := by
  have h0 : (List.range 275).all (fun y => jsta y || (decide ((jnm y).name = "<init>") || decide (jcls y < 16))) = true := by decide +kernel
  have := List.all_eq_true.mp h0 y (List.mem_range.mpr h)
  simp only [Bool.or_eq_true, decide_eq_true_eq] at this
  rcases this with q | q | q
  · rw [hs] at q; cases q
  · exact absurd q hi
  · exact q
theorem jnest_no {c : String} {i : Nat} {y : Nat} {host : String} (hy : y < 275) (h : y = 6 ∨ y = 72) : (c, i, jnm y, host) ∉ jnests := by
  intro q
  have h0 : jnests.all (fun q => decide (q.2.2.1 ≠ jnm 6) && decide (q.2.2.1 ≠ jnm 72)) = true := by decide +kernel
  have := List.all_eq_true.mp h0 _ q
  simp only [Bool.and_eq_true, decide_eq_true_eq] at this
  rcases h with rfl | rfl
  · exact this.1 rfl
  · exact this.2 rfl
section J19
variable {E : JE} {mi : Nat} {p : Program} {l : Launch} {e : Env} {R : Room} {s : State} {m : MethodId} {args : Array Value} {below : List Frame} {meth : Method} {c : Code} {Q : State → Prop} {c0 s0 : Nat}
def jSpec (l : Launch) : Prop := (∀ (E : JE) (M M1 : JM) (pc pc1 : Nat) (ls st ls1 st1 : List JV) {mi : Nat} {p : Program} {e : Env} {R : Room} {s : State} {m : MethodId} {args : Array Value} {below : List Frame} {meth : Method} {c : Code} {Q : State → Prop} {c0 s0 n : Nat}, jCtx E mi p l s m args meth c → jfill pc ls st M = some (.inl (pc1, ls1, st1, M1)) → Cond.methodLink (jnm mi).cls n jfillN ∈ jgood → 2 ≤ jht mi → jht mi ≤ R.frames → 33 * jht mi ≤ R.locals → c0 ≤ jcells M → s0 ≤ jslots M → jcells M1 - c0 ≤ R.cells → jslots M1 - s0 ≤ R.slots → decode (jmb mi) pc = .ok (.invokestatic n, 3) → jGo E mi p l e R s m args below meth c Q c0 s0 pc1 ls1 st1 M1 → jGo E mi p l e R s m args below meth c Q c0 s0 pc ls st M)
  ∧ (∀ (E : JE) (M M1 : JM) (pc pc1 : Nat) (ls st ls1 st1 : List JV) {mi : Nat} {p : Program} {e : Env} {R : Room} {s : State} {m : MethodId} {args : Array Value} {below : List Frame} {meth : Method} {c : Code} {Q : State → Prop} {c0 s0 n : Nat}, jCtx E mi p l s m args meth c → jsame pc ls st M = some (.inl (pc1, ls1, st1, M1)) → Cond.methodLink (jnm mi).cls n jequalN ∈ jgood → 5 ≤ jht mi → jht mi ≤ R.frames → 33 * jht mi ≤ R.locals → c0 ≤ jcells M → s0 ≤ jslots M → jcells M1 - c0 ≤ R.cells → jslots M1 - s0 ≤ R.slots → decode (jmb mi) pc = .ok (.invokestatic n, 3) → jGo E mi p l e R s m args below meth c Q c0 s0 pc1 ls1 st1 M1 → jGo E mi p l e R s m args below meth c Q c0 s0 pc ls st M)
set_option maxHeartbeats 4000000 in
theorem jwalk {N : Nat} (HS : jSpec l) (IH : ∀ k, k < N → ∀ y, y < 274 → y ≠ 1 → y ≠ 6 → y ≠ 72 → jMet l k y) (C : jCtx E mi p l s m args meth c) (hmi : mi < 275) (hM : okM (jmeths.getD mi jm0) = true) (hX : okX (jmeths.getD mi jm0) = true) (hh14 : jht mi ≤ 30) (hR1 : jht mi ≤ R.frames) (hR2 : 33 * jht mi ≤ R.locals) {v : Option JV} {Mf : JM} (hf1 : jcells Mf - c0 ≤ R.cells) (hf2 : jslots Mf - s0 ≤ R.slots)
    (HR : ∀ (pc : Nat) (ls st : List JV) (x : JI) (M : JM), jcode mi pc = some x → jstep x pc ls st M = some (.inr (.inr (.inl v, Mf))) → jGo E mi p l e R s m args below meth c Q c0 s0 pc ls st M) :
    ∀ (n : Nat), n ≤ N → ∀ (pc : Nat) (ls st : List JV) (M : JM), jrun n mi pc ls st M = some (.inl v, Mf) → c0 ≤ jcells M → s0 ≤ jslots M → jGo E mi p l e R s m args below meth c Q c0 s0 pc ls st M := by
  intro n
  induction n with
  | zero => intro _ pc ls st M h; cases h
  | succ n ih =>
    intro hn pc ls st M h hc0 hs0
    rw [jrun] at h
    split at h
    · cases h
    · rename_i x hx
      split at h
      · cases h
      · rename_i pc1 ls1 st1 M1 hj
        have hle : jle M M1 := jstep_le hj
        have hle2 := jrun_le h
        have a1 := hle.1
        have a2 := hle.2
        have a3 := hle2.1
        have a4 := hle2.2
        have kk := ih (by omega) _ _ _ _ h (by omega) (by omega)
        exact jgo_step C hM hX hx hj hR1 hR2 (by omega) (by omega) hc0 hs0 (fun n q1 q2 q3 q4 => HS.1 E M M1 pc pc1 ls st ls1 st1 C q1 q2 q3 hR1 hR2 hc0 hs0 (by omega) (by omega) q4 kk) (fun n q1 q2 q3 q4 => HS.2 E M M1 pc pc1 ls st ls1 st1 C q1 q2 q3 hR1 hR2 hc0 hs0 (by omega) (by omega) q4 kk) kk
      · rename_i r hj
        obtain rfl := Option.some.inj h
        exact HR pc ls st x M hx hj
      · rename_i y as st1 hj
        obtain ⟨f1, f2, f3⟩ := jfacts hM hX hx
        obtain ⟨w, M1, hy, h⟩ : ∃ (w : Option JV) (M1 : JM), jrun n y 0 (jargs y as) [] M = some (.inl w, M1) ∧ jrun n mi (pc + jrl x) ls (w.toList ++ st1) M1 = some (.inl v, Mf) := by
          split at h
          · cases h
          · rename_i w M1 hy
            exact ⟨_, _, hy, h⟩
          · cases h
        have hle : jle M M1 := jrun_le hy
        have hle2 : jle M1 Mf := jrun_le h
        have a1 := hle.1
        have a2 := hle.2
        have a3 := hle2.1
        have a4 := hle2.2
        have kk : jGo E mi p l e R s m args below meth c Q c0 s0 (pc + jrl x) ls (w.toList ++ st1) M1 := ih (by omega) _ _ _ _ h (by omega) (by omega)
        rcases jstep_call hj with ⟨i, hi, hcl⟩ | ⟨i, hi, hcl⟩ | ⟨i, hi, hcl⟩ | ⟨i, nn, hi, hcl⟩
        · obtain ⟨ins, len, a, b, w9⟩ := x
          dsimp only at hi
          subst hi
          obtain ⟨hya, b2, b3, b4, b5⟩ := jcall_sta hcl
          dsimp only at hya
          have hya := hya.symm
          subst hya
          dsimp only at f1 b3 b4 hy
          have e3 : (decide (len = 3) && true) = true := f3
          rw [Bool.and_true] at e3
          have e2 : (if 9000 ≤ a then true else if a = 8001 then jtw w9 (.methodLink (jnm mi).cls i arraycopyName) && decide (1 ≤ jht mi) else if a = 8003 then jtw w9 (.methodLink (jnm mi).cls i jfillN) && decide (2 ≤ jht mi) else if a = 8004 then jtw w9 (.methodLink (jnm mi).cls i jequalN) && decide (5 ≤ jht mi)
        else decide (a < 275) && (jtw w9 (.methodLink (jnm mi).cls i (jnm a)) || decide (((jnm mi).cls, i, jnm a, jhost (jnm mi)) ∈ jnests)) && jsta a && decide (jht a + 1 ≤ jht mi) && decide ((parseMethodDescriptor (jnm a).desc).map (fun d => d.parameters.length) = some b)) = true := f2
          by_cases h8 : 275 ≤ a
          · rw [jrun_no (jcode_no h8 0)] at hy
            cases hy
          · rw [if_neg (by omega), if_neg (by omega), if_neg (by omega), if_neg (by omega)] at e2
            simp only [Bool.and_eq_true, Bool.or_eq_true, decide_eq_true_eq] at e2
            have hl3 := of_decide_eq_true e3
            subst hl3
            obtain ⟨⟨⟨⟨d1, d2⟩, d3⟩, d4⟩, d5⟩ := e2
            have ha : a < 274 := by
              rcases Nat.lt_or_ge a 274 with g | g
              · exact g
              · have : a = 274 := by omega
                subst this
                have h9 : (parseMethodDescriptor (jnm 274).desc).map (fun d => d.parameters.length) = some 1 := by decide +kernel
                have h10 : jht 274 = 18 := by decide +kernel
                have h11 : (List.range 275).all (fun y => decide (y = 274) || decide (jht y < 18)) = true := by decide +kernel
                have h12 := List.all_eq_true.mp h11 mi (List.mem_range.mpr hmi)
                simp only [Bool.or_eq_true, decide_eq_true_eq] at h12
                rcases h12 with q | q
                · rw [q] at d4; omega
                · omega
            have d2' : Cond.methodLink (jnm mi).cls i (jnm a) ∈ jgood ∨ ∃ host, ((jnm mi).cls, i, jnm a, host) ∈ jnests := d2.imp jtw_mem fun q => ⟨_, q⟩
            subst b2
            have ha1 : a ≠ 1 := fun q => by
              subst q
              have : jsta 1 = false := by decide +kernel
              rw [this] at d3
              cases d3
            have kk : jGo E mi p l e R s m args below meth c Q c0 s0 (pc + 3) ls (w.toList ++ st1) M1 := kk
            by_cases ha6 : a = 6
            · subst ha6
              have hb : b = 2 := by
                have : (parseMethodDescriptor (jnm 6).desc).map (fun d => d.parameters.length) = some 2 := by decide +kernel
                rw [this] at d5
                exact (Option.some.inj d5).symm
              rw [hb] at b3
              match as, b3 with
              | [v1, v2], _ =>
                obtain ⟨x, y, rfl, rfl, r3, r4⟩ := jmax_run hy
                subst r4
                cases r3
                have hl : Cond.methodLink (jnm mi).cls i (jnm 6) ∈ jgood := by
                  rcases d2' with q | ⟨host, q⟩
                  · exact q
                  · exact absurd q (jnest_no (by omega) (Or.inl rfl))
                exact j_max C f1 hl (by omega) (by omega) b4 (by omega) (by omega) kk
            · by_cases ha79 : a = 72
              · subst ha79
                have hb : b = 2 := by
                  have : (parseMethodDescriptor (jnm 72).desc).map (fun d => d.parameters.length) = some 2 := by decide +kernel
                  rw [this] at d5
                  exact (Option.some.inj d5).symm
                rw [hb] at b3
                match as, b3 with
                | [v1, v2], _ =>
                  obtain ⟨x, y, rfl, rfl, r3, r4⟩ := jmin_run hy
                  subst r4
                  cases r3
                  have hl : Cond.methodLink (jnm mi).cls i (jnm 72) ∈ jgood := by
                    rcases d2' with q | ⟨host, q⟩
                    · exact q
                    · exact absurd q (jnest_no (by omega) (Or.inr rfl))
                  exact j_min C f1 hl (by omega) (by omega) b4 (by omega) (by omega) kk
              · obtain ⟨z1, d, z2, z3⟩ := jZof ha
                rw [if_pos d3] at z3
                have hmx : as.length ≤ jmaxL a := by
                  rw [z2] at d5
                  have hq : d.parameters.length = b := Option.some.inj d5
                  omega
                exact j_callS C (IH n (by omega) a ha ha1 ha6 ha79) f1 d2' (jYof ha ha1 ha6 ha79) d3 d4 hR1 hR2 d5 b3 hmx hy b4 b5 (by omega) (by omega) hc0 hs0 kk
        · obtain ⟨ins, len, a, b, w9⟩ := x
          dsimp only at hi
          subst hi
          obtain ⟨hya, i0, as', b2, b3, b4, b5, b6, b7⟩ := jcall_rec hcl
          dsimp only at hya
          have hya := hya.symm
          subst hya
          dsimp only at f1 b4 b7 hy
          have e3 : (decide (len = 3) && (if 8000 ≤ a then true else decide ((jpl a).2.1 ≠ 99999999))) = true := f3
          have e2 : (if 9000 ≤ a then true else if a = 8002 then jtw w9 (.methodLink (jnm mi).cls i jcloneB) && decide (1 ≤ jht mi)
        else decide (a < 275) && jtw w9 (.methodLink (jnm mi).cls i (jref a)) && !(jsta a) && decide (jht a + 1 ≤ jht mi) && decide ((parseMethodDescriptor (jnm a).desc).map (fun d => d.parameters.length) = some b)) = true := f2
          by_cases h8 : 275 ≤ a
          · rw [jrun_no (jcode_no h8 0)] at hy
            cases hy
          · rw [if_neg (by omega), if_neg (by omega)] at e2
            rw [if_neg (by omega)] at e3
            simp only [Bool.and_eq_true, decide_eq_true_eq, Bool.not_eq_true'] at e2 e3
            obtain ⟨⟨⟨⟨d1, d2⟩, d3⟩, d5⟩, d6⟩ := e2
            obtain ⟨hl3, d7⟩ := e3
            subst hl3
            have ha : a < 274 := by
              rcases Nat.lt_or_ge a 274 with g | g
              · exact g
              · have : a = 274 := by omega
                subst this
                have : jsta 274 = true := by decide +kernel
                rw [this] at d3; cases d3
            have ha1 : a ≠ 1 := fun q => by
              subst q
              have : (jpl 1).2.1 = 99999999 := by decide +kernel
              exact d7 this
            have ha6 : a ≠ 6 := fun q => by
              subst q
              have : jsta 6 = true := by decide +kernel
              rw [this] at d3; cases d3
            have ha79 : a ≠ 72 := fun q => by
              subst q
              have : jsta 72 = true := by decide +kernel
              rw [this] at d3; cases d3
            obtain ⟨z1, d, z2, z3⟩ := jZof ha
            rw [d3, if_neg Bool.false_ne_true] at z3
            subst b2 b3
            have hmx : as'.length + 1 ≤ jmaxL a := by
              rw [z2] at d6
              have hq : d.parameters.length = b := Option.some.inj d6
              omega
            have hY := jYof ha ha1 ha6 ha79
            have hrl := jrefn_lt ha
            have hYr : okY (jrefn a) = true ∧ jsta (jrefn a) = false := by
              rcases hrl.2 with q | ⟨q1, q2, q3, q4⟩
              · rw [q]; exact ⟨hY, d3⟩
              · exact ⟨jYof hrl.1 q1 q2 q3, q4⟩
            have htag := b7.resolve_left (by simp)
            have kk : jGo E mi p l e R s m args below meth c Q c0 s0 (pc + 3) ls (w.toList ++ st1) M1 := kk
            have h16 : jtag M i0 < 16 := by
              rw [htag]
              refine jtag_own (by omega) d3 fun q => ?_
              have hz : (List.range 275).all (fun y => decide ((jpl y).2.1 = 99999999) || decide ((jnm y).name ≠ "<init>")) = true := by decide +kernel
              have := List.all_eq_true.mp hz a (List.mem_range.mpr (by omega))
              simp only [Bool.or_eq_true, decide_eq_true_eq] at this
              rcases this with r | r
              · exact d7 r
              · exact r q
            exact j_callV C (IH n (by omega) a ha ha1 ha6 ha79) f1 (jtw_mem d2) hY hYr.1 hYr.2 d7 d3 d5 hR1 hR2 (jrefn_par d6) b4 hmx htag h16 hy b5 b6 (by omega) (by omega) hc0 hs0 kk
        · obtain ⟨ins, len, a, b, w9⟩ := x
          dsimp only at hi
          subst hi
          obtain ⟨hya, i0, as', b2, b3, b4, b5, b6, b7⟩ := jcall_rec hcl
          dsimp only at hya
          have hya := hya.symm
          subst hya
          dsimp only at f1 b4 b7 hy
          have e3 : (decide (len = 3) && (if a = 1 then decide (b = 0) else true)) = true := f3
          have e2 : (if 9000 ≤ a then true else decide (a < 275) && (if b < 100 then jtw w9 (.methodLink (jnm mi).cls i (jnm a)) else decide (((jnm mi).cls, i, jnm a, jhost (jnm mi)) ∈ jnests)) && !(jsta a) && decide (jht a + 1 ≤ jht mi) && decide ((parseMethodDescriptor (jnm a).desc).map (fun d => d.parameters.length) = some (b % 100)) && ((decide ((jnm a).name = "<init>") && decide (jrt a = none)) || (decide (a = 179 ∨ a = 197 ∨ a = 248) && decide ((jnm mi).cls = "java/lang/StringBuilder") && decide (b < 100)))) = true := f2
          by_cases h8 : 275 ≤ a
          · rw [jrun_no (jcode_no h8 0)] at hy
            cases hy
          · rw [if_neg (by omega)] at e2
            simp only [Bool.and_eq_true, Bool.or_eq_true, decide_eq_true_eq, Bool.not_eq_true'] at e2 e3
            obtain ⟨⟨⟨⟨⟨d1, d2⟩, d3⟩, d5⟩, d7⟩, d8⟩ := e2
            obtain ⟨hl3, d10⟩ := e3
            subst hl3
            subst b2 b3
            have kk : jGo E mi p l e R s m args below meth c Q c0 s0 (pc + 3) ls (w.toList ++ st1) M1 := kk
            by_cases ha1 : a = 1
            · subst ha1
              rw [if_pos rfl] at d10
              have d10 := of_decide_eq_true d10
              subst d10
              match as', b4 with
              | [], _ =>
                obtain ⟨r3, r4⟩ := jobj hy
                subst r4
                cases r3
                rw [if_pos (by decide)] at d2
                exact j_objInit C f1 (jtw_mem d2) (by omega) (by omega) b5 kk
            · have ha : a < 274 := by
                rcases Nat.lt_or_ge a 274 with g | g
                · exact g
                · have : a = 274 := by omega
                  subst this
                  have : jsta 274 = true := by decide +kernel
                  rw [this] at d3; cases d3
              have ha6 : a ≠ 6 := fun q => by
                subst q
                have : jsta 6 = true := by decide +kernel
                rw [this] at d3; cases d3
              have ha79 : a ≠ 72 := fun q => by
                subst q
                have : jsta 72 = true := by decide +kernel
                rw [this] at d3; cases d3
              obtain ⟨z1, d, z2, z3⟩ := jZof ha
              rw [d3, if_neg Bool.false_ne_true] at z3
              have hmx : as'.length + 1 ≤ jmaxL a := by
                rw [z2] at d7
                have hq : d.parameters.length = b % 100 := Option.some.inj d7
                omega
              rcases d8 with ⟨d8, d9⟩ | ⟨⟨d8, d9⟩, d11⟩
              · have hl : Cond.methodLink (jnm mi).cls i (jnm a) ∈ jgood ∨ ∃ host, ((jnm mi).cls, i, jnm a, host) ∈ jnests := by
                  by_cases hb : b < 100
                  · rw [if_pos hb] at d2
                    exact Or.inl (jtw_mem d2)
                  · rw [if_neg hb] at d2
                    exact Or.inr ⟨_, of_decide_eq_true d2⟩
                exact j_callI C (IH n (by omega) a ha ha1 ha6 ha79) f1 hl (jYof ha ha1 ha6 ha79) d3 d5 hR1 hR2 d8 d9 d7 b4 hmx hy b5 b6 (by omega) (by omega) hc0 hs0 kk
              · rw [if_pos d11] at d2
                have hyu : a ∈ ([179, 197, 248] : List Nat) := by
                  rcases d8 with rfl | rfl | rfl <;> simp
                have hja : jsup a = true := by
                  rcases d8 with rfl | rfl | rfl <;> rfl
                have htag := b7.resolve_left (by rw [hja]; simp)
                have h16 : jtag M i0 < 16 := by
                  rw [htag]
                  refine jtag_own (by omega) d3 fun q => ?_
                  rcases d8 with rfl | rfl | rfl
                  · revert q; decide +kernel
                  · revert q; decide +kernel
                  · revert q; decide +kernel
                exact j_callU C (IH n (by omega) a ha ha1 ha6 ha79) f1 (jtw_mem d2) hyu d9 (jYof ha ha1 ha6 ha79) d3 d5 hR1 hR2 d7 b4 hmx htag h16 hy b5 b6 (by omega) (by omega) hc0 hs0 kk
        · obtain ⟨ins, len, a, b, w9⟩ := x
          dsimp only at hi
          subst hi
          obtain ⟨hya, i0, as', b2, b3, b4, b5, b6, b7⟩ := jcall_rec hcl
          dsimp only at hya
          have hya := hya.symm
          subst hya
          dsimp only at f1 b4 b7 hy
          have e3 : decide (len = 5) = true := f3
          have e2 : (decide (a < 275) && jtw w9 (.methodLink (jnm mi).cls i ⟨"java/lang/CharSequence", (jnm a).name, (jnm a).desc⟩) && !(jsta a) && decide (jht a + 1 ≤ jht mi) && decide ((parseMethodDescriptor (jnm a).desc).map (fun d => d.parameters.length) = some b) && decide (a = 20 ∨ a = 22) && decide (nn = b + 1)) = true := f2
          simp only [Bool.and_eq_true, decide_eq_true_eq, Bool.not_eq_true'] at e2
          obtain ⟨⟨⟨⟨⟨⟨d1, d2⟩, d3⟩, d5⟩, d6⟩, d8⟩, d9⟩ := e2
          have hl3 := of_decide_eq_true e3
          subst hl3
          have ha : a < 274 := by omega
          obtain ⟨z1, d, z2, z3⟩ := jZof ha
          rw [d3, if_neg Bool.false_ne_true] at z3
          subst b2 b3
          have hmx : as'.length + 1 ≤ jmaxL a := by
            rw [z2] at d6
            have hq : d.parameters.length = b := Option.some.inj d6
            omega
          have htag := b7.resolve_left (by simp)
          have h16 : jtag M i0 < 16 := by
            rw [htag]
            refine jtag_own (by omega) d3 fun q => ?_
            rcases d8 with rfl | rfl
            · revert q; decide +kernel
            · revert q; decide +kernel
          have kk : jGo E mi p l e R s m args below meth c Q c0 s0 (pc + 5) ls (w.toList ++ st1) M1 := kk
          exact j_callF C (IH n (by omega) a ha (by omega) (by omega) (by omega)) f1 (jtw_mem d2) d8 (jYof ha (by omega) (by omega) (by omega)) d3 d5 hR1 hR2 d6 b4 hmx htag h16 hy b5 b6 (by omega) (by omega) hc0 hs0 kk
end J19
end
section
/-! THE PRINTED MACHINE HELD AGAINST THE PURE ONE: ends, all methods' contracts -/
set_option maxHeartbeats 4000000 in
theorem jstep_fin {x : JI} {pc : Nat} {ls st : List JV} {M : JM} {y : JO × JM} (hs : jstep x pc ls st M = some (.inr (.inr y))) :
    x.1 = .ireturn ∨ x.1 = .areturn ∨ x.1 = .return_ ∨ x.1 = .nop ∨ ∃ n, x.1 = .new n := by
  have hN : ∀ {pc : Nat} {ls st : List JV} {M1 : JM}, jN pc ls st M1 = some (.inr (.inr y)) → False := fun e => by cases Option.some.inj e
  have hNo : ∀ {pc : Nat} {q : Option (List JV)} {st : List JV}, jNo pc q st M = some (.inr (.inr y)) → False := fun {pc q st} e => by
    cases q with
    | none => cases e
    | some ls => exact hN e
  have h1 : ∀ {x : JV} {st : List JV} {pc : Nat}, jld1 x st pc ls M = some (.inr (.inr y)) → False := fun {x st pc} e => by
    unfold jld1 at e; split at e
    · exact hN e
    · cases e
  have h2 : ∀ {x : JV} {st : List JV} {pc : Nat}, jld2 x st pc ls M = some (.inr (.inr y)) → False := fun {x st pc} e => by
    unfold jld2 at e; split at e
    · exact hN e
    · exact hN e
    · cases e
  have h5 : ∀ {i pc : Nat} {st : List JV}, jst1 i st pc ls M = some (.inr (.inr y)) → False := fun {i pc st} e => by
    unfold jst1 at e; split at e
    · exact hNo e
    · cases e
  have h6 : ∀ {i pc : Nat} {st : List JV}, jst2 i st pc ls M = some (.inr (.inr y)) → False := fun {i pc st} e => by
    unfold jst2 at e; split at e
    · exact hNo e
    · exact hNo e
    · cases e
  have h7 : ∀ {cc : Bool} {t f : Nat} {st : List JV}, jbr cc t f ls st M = some (.inr (.inr y)) → False := fun {cc t f st} e => by
    unfold jbr at e; split at e
    · exact hN e
    · exact hN e
  have h8 : ∀ {t i pc : Nat} {k : Int} {st : List JV}, jread t i k pc ls st M = some (.inr (.inr y)) → False := fun {t i pc k st} e => by
    unfold jread at e; split at e
    · split at e
      · exact hN e
      · cases e
    · cases e
  have h9 : ∀ {t i pc : Nat} {k : Int} {v : JV} {st : List JV}, jwrite t i k v pc ls st M = some (.inr (.inr y)) → False := fun {t i pc k v st} e => by
    unfold jwrite at e; split at e
    · split at e
      · exact hN e
      · cases e
    · cases e
  have h10 : ∀ {y9 n9 : Nat} {virt recv : Bool}, jcall y9 n9 virt recv ls st M = some (.inr (.inr y)) → False := fun {y9 n9 virt recv} e => by
    unfold jcall at e
    dsimp only at e
    generalize (if recv = true then n9 + 1 else n9) = k0 at e
    split at e
    · split at e
      · split at e <;> cases e
      · cases e
      · cases e
    · cases e
  have h11 : jcopy pc ls st M = some (.inr (.inr y)) → False := fun e => by
    unfold jcopy at e
    repeat' (split at e)
    all_goals first | exact hN e | (cases e; done)
  have h12 : jclone pc ls st M = some (.inr (.inr y)) → False := fun e => by
    unfold jclone at e
    repeat' (split at e)
    all_goals first | exact hN e | (cases e; done)
  have h13 : jfill pc ls st M = some (.inr (.inr y)) → False := fun e => by
    unfold jfill at e
    repeat' (split at e)
    all_goals first | exact hN e | (cases e; done)
  have h14 : jsame pc ls st M = some (.inr (.inr y)) → False := fun e => by
    unfold jsame at e
    repeat' (split at e)
    all_goals first | exact hN e | (cases e; done)
  obtain ⟨ins, len, a, b, w⟩ := x
  cases ins
  case ireturn => exact Or.inl rfl
  case areturn => exact Or.inr (Or.inl rfl)
  case return_ => exact Or.inr (Or.inr (Or.inl rfl))
  case nop => exact Or.inr (Or.inr (Or.inr (Or.inl rfl)))
  case new n => exact Or.inr (Or.inr (Or.inr (Or.inr ⟨n, rfl⟩)))
  all_goals
    exfalso
    unfold jstep at hs
    dsimp only at hs
    repeat' (split at hs)
    all_goals first
      | exact h1 hs
      | exact h2 hs
      | exact h5 hs
      | exact h6 hs
      | exact h7 hs
      | exact h8 hs
      | exact h9 hs
      | exact h10 hs
      | exact h11 hs
      | exact h12 hs
      | exact h13 hs
      | exact h14 hs
      | exact hNo hs
      | exact hN hs
      | (cases Option.some.inj hs; done)
      | (cases hs; done)
theorem jbyte_n {z : Int} (h : -128 ≤ z ∧ z ≤ 127) : narrow .byte (.int (Int32.ofInt z)) = .int (Int32.ofInt z) := by
  show Value.int (Int32.ofInt z).toInt8.toInt32 = _
  congr 1
  apply Int32.toInt_inj.mp
  rw [Int8.toInt_toInt32, Int32.toInt_toInt8, jofi (by omega), Int.bmod_eq_of_le (by omega) (by omega)]
theorem jchar_n {z : Int} (h : 0 ≤ z ∧ z ≤ 65535) : narrow .char (.int (Int32.ofInt z)) = .int (Int32.ofInt z) := by
  obtain ⟨q, rfl⟩ := Int.eq_ofNat_of_zero_le h.1
  rw [Int32.ofInt_eq_ofNat]
  exact (pk_charN (q := q) (by omega)).1
theorem jret_ty {rt : Option FieldType} {a pc len b w ht : Nat} {z : Int} {y : MethodName} (f2 : okL y ht rt (pc, .ireturn, len, a, b, w) = true) (hz : jret a z = true) : ∃ ty, rt = some ty ∧ narrow ty (.int (Int32.ofInt z)) = .int (Int32.ofInt z) :=
  match a, f2, hz with
  | 0, f2, _ => ⟨.int, of_decide_eq_true f2, rfl⟩
  | 1, f2, hz => ⟨.boolean, of_decide_eq_true f2, by
      simp only [jret, Bool.or_eq_true, beq_iff_eq] at hz
      rcases hz with rfl | rfl <;> decide +kernel⟩
  | 2, f2, hz => ⟨.byte, of_decide_eq_true f2, jbyte_n (of_decide_eq_true hz)⟩
  | _ + 3, f2, hz => ⟨.char, of_decide_eq_true f2, jchar_n (of_decide_eq_true hz)⟩
section J20
variable {E : JE} {mi : Nat} {p : Program} {l : Launch} {e : Env} {R : Room} {s : State} {m : MethodId} {args : Array Value} {below : List Frame} {meth : Method} {c : Code} {Q : State → Prop} {c0 s0 : Nat}
/-- a return -/
theorem j_ret {Mf : JM} {pc : Nat} {ls st : List JV} {x : JI} {M : JM} {v : Option JV} (C : jCtx E mi p l s m args meth c) (hr : meth.sig.returnType = jrt mi) (hM : okM (jmeths.getD mi jm0) = true) (hX : okX (jmeths.getD mi jm0) = true) (hx : jcode mi pc = some x) (hs : jstep x pc ls st M = some (.inr (.inr (.inl v, Mf)))) :
    jGo E mi p l e R s m args below meth c (MQ below (jQc E Mf v) args s (jcells Mf - c0) (jslots Mf - s0) (jA E)) c0 s0 pc ls st M := by
  obtain ⟨f1, f2, f3⟩ := jfacts hM hX hx
  have hlk := C.2.2.2.2.2.2.1
  intro lsA H locs I
  have fin : ∀ (v1 : Option JV), v = v1 → (∀ x, v1 = some x → jok x) → M = Mf → ∀ t : State, t.heap = H → s.WarmedH t.vm → jQc E Mf v args s (.returned (v1.map (jval E))) t := by
    intro v1 h1 h2 h3 t ht _
    subst h1 h3
    exact ⟨⟨rfl, h2, by rw [ht]; exact I.2.1⟩, I.2.2.2.F ht⟩
  rcases jstep_fin hs with hi | hi | hi | hi | ⟨n, hi⟩
  · obtain ⟨ins, len, a, b, w⟩ := x
    dsimp only at hi
    subst hi
    have hl : len = 1 := of_decide_eq_true f3
    subst hl
    unfold jstep at hs
    dsimp only at hs
    split at hs
    · rename_i z
      split at hs
      · rename_i hz
        unfold jF at hs
        cases Option.some.inj hs
        have hok : jok (.inl z) := I.hd.1
        obtain ⟨ty, hty, hn⟩ := jret_ty f2 hz
        exact W.zret C.1 C.2.1 (hr.trans hty) hn (fin (some (.inl z)) rfl (fun y hy => by cases hy; exact hok) rfl) I.2.2.2.2.2 f1 hlk
      · cases hs
    · cases hs
  · obtain ⟨ins, len, a, b, w⟩ := x
    dsimp only at hi
    subst hi
    have hl : len = 1 := of_decide_eq_true f3
    subst hl
    have e2 : (match jrt mi with | some (.object _) => true | some (.array _) => true | _ => false) = true := f2
    have hrt : ∃ q, jrt mi = some q ∧ ((∃ n, q = .object n) ∨ ∃ t, q = .array t) := by
      split at e2
      · rename_i q hq
        exact ⟨_, hq, Or.inl ⟨q, rfl⟩⟩
      · rename_i q hq
        exact ⟨_, hq, Or.inr ⟨q, rfl⟩⟩
      · cases e2
    obtain ⟨q, hq, hq2⟩ := hrt
    unfold jstep at hs
    dsimp only at hs
    split at hs
    · rename_i z
      unfold jF at hs
      cases Option.some.inj hs
      exact W.aret C.1 C.2.1 (hr.trans hq) hq2 (Or.inr ⟨_, rfl⟩) (fin (some (.inr (.inl z))) rfl (fun y hy => by cases hy; trivial) rfl) I.2.2.2.2.2 f1 hlk
    · unfold jF at hs
      cases Option.some.inj hs
      exact W.aret C.1 C.2.1 (hr.trans hq) hq2 (Or.inl rfl) (fin (some (.inr (.inr .null))) rfl (fun y hy => by cases hy; trivial) rfl) I.2.2.2.2.2 f1 hlk
    · cases hs
  · obtain ⟨ins, len, a, b, w⟩ := x
    dsimp only at hi
    subst hi
    have hl : len = 1 := of_decide_eq_true f3
    subst hl
    unfold jstep at hs
    dsimp only at hs
    split at hs
    · rename_i hst
      subst hst
      unfold jF at hs
      cases Option.some.inj hs
      exact W.vret C.1 C.2.1 (hr.trans (of_decide_eq_true f2)) (fin none rfl (fun y hy => by cases hy) rfl) I.2.2.2.2.2 f1 hlk
    · cases hs
  · obtain ⟨ins, len, a, b, w⟩ := x
    dsimp only at hi
    subst hi
    cases f3
  · obtain ⟨ins, len, a, b, w⟩ := x
    dsimp only at hi
    subst hi
    unfold jstep at hs
    dsimp only at hs
    split at hs
    · split at hs
      · cases Option.some.inj hs
      · cases hs
    · split at hs
      · cases Option.some.inj hs
      · cases hs
end J20
end
section
/-! THE PRINTED MACHINE HELD AGAINST THE PURE ONE: all methods' contracts, out of their bodies' walks -/
theorem lv_args_mem : ∀ (vs : List Value) (j : Nat), (∀ v ∈ vs, v.category = 1) → ∀ (i : Nat) (v : Value), vs[i]? = some v → (j + i, v) ∈ lv_args j vs := by
  intro vs
  induction vs with
  | nil => intro j _ i v h; simp at h
  | cons a r ih =>
    intro j hc i v h
    have ha : a.category = 1 := hc a List.mem_cons_self
    rw [lv_args, if_neg (by rw [ha]; decide)]
    cases i with
    | zero => simp at h; subst h; exact List.mem_cons_self
    | succ i =>
      have := ih (j + 1) (fun v hv => hc v (List.mem_cons_of_mem _ hv)) i v (by simpa using h)
      rw [show j + 1 + i = j + (i + 1) by omega] at this
      exact List.mem_cons_of_mem _ this
theorem lg_sl_len : ∀ (vs : List Value), (∀ v ∈ vs, v.category = 1) → (lg_sl vs).length = vs.length := by
  intro vs
  induction vs with
  | nil => intro _; rfl
  | cons a r ih =>
    intro hc
    have ha : a.category = 1 := hc a List.mem_cons_self
    have := ih fun v hv => hc v (List.mem_cons_of_mem _ hv)
    unfold lg_sl at this ⊢
    rw [List.flatMap_cons, List.length_append, this, if_neg (by rw [ha]; decide)]
    simp
    omega
theorem jLoc_entry {E : JE} {y : Nat} {as : List JV} (hmx : as.length ≤ jmaxL y) (ha : ∀ v ∈ as, jok v ∧ jc2 v = false) : jLoc E ((lg_sl (as.map (jval E)) ++ List.replicate (jmaxL y - (lg_sl (as.map (jval E))).length) Slot.unset).toArray) (jmaxL y) (jargs y as) := by
  have hc : ∀ v ∈ as.map (jval E), v.category = 1 := fun v hv => by
    obtain ⟨w, hw, rfl⟩ := List.mem_map.mp hv
    exact jval_c2 (ha w hw).2
  have hl := lv_entry (as.map (jval E)) (n := jmaxL y) (by rw [lg_sl_len _ hc, List.length_map]; exact hmx)
  refine jLoc_of hl ?_ fun i v hv hk => ?_
  · unfold jargs
    rw [List.length_append, List.length_replicate]
    omega
  · unfold jargs at hv
    by_cases hi : i < as.length
    · rw [List.getElem?_append_left hi] at hv
      refine ⟨?_, (ha v (List.mem_of_getElem? hv)).1⟩
      have := lv_args_mem (as.map (jval E)) 0 hc i (jval E v) (by rw [List.getElem?_map, hv]; rfl)
      rwa [Nat.zero_add] at this
    · rw [List.getElem?_append_right (by omega)] at hv
      have := List.mem_of_getElem? hv
      rw [(List.mem_replicate.mp this).2] at hk
      cases hk
theorem okMof {y n : Nat} {as : List JV} {M M1 : JM} {o : JO} (h : y < 275) (h32 : y ≠ 25) (hrun : jrun n y 0 as [] M = some (o, M1)) : okM (jmeths.getD y jm0) = true ∧ okX (jmeths.getD y jm0) = true := by
  have hX := okX_all h
  rw [Bool.or_eq_true] at hX
  have hX : okX (jmeths.getD y jm0) = true := by
    rcases hX with q | q
    · have := of_decide_eq_true q; omega
    · exact q
  refine ⟨?_, hX⟩
  rcases oks _ (jm_mem h) with q | q
  · exact q
  · rw [q] at hX
    have : okX jm_25 = false := by decide +kernel
    rw [this] at hX; cases hX
end
section
set_option maxHeartbeats 4000000 in
theorem jmet_step {l : Launch} (hfl : l.flags = flags0) (HS : jSpec l) {N : Nat} (IH : ∀ k, k < N → ∀ y, y < 274 → y ≠ 1 → y ≠ 6 → y ≠ 72 → jMet l k y) {y : Nat} (hy : y < 274) (h1 : y ≠ 1) (h6 : y ≠ 6) (h79 : y ≠ 72) (h32 : y ≠ 25) : jMet l N y := by
  intro E as M M1 v hrun hmx
  obtain ⟨hM, hX⟩ := okMof (show y < 275 by omega) h32 hrun
  have hYk := jYof hy h1 h6 h79
  obtain ⟨y1, y2, y3, y4, y5, y6, y7, y8⟩ := jY hYk
  obtain ⟨⟨z1, z0⟩, -⟩ := jZof hy
  refine Met.ofW (cc := jmb y) (maxL := jmaxL y) (ret := jrt y) (ws' := jgood) y5 rfl fun p e s m args below meth c s₁ B hml hv => ?_
  obtain ⟨rfl, hFx, hRel, hargs⟩ := hv
  have hts0 := atoms_spec (ws := jws y) B.pre
  have C : jCtx E y p l s m (as.map (jval E)).toArray meth c := ⟨B.exec, B.bytes, hml, findClass_of_methodNamed B.named, fun w hw => hts0 w (List.mem_cons_of_mem _ hw), hFx, B.notSynchronized, (name_of_methodNamed B.named B.method).1, hfl, hFx.size⟩
  rw [lg_entry_eq]
  have hL := jLoc_entry (E := E) (y := y) hmx hargs
  generalize (lg_sl (as.map (jval E)) ++ List.replicate (jmaxL y - (lg_sl (as.map (jval E))).length) Slot.unset).toArray = ls0 at hL ⊢
  have hr : meth.sig.returnType = jrt y := B.returns
  have hgo := jwalk (E := E) (mi := y) (p := p) (l := l) (e := e) (R := jrm y M M1) (s := s) (m := m) (args := (as.map (jval E)).toArray) (below := below) (meth := meth) (c := c) (Q := MQ below (jQc E M1 v) (as.map (jval E)).toArray s (jcells M1 - jcells M) (jslots M1 - jslots M) (jA E)) (c0 := jcells M) (s0 := jslots M) HS IH C (show y < 275 by omega) hM hX z1 (Nat.le_refl _) (Nat.le_refl _) (v := v) (Mf := M1) (Nat.le_refl _) (Nat.le_refl _)
    (fun pc ls st x M' hx hs => j_ret C hr hM hX hx hs)
    N (Nat.le_refl _) 0 (jargs y as) [] M hrun (Nat.le_refl _) (Nat.le_refl _) ls0 s.heap [] ⟨hL, hRel, (fun _ h => nomatch h), va_S.rf⟩
  rw [Nat.sub_self, Nat.sub_self] at hgo
  exact hgo
/-! String.checkIndex: its own walk, in range -/
theorem jpre_l1 : Cond.fieldLink (jnm 25).cls 1053 "jdk/internal/util/Preconditions" "SIOOBE_FORMATTER" "Ljava/util/function/BiFunction;" ∈ jgood := jtw_mem (w := 3027) (by decide +kernel)
theorem jpre_l2 : Cond.methodLink (jnm 25).cls 1059 (jnm 26) ∈ jgood := jtw_mem (w := 3029) (by decide +kernel)
theorem jmet_pre {l : Launch} (hfl : l.flags = flags0) {E : JE} {M : JM} {x y : Int} {v : Value} (hx : jok (.inl x)) (hy : jok (.inl y)) (h0 : 0 ≤ x) (h1 : x < y) (hv : v.category = 1) : Met l (jnm 26) (jws 26) (jrm 26 M M) (va_Pc [.int (Int32.ofInt x), .int (Int32.ofInt y), v] fun U => jFx E U U.heap ∧ jRel E M U.heap) (jQc E M (some (.inl x))) (jcells M - jcells M) (jslots M - jslots M) (jA E) := by
  have hcw : jcw1 26 = .code (jnm 26) (jmb 26) 3 (some .int) := by
    unfold jcw1
    rw [show jmaxL 26 = 3 by decide +kernel, show jrt 26 = some .int by decide +kernel]
  have hY := jYof (y := 26) (by decide) (by decide) (by decide) (by decide)
  obtain ⟨y1, y2, y3, y4, y5, y6, y7, y8⟩ := jY hY
  refine Met.ofW (cc := jmb 26) (maxL := 3) (ret := some .int) (ws' := jgood) y5 (by unfold jws; rw [hcw]) fun p e s m args below meth c s₁ B hml hv1 => ?_
  obtain ⟨rfl, hFx, hRel⟩ := hv1
  have hx0 := B.exec
  have hb := B.bytes
  have hr := B.returns
  have hlocks := B.notSynchronized
  have d0 : decode (jmb 26) 0 = .ok (.iload_n 0, 1) := by decide +kernel
  have d1 : decode (jmb 26) 1 = .ok (.ifCond .lt 8, 3) := by decide +kernel
  have d4 : decode (jmb 26) 4 = .ok (.iload_n 0, 1) := by decide +kernel
  have d5 : decode (jmb 26) 5 = .ok (.iload_n 1, 1) := by decide +kernel
  have d6 : decode (jmb 26) 6 = .ok (.if_icmp .lt 10, 3) := by decide +kernel
  have d16 : decode (jmb 26) 16 = .ok (.iload_n 0, 1) := by decide +kernel
  have d17 : decode (jmb 26) 17 = .ok (.ireturn, 1) := by decide +kernel
  have hc3 : ∀ w ∈ [Value.int (Int32.ofInt x), .int (Int32.ofInt y), v], w.category = 1 := fun w hw => by
    simp only [List.mem_cons, List.not_mem_nil, or_false] at hw
    rcases hw with rfl | rfl | rfl
    · rfl
    · rfl
    · exact hv
  have hl := lv_entry ([.int (Int32.ofInt x), .int (Int32.ofInt y), v]) (n := 3) (by rw [lg_sl_len _ hc3]; exact Nat.le_refl 3)
  rw [lg_entry_eq]
  generalize (lg_sl ([.int (Int32.ofInt x), .int (Int32.ofInt y), v]) ++ List.replicate (3 - (lg_sl ([.int (Int32.ofInt x), .int (Int32.ofInt y), v])).length) Slot.unset).toArray = ls at hl ⊢
  have g0 : ls[0]? = some (.val (.int (Int32.ofInt x))) := hl.2.2 (0, _) List.mem_cons_self
  have g1 : ls[1]? = some (.val (.int (Int32.ofInt y))) := hl.2.2 (1, _) (by show _ ∈ (0, Value.int (Int32.ofInt x)) :: (1, Value.int (Int32.ofInt y)) :: _; exact List.mem_cons_of_mem _ List.mem_cons_self)
  refine lv_iload_n hx0 hb d0 rfl g0 ?_
  refine lv_if_lt (tgt := 9) hx0 hb d1 (by decide) (fun hc => ?_) (fun _ => ?_)
  · rw [Int32.lt_iff_toInt_lt, jofi hx] at hc
    simp at hc
    omega
  refine lv_iload_n hx0 hb d4 rfl g0 ?_
  refine lv_iload_n hx0 hb d5 rfl g1 ?_
  refine lv_icmp_lt (tgt := 16) hx0 hb d6 (by decide) (fun _ => ?_) (fun hc => absurd ((jlt_iff hx hy).mpr h1) hc)
  refine lv_iload_n hx0 hb d16 rfl g0 ?_
  rw [Nat.sub_self, Nat.sub_self]
  exact W.iret hx0 hb hr (fun t ht _ => ⟨⟨rfl, (fun q hq => by cases hq; exact hx), by rw [ht]; exact hRel⟩, by rw [ht]; exact Nat.le_refl _, fun q _ _ => by rw [ht]⟩) (fun _ h => nomatch h) d17 hlocks
set_option maxHeartbeats 4000000 in
theorem jmet_check {l : Launch} (hfl : l.flags = flags0) {n : Nat} : jMet l n 25 := by
  intro E as M M1 v0 hrun hmx
  have e0 : jcode 25 0 = some (.nop, 1, 0, 0, 99999999) := by decide +kernel
  have hm2 : jmaxL 25 = 2 := by decide +kernel
  obtain ⟨x, y, rfl, h0, h1, rfl, rfl⟩ : ∃ x y : Int, as = [.inl x, .inl y] ∧ 0 ≤ x ∧ x < y ∧ v0 = none ∧ M = M1 := by
    cases n with
    | zero => cases hrun
    | succ n =>
      rw [jrun, e0] at hrun
      have hj : ∀ ls : List JV, jstep (.nop, 1, 0, 0, 99999999) 0 ls [] M = match ls with | [.inl k, .inl n] => (if 0 ≤ k ∧ k < n then jF none M else none) | _ => none := fun _ => rfl
      simp only [hj] at hrun
      unfold jargs at hrun
      rw [hm2] at hrun hmx
      match as, hmx with
      | [], _ => simp [jU, jX] at hrun
      | [a], _ =>
        simp only [List.length_cons, List.length_nil] at hrun
        rcases a with z | z <;> simp [jU, jX] at hrun
      | [a, b], _ =>
        simp only [List.length_cons, List.length_nil] at hrun
        rcases a with z | z
        · rcases b with w | w
          · simp only [List.append_nil, List.replicate, Nat.sub_self, Nat.reduceAdd] at hrun
            by_cases hc : 0 ≤ z ∧ z < w
            · rw [if_pos hc] at hrun
              unfold jF at hrun
              dsimp only at hrun
              cases Option.some.inj hrun
              exact ⟨z, w, rfl, hc.1, hc.2, rfl, rfl⟩
            · rw [if_neg hc] at hrun
              cases hrun
          · simp [jU, jX] at hrun
        · simp [jU, jX] at hrun
  have hcw : jcw1 25 = .code (jnm 25) (jmb 25) 2 none := by
    unfold jcw1
    rw [show jmaxL 25 = 2 by decide +kernel, show jrt 25 = none by decide +kernel]
  have hY := jYof (y := 25) (by decide) (by decide) (by decide) (by decide)
  obtain ⟨y1, y2, y3, y4, y5, y6, y7, y8⟩ := jY hY
  refine Met.ofW (cc := jmb 25) (maxL := 2) (ret := none) (ws' := jgood) y5 (by unfold jws; rw [hcw]) fun p e s m args below meth c s₁ B hml hv1 => ?_
  obtain ⟨rfl, hFx, hRel, hargs⟩ := hv1
  have hx : jok (.inl x) := (hargs _ List.mem_cons_self).1
  have hy : jok (.inl y) := (hargs _ (List.mem_cons_of_mem _ List.mem_cons_self)).1
  have hts0 := atoms_spec (ws := jws 25) B.pre
  have C : jCtx E 25 p l s m (([.inl x, .inl y] : List JV).map (jval E)).toArray meth c := ⟨B.exec, B.bytes, by rw [hml, hm2], findClass_of_methodNamed B.named, fun w hw => hts0 w (List.mem_cons_of_mem _ hw), hFx, B.notSynchronized, (name_of_methodNamed B.named B.method).1, hfl, hFx.size⟩
  have hts := C.2.2.2.2.1
  have hx0 := B.exec
  have hb := B.bytes
  have hr := B.returns
  have hlocks := B.notSynchronized
  have d0 : decode (jmb 25) 0 = .ok (.iload_n 0, 1) := by decide +kernel
  have d1 : decode (jmb 25) 1 = .ok (.iload_n 1, 1) := by decide +kernel
  have d2 : decode (jmb 25) 2 = .ok (.getstatic 1053, 3) := by decide +kernel
  have d5 : decode (jmb 25) 5 = .ok (.invokestatic 1059, 3) := by decide +kernel
  have d8 : decode (jmb 25) 8 = .ok (.pop, 1) := by decide +kernel
  have d9 : decode (jmb 25) 9 = .ok (.return_, 1) := by decide +kernel
  have hL := jLoc_entry (E := E) (y := 25) hmx hargs
  rw [hm2] at hL
  rw [lg_entry_eq]
  generalize (lg_sl (([.inl x, .inl y] : List JV).map (jval E)) ++ List.replicate (2 - (lg_sl (([.inl x, .inl y] : List JV).map (jval E))).length) Slot.unset).toArray = ls at hL ⊢
  have ha : jargs 25 [.inl x, .inl y] = [.inl x, .inl y] := by
    unfold jargs
    rw [hm2]
    rfl
  rw [ha] at hL
  have g0 : ls[0]? = some (.val (.int (Int32.ofInt x))) := (jLoc_at (i := 0) (v := .inl x) hL rfl rfl).1
  have g1 : ls[1]? = some (.val (.int (Int32.ofInt y))) := (jLoc_at (i := 1) (v := .inl y) hL rfl rfl).1
  refine lv_iload_n hx0 hb d0 rfl g0 ?_
  refine lv_iload_n hx0 hb d1 rfl g1 ?_
  have hS : va_S (jA E) s.heap s.heap [] := va_S.rf
  have hown := C.2.2.2.1
  have rest : ∀ v : Value, v.category = 1 → W p l e (jrm 25 M M) s m (([.inl x, .inl y] : List JV).map (jval E)).toArray below meth c s.heap [] 0 0 (MQ below (jQc E M none) (([.inl x, .inl y] : List JV).map (jval E)).toArray s (jcells M - jcells M) (jslots M - jslots M) (jA E)) (F0 m 5 ls [v, .int (Int32.ofInt y), .int (Int32.ofInt x)]) := by
    intro v hvc
    have hY3 := jYof (y := 26) (by decide) (by decide) (by decide) (by decide)
    obtain ⟨w1, w2, w3, w4, w5, w6, w7, w8⟩ := jY hY3
    have hsta : jsta 26 = true := by decide +kernel
    rw [hsta, if_pos rfl] at w2
    have hcb := jB_of (R := jrm 25 M M) (M := M) (M1 := M) (i := 1059) (b := 3) C hY3 (by decide +kernel) (Nat.le_refl _) (Nat.le_refl _) (by decide +kernel) jpre_l2
    have hblind : FrameBlind (va_Pc [.int (Int32.ofInt x), .int (Int32.ofInt y), v] fun U => jFx E U U.heap ∧ jRel E M U.heap) := by
      intro a U g mk h
      exact ⟨h.1, jFx_warm (U := U.calling g mk a) (State.WarmedH.refl U) h.2.1, h.2.2⟩
    have hrn := va_runS (e := e) (below := below) (meth := meth) (g := F0 m 5 ls [v, .int (Int32.ofInt y), .int (Int32.ofInt x)]) (rest := []) (As := [.int (Int32.ofInt x), .int (Int32.ofInt y), v]) (locs := []) (cells := 0) (slots := 0) (nL := jmaxL 25) ⟨hx0, C.2.1, C.2.2.1, hown, hts⟩ (jmet_pre (l := l) hfl (E := E) (M := M) (v := v) hx hy h0 h1 hvc) ⟨hcb, hts _ w2⟩ ⟨hblind, fun U hU hW => ⟨rfl, by rw [hU]; exact jFx_warm hW hFx, by rw [hU]; exact hRel⟩⟩ rfl rfl (by rw [hm2]; exact hL.1) rfl (by show 2 * 0 + 0 ≤ 8; omega) d5 ⟨by simp, by simp⟩
    refine j_after hrn hS fun H1 locs1 hR1 hS1 _ => ?_
    refine lv_pop hx0 hb d8 rfl ?_
    refine W.widen (k := jcells M - jcells M) (n := jslots M - jslots M) (by simp) (by simp) ?_
    exact W.vret hx0 hb hr (fun t ht _ => ⟨⟨rfl, (fun q hq => by cases hq), by rw [ht]; exact hR1⟩, hS1.F ht⟩) hS1.2.2 d9 hlocks
  rcases hFx.sio with hZ | ⟨t, hZ⟩
  · exact va_gets hx0 hb hZ hS hown (hts _ jpre_l1) (fun x h => h) d2 (rest .null rfl)
  · exact va_gets hx0 hb hZ hS hown (hts _ jpre_l1) (fun x h => h) d2 (rest (.ref t) rfl)
theorem jmet_all {l : Launch} (hfl : l.flags = flags0) (HS : jSpec l) : ∀ (N k : Nat), k < N → ∀ y, y < 274 → y ≠ 1 → y ≠ 6 → y ≠ 72 → jMet l k y := by
  intro N
  induction N with
  | zero => intro k hk; omega
  | succ N ih =>
    intro k hk y hy h1 h6 h79
    by_cases h32 : y = 25
    · subst h32
      exact jmet_check hfl
    · exact jmet_step hfl HS (N := k) (fun j hj => ih j (by omega)) hy h1 h6 h79 h32
end
section
/-! LEVEL 2: the cells have fixed numbers; memory as numbers; the rules by which a printed method is read (written by wip/gen/part24.py) -/
def rsl_0 : List (Nat × Nat) := [(10, 15), (6, 4), (100, 8), (100, 8), (100, 48), (7, 6), (110, 6), (113, 6), (5, 2), (8, 2), (100, 12), (8, 2), (100, 12), (8, 2), (100, 0), (5, 2), (8, 2), (100, 12), (8, 2), (100, 12), (5, 2), (8, 2), (100, 12), (8, 2), (100, 12), (5, 2), (8, 2), (100, 12), (8, 2), (100, 12), (5, 2), (8, 2), (100, 12), (8, 2), (100, 12), (5, 2), (8, 2), (100, 12), (8, 2), (100, 12), (5, 2), (8, 2), (100, 12), (8, 2), (100, 12), (8, 2), (100, 80), (8, 2), (100, 80), (8, 2), (100, 80), (8, 2), (100, 80), (8, 2), (100, 80), (8, 2), (100, 80), (4, 4), (8, 2), (100, 80), (8, 2), (100, 80), (8, 2), (100, 80), (100, 8), (9, 8), (100, 160), (100, 160), (100, 160), (102, 160), (100, 16), (100, 962), (3, 12), (6, 4), (100, 8), (100, 8), (100, 48), (7, 6), (110, 6), (113, 6), (5, 2), (8, 2), (100, 12), (8, 2), (100, 12), (8, 2), (100, 0), (5, 2), (8, 2), (100, 12), (8, 2), (100, 12), (5, 2), (8, 2), (100, 12), (8, 2), (100, 12), (5, 2), (8, 2), (100, 12)]
def rsl_1 : List (Nat × Nat) := [(8, 2), (100, 12), (5, 2), (8, 2), (100, 12), (8, 2), (100, 12), (5, 2), (8, 2), (100, 12), (8, 2), (100, 12), (5, 2), (8, 2), (100, 12), (8, 2), (100, 12), (8, 2), (100, 80), (8, 2), (100, 80), (8, 2), (100, 80), (8, 2), (100, 80), (8, 2), (100, 80), (8, 2), (100, 80), (100, 500), (4, 4), (8, 2), (100, 80), (8, 2), (100, 80), (8, 2), (100, 80), (100, 8), (100, 40), (2, 12), (9, 8), (100, 160), (100, 160), (100, 160), (102, 160), (100, 16), (100, 962), (4, 4), (8, 2), (100, 80), (8, 2), (100, 80), (8, 2), (100, 80), (100, 8), (100, 20), (100, 20), (100, 20), (100, 20), (114, 20), (115, 20), (8, 2), (100, 0), (100, 16), (8, 2), (100, 80), (8, 2), (100, 80), (8, 2), (100, 80), (8, 2), (100, 80), (8, 2), (100, 80), (8, 2), (100, 80), (8, 2), (100, 80), (8, 2), (100, 80), (8, 2), (100, 80), (8, 2), (100, 80), (8, 2), (100, 80), (8, 2), (100, 80), (8, 2), (100, 80), (8, 2), (100, 80), (8, 2), (100, 80), (8, 2), (100, 80), (8, 2), (100, 80), (8, 2), (100, 80)]
def rsl_2 : List (Nat × Nat) := [(8, 2), (100, 80), (8, 2), (100, 80), (8, 2), (100, 80), (8, 2), (100, 80), (8, 2), (100, 80), (8, 2), (100, 80), (8, 2), (100, 80), (8, 2), (100, 80), (8, 2), (100, 80), (8, 2), (100, 80), (8, 2), (100, 80), (8, 2), (100, 80), (8, 2), (100, 80), (8, 2), (100, 80), (8, 2), (100, 80), (8, 2), (100, 80), (8, 2), (100, 80), (8, 2), (100, 80), (8, 2), (100, 80), (8, 2), (100, 80), (8, 2), (100, 80), (8, 2), (100, 80), (1, 3), (100, 1600), (100, 80), (0, 3), (112, 8), (7, 6), (110, 6), (113, 6), (5, 2), (8, 2), (100, 12), (8, 2), (100, 12), (8, 2), (100, 0), (5, 2), (8, 2), (100, 12), (8, 2), (100, 12), (5, 2), (8, 2), (100, 12), (8, 2), (100, 12), (5, 2), (8, 2), (100, 12), (8, 2), (100, 12), (5, 2), (8, 2), (100, 12), (8, 2), (100, 12), (5, 2), (8, 2), (100, 12), (8, 2), (100, 12), (5, 2), (8, 2), (100, 12), (8, 2), (100, 12), (8, 2), (100, 80), (8, 2), (100, 80), (8, 2), (100, 80), (8, 2), (100, 80), (8, 2), (100, 80), (8, 2)]
def rsl_3 : List (Nat × Nat) := [(100, 80), (7, 6), (110, 6), (113, 6), (5, 2), (8, 2), (100, 12), (8, 2), (100, 12), (8, 2), (100, 0), (5, 2), (8, 2), (100, 12), (8, 2), (100, 12), (5, 2), (8, 2), (100, 12), (8, 2), (100, 12), (5, 2), (8, 2), (100, 12), (8, 2), (100, 12), (5, 2), (8, 2), (100, 12), (8, 2), (100, 12), (5, 2), (8, 2), (100, 12), (8, 2), (100, 12), (5, 2), (8, 2), (100, 12), (8, 2), (100, 12), (8, 2), (100, 80), (8, 2), (100, 80), (8, 2), (100, 80), (8, 2), (100, 80), (8, 2), (100, 80), (8, 2), (100, 80), (7, 6), (110, 6), (113, 6), (5, 2), (8, 2), (100, 12), (8, 2), (100, 12), (8, 2), (100, 0), (5, 2), (8, 2), (100, 12), (8, 2), (100, 12), (5, 2), (8, 2), (100, 12), (8, 2), (100, 12), (5, 2), (8, 2), (100, 12), (8, 2), (100, 12), (5, 2), (8, 2), (100, 12), (8, 2), (100, 12), (5, 2), (8, 2), (100, 12), (8, 2), (100, 12), (5, 2), (8, 2), (100, 12), (8, 2), (100, 12), (8, 2), (100, 80), (8, 2), (100, 80), (8, 2), (100, 80), (8, 2)]
def rsl_4 : List (Nat × Nat) := [(100, 80), (8, 2), (100, 80), (8, 2), (100, 80), (7, 6), (110, 6), (113, 6), (5, 2), (8, 2), (100, 12), (8, 2), (100, 12), (8, 2), (100, 0), (5, 2), (8, 2), (100, 12), (8, 2), (100, 12), (5, 2), (8, 2), (100, 12), (8, 2), (100, 12), (5, 2), (8, 2), (100, 12), (8, 2), (100, 12), (5, 2), (8, 2), (100, 12), (8, 2), (100, 12), (5, 2), (8, 2), (100, 12), (8, 2), (100, 12), (5, 2), (8, 2), (100, 12), (8, 2), (100, 12), (8, 2), (100, 80), (8, 2), (100, 80), (8, 2), (100, 80), (8, 2), (100, 80), (8, 2), (100, 80), (8, 2), (100, 80), (7, 6), (110, 6), (113, 6), (5, 2), (8, 2), (100, 12), (8, 2), (100, 12), (8, 2), (100, 0), (5, 2), (8, 2), (100, 12), (8, 2), (100, 12), (5, 2), (8, 2), (100, 12), (8, 2), (100, 12), (5, 2), (8, 2), (100, 12), (8, 2), (100, 12), (5, 2), (8, 2), (100, 12), (8, 2), (100, 12), (5, 2), (8, 2), (100, 12), (8, 2), (100, 12), (5, 2), (8, 2), (100, 12), (8, 2), (100, 12), (8, 2), (100, 80), (8, 2)]
def rsl_5 : List (Nat × Nat) := [(100, 80), (8, 2), (100, 80), (8, 2), (100, 80), (8, 2), (100, 80), (8, 2), (100, 80), (7, 6), (110, 6), (113, 6), (5, 2), (8, 2), (100, 12), (8, 2), (100, 12), (8, 2), (100, 0), (5, 2), (8, 2), (100, 12), (8, 2), (100, 12), (5, 2), (8, 2), (100, 12), (8, 2), (100, 12), (5, 2), (8, 2), (100, 12), (8, 2), (100, 12), (5, 2), (8, 2), (100, 12), (8, 2), (100, 12), (5, 2), (8, 2), (100, 12), (8, 2), (100, 12), (5, 2), (8, 2), (100, 12), (8, 2), (100, 12), (8, 2), (100, 80), (8, 2), (100, 80), (8, 2), (100, 80), (8, 2), (100, 80), (8, 2), (100, 80), (8, 2), (100, 80), (7, 6), (110, 6), (113, 6), (5, 2), (8, 2), (100, 12), (8, 2), (100, 12), (8, 2), (100, 0), (5, 2), (8, 2), (100, 12), (8, 2), (100, 12), (5, 2), (8, 2), (100, 12), (8, 2), (100, 12), (5, 2), (8, 2), (100, 12), (8, 2), (100, 12), (5, 2), (8, 2), (100, 12), (8, 2), (100, 12), (5, 2), (8, 2), (100, 12), (8, 2), (100, 12), (5, 2), (8, 2), (100, 12), (8, 2)]
def rsl_6 : List (Nat × Nat) := [(100, 12), (8, 2), (100, 80), (8, 2), (100, 80), (8, 2), (100, 80), (8, 2), (100, 80), (8, 2), (100, 80), (8, 2), (100, 80), (7, 6), (110, 6), (113, 6), (5, 2), (8, 2), (100, 12), (8, 2), (100, 12), (8, 2), (100, 0), (5, 2), (8, 2), (100, 12), (8, 2), (100, 12), (5, 2), (8, 2), (100, 12), (8, 2), (100, 12), (5, 2), (8, 2), (100, 12), (8, 2), (100, 12), (5, 2), (8, 2), (100, 12), (8, 2), (100, 12), (5, 2), (8, 2), (100, 12), (8, 2), (100, 12), (5, 2), (8, 2), (100, 12), (8, 2), (100, 12), (8, 2), (100, 80), (8, 2), (100, 80), (8, 2), (100, 80), (8, 2), (100, 80), (8, 2), (100, 80), (8, 2), (100, 80), (7, 6), (110, 6), (113, 6), (5, 2), (8, 2), (100, 12), (8, 2), (100, 12), (8, 2), (100, 0), (5, 2), (8, 2), (100, 12), (8, 2), (100, 12), (5, 2), (8, 2), (100, 12), (8, 2), (100, 12), (5, 2), (8, 2), (100, 12), (8, 2), (100, 12), (5, 2), (8, 2), (100, 12), (8, 2), (100, 12), (5, 2), (8, 2), (100, 12), (8, 2), (100, 12)]
def rsl_7 : List (Nat × Nat) := [(5, 2), (8, 2), (100, 12), (8, 2), (100, 12), (8, 2), (100, 80), (8, 2), (100, 80), (8, 2), (100, 80), (8, 2), (100, 80), (8, 2), (100, 80), (8, 2), (100, 80), (7, 6), (110, 6), (113, 6), (5, 2), (8, 2), (100, 12), (8, 2), (100, 12), (8, 2), (100, 0), (5, 2), (8, 2), (100, 12), (8, 2), (100, 12), (5, 2), (8, 2), (100, 12), (8, 2), (100, 12), (5, 2), (8, 2), (100, 12), (8, 2), (100, 12), (5, 2), (8, 2), (100, 12), (8, 2), (100, 12), (5, 2), (8, 2), (100, 12), (8, 2), (100, 12), (5, 2), (8, 2), (100, 12), (8, 2), (100, 12), (8, 2), (100, 80), (8, 2), (100, 80), (8, 2), (100, 80), (8, 2), (100, 80), (8, 2), (100, 80), (8, 2), (100, 80), (8, 2), (100, 80), (100, 80)]
/-- the cells at the head of the law's loop: class or kind of array (114, 115: the rows of pair terms), size -/
def rsl : List (Nat × Nat) := rsl_0 ++ (rsl_1 ++ (rsl_2 ++ (rsl_3 ++ (rsl_4 ++ (rsl_5 ++ (rsl_6 ++ (rsl_7)))))))
def rt (a : Nat) : Nat := (rsl.getD a (99, 0)).1
def ln (a : Nat) : Nat := (rsl.getD a (99, 0)).2
def unt (t : Nat) : Nat := if t = 114 then 113 else if t = 115 then 113 else t
/-- where what never changes its place lies, counted from the cell that holds its name -/
def poff (t j : Nat) : Option Nat := match t with
  | 110 => some (9 + 5 * j)
  | 112 => some (1 + 52 * j)
  | 113 => some (38 + 2 * j)
  | 114 => some (5 + 4 * j)
  | 115 => some (6 + 4 * j)
  | 0 => (match j with | 2 => some 1 | _ => none)
  | 1 => (match j with | 1 => some 1 | 2 => some 2 | _ => none)
  | 2 => (match j with | 2 => some 1 | 3 => some 8 | 4 => some 16 | 5 => some 17 | 6 => some 18 | 7 => some 19 | 8 => some 20 | 9 => some 21 | 10 => some 22 | 11 => some 24 | _ => none)
  | 3 => (match j with | 2 => some 1 | 3 => some 5 | 5 => some 57 | 6 => some 58 | 7 => some 66 | _ => none)
  | 4 => (match j with | 0 => some 1 | 1 => some 3 | 2 => some 5 | 3 => some 7 | _ => none)
  | 6 => (match j with | 1 => some 1 | 2 => some 2 | 3 => some 3 | _ => none)
  | 7 => (match j with | 2 => some 1 | 3 => some 2 | 4 => some 3 | 5 => some 8 | _ => none)
  | 8 => (match j with | 0 => some 1 | _ => none)
  | 9 => (match j with | 1 => some 1 | 2 => some 2 | 3 => some 3 | 4 => some 4 | 5 => some 5 | 6 => some 6 | _ => none)
  | 10 => (match j with | 1 => some 1 | 2 => some 5 | 3 => some 57 | 4 => some 65 | 5 => some 72 | 6 => some 139 | 7 => some 244 | 8 => some 247 | 9 => some 665 | 10 => some 717 | 13 => some 769 | 14 => some 771 | _ => none)
  | _ => none
abbrev Mem : Type := Nat → Nat → Int
def mup (μ : Mem) (a k : Nat) (z : Int) : Mem := fun b j => if b = a ∧ j = k then z else μ b j
/-- a side of a rule: which term -/
def dp (z : Int) : Nat := if rt z.toNat = 8 then z.toNat else 13
def cv (t a j : Nat) (z : Int) : JV := if t = 103 then jX (.long (Int64.ofInt z)) else if t = 104 then jX (.double (UInt64.ofNat z.toNat)) else if t = 5 then jR (dp z) else match poff t j with
  | some d => jR (a + d)
  | none => .inl z
/-- what the class never touches: the script; the law's own cells, their values; cells and slots made -/
abbrev JE2 : Type := (Nat × (Nat → Int)) × (List (Nat × Nat) × (Nat → Nat → JV)) × (Nat × Nat)
/-- the memory of the pure machine is this one, and behind it lie the law's own cells; cell 772 counts the throws -/
def Rl (E : JE2) (M : JM) (μ : Mem) : Prop :=
  M.1 = rsl.map (fun q => (unt q.1, q.2)) ++ E.2.1.1 ∧ (∀ a j, j < ln a → M.2.1 a j = cv (rt a) a j (μ a j)) ∧ (0 ≤ μ 772 0 ∧ M.2.2.1 = E.2.2.1 + (μ 772 0).toNat ∧ M.2.2.2.1 = E.2.2.2 + 6 * (μ 772 0).toNat) ∧ (M.2.2.2.2.2 = E.1 ∧ (∀ a j, 772 ≤ a → M.2.1 a j = E.2.1.2 a j) ∧ (μ 772 0 = 0 → jclean M = true))
def bz (z : Int) : Prop := z = 0 ∨ z = 1
def b2i (b : Bool) : Int := match b with
  | true => 1
  | false => 0
theorem bz_b (b : Bool) : bz (b2i b) := by cases b <;> simp [bz, b2i]
theorem rsl_len : rsl.length = 772 := by decide +kernel
theorem rt_lt {a t : Nat} (h : rt a = t) (ht : t ≠ 99) : a < 772 := by
  rcases Nat.lt_or_ge a 772 with g | g
  · exact g
  · exfalso
    apply ht
    rw [← h]
    unfold rt
    rw [List.getD_eq_getElem?_getD, List.getElem?_eq_none (by rw [rsl_len]; exact g)]
    rfl
def tall (f : List (Nat × Nat) → Bool) : List (Nat × Nat) → Bool
  | [] => true
  | x :: l => f (x :: l) && tall f l
theorem tall_drop {f : List (Nat × Nat) → Bool} : ∀ {l : List (Nat × Nat)}, tall f l = true → ∀ {a : Nat}, a < l.length → f (l.drop a) = true := by
  intro l
  induction l with
  | nil => intro _ a ha; simp at ha
  | cons x l ih =>
    intro h a ha
    rw [tall, Bool.and_eq_true] at h
    cases a with
    | zero => exact h.1
    | succ a => exact ih h.2 (by simpa using ha)
def rtS (l : List (Nat × Nat)) (d : Nat) : Nat × Nat := l.getD d (99, 0)
theorem rtS_drop (a d : Nat) : rtS (rsl.drop a) d = rsl.getD (a + d) (99, 0) := by
  unfold rtS
  rw [List.getD_eq_getElem?_getD, List.getD_eq_getElem?_getD, List.getElem?_drop]
theorem rp_of {t d t1 : Nat} (h : tall (fun l => decide ((rtS l 0).1 = t → (rtS l d).1 = t1)) rsl = true) (ht : t ≠ 99) {a : Nat} (ha : rt a = t) : rt (a + d) = t1 := by
  have := of_decide_eq_true (tall_drop h (by rw [rsl_len]; exact rt_lt ha ht))
  rw [rtS_drop, rtS_drop] at this
  exact this ha
theorem lp_of {t d n : Nat} (h : tall (fun l => decide ((rtS l 0).1 = t → (rtS l d).2 = n)) rsl = true) (ht : t ≠ 99) {a : Nat} (ha : rt a = t) : ln (a + d) = n := by
  have := of_decide_eq_true (tall_drop h (by rw [rsl_len]; exact rt_lt ha ht))
  rw [rtS_drop, rtS_drop] at this
  exact this ha
theorem re_of {t b s n t1 : Nat} (h : tall (fun l => decide ((rtS l 0).1 = t → (List.range n).all (fun j => decide ((rtS l (b + s * j)).1 = t1)) = true)) rsl = true) (ht : t ≠ 99) {a j : Nat} (ha : rt a = t) (hj : j < n) : rt (a + (b + s * j)) = t1 := by
  have := of_decide_eq_true (tall_drop h (by rw [rsl_len]; exact rt_lt ha ht))
  rw [rtS_drop] at this
  have h2 := of_decide_eq_true (List.all_eq_true.mp (this ha) j (List.mem_range.mpr hj))
  rw [rtS_drop] at h2
  exact h2
def fln (l : List (Nat × Nat)) : Bool := let q := rtS l 0
  decide (q.1 < 12 → q.2 = (jfields q.1).length) && decide (q.1 ≠ 99)
theorem fln_all : tall fln rsl = true := by decide +kernel
theorem rt_ln {a t : Nat} (h : rt a = t) (ht : t < 12) : ln a = (jfields t).length := by
  have h1 := tall_drop fln_all (a := a) (by rw [rsl_len]; exact rt_lt h (by omega))
  unfold fln at h1
  dsimp only at h1
  rw [rtS_drop, Bool.and_eq_true] at h1
  have h2 := of_decide_eq_true h1.1
  have e : (rsl.getD (a + 0) (99, 0)).1 = t := h
  rw [e] at h2
  exact h2 ht
theorem dp_rt (z : Int) : rt (dp z) = 8 := by
  unfold dp
  split
  · assumption
  · decide +kernel
theorem dp_of {a : Nat} (h : rt a = 8) : dp (a : Int) = a := by
  unfold dp
  rw [Int.toNat_natCast, if_pos h]
theorem mup_s {μ : Mem} {a k : Nat} {z : Int} : mup μ a k z a k = z := if_pos ⟨rfl, rfl⟩
theorem mup_n {μ : Mem} {a k b j : Nat} {z : Int} (h : ¬ (b = a ∧ j = k)) : mup μ a k z b j = μ b j := if_neg h
section L24
variable {E : JE2} {M : JM} {μ : Mem} {mi pc : Nat} {ls st : List JV} {P : JO → JM → Prop} {l a b w : Nat}
theorem Rl_sh (h : Rl E M μ) {i t : Nat} (ht : rt i = t) (h99 : t ≠ 99) : jsh M i = some (unt t, ln i) := by
  have hl := rt_lt ht h99
  unfold jsh
  rw [h.1, List.getElem?_append_left (by rw [List.length_map, rsl_len]; exact hl), List.getElem?_map, List.getElem?_eq_getElem (by rw [rsl_len]; exact hl), Option.map_some]
  have e : rsl[i]'(by rw [rsl_len]; exact hl) = rsl.getD i (99, 0) := by
    rw [List.getD_eq_getElem?_getD, List.getElem?_eq_getElem (by rw [rsl_len]; exact hl)]; rfl
  rw [e]
  show some (unt (rt i), ln i) = _
  rw [ht]
theorem Rl_tag (h : Rl E M μ) {i t : Nat} (ht : rt i = t) (h99 : t ≠ 99) : jtag M i = unt t := by
  unfold jtag
  rw [if_pos (by have := rt_lt ht h99; omega), Rl_sh h ht h99]
  rfl
theorem Rl_get (h : Rl E M μ) {i j : Nat} (hj : j < ln i) : jget M i j = cv (rt i) i j (μ i j) := h.2.1 i j hj
theorem Rl_set (h : Rl E M μ) {i j : Nat} {z : Int} {v : JV} (hi : i < 772) (hv : v = cv (rt i) i j z) : Rl E (jset M i j v) (mup μ i j z) := by
  have e : mup μ i j z 772 0 = μ 772 0 := mup_n (by omega)
  refine ⟨h.1, fun b k hk => ?_, ?_, h.2.2.2.1, fun b k hb => ?_, ?_⟩
  · show (if b = i ∧ k = j then v else M.2.1 b k) = cv (rt b) b k (if b = i ∧ k = j then z else μ b k)
    by_cases hc : b = i ∧ k = j
    · rw [if_pos hc, if_pos hc, hv, hc.1, hc.2]
    · rw [if_neg hc, if_neg hc]
      exact h.2.1 b k hk
  · rw [e]
    exact h.2.2.1
  · show (if b = i ∧ k = j then v else M.2.1 b k) = _
    rw [if_neg (by omega)]
    exact h.2.2.2.2.1 b k hb
  · rw [e]
    exact h.2.2.2.2.2
theorem Rl_throw (h : Rl E M μ) : Rl E (jthrow M) (mup μ 772 0 (μ 772 0 + 1)) := by
  obtain ⟨h1, h2, ⟨h3, h4, h5⟩, h6, h7, h8⟩ := h
  refine ⟨h1, fun b k hk => ?_, ⟨?_, ?_, ?_⟩, h6, h7, ?_⟩
  · have hb : ¬ (b = 772 ∧ k = 0) := by
      rintro ⟨rfl, rfl⟩
      have : ln 772 = 0 := by decide +kernel
      omega
    rw [mup_n hb]
    exact h2 b k hk
  · rw [mup_s]; omega
  · show M.2.2.1 + 1 = _
    rw [mup_s, h4]; omega
  · show M.2.2.2.1 + 6 = _
    rw [mup_s, h5]; omega
  · intro h
    rw [mup_s] at h
    omega
/-- plain steps -/
theorem L_go {x : JI} {pc1 : Nat} {ls1 st1 : List JV} (hc : jcode mi pc = some x) (hs : jstep x pc ls st M = some (.inl (pc1, ls1, st1, M))) (h : JX mi pc1 ls1 st1 M P) : JX mi pc ls st M P := by
  obtain ⟨n, o, M2, h1, h2⟩ := h
  exact ⟨n + 1, o, M2, by rw [jrun, hc]; simp only [hs]; exact h1, h2⟩
theorem L_goM {x : JI} {pc1 : Nat} {ls1 st1 : List JV} {M1 : JM} (hc : jcode mi pc = some x) (hs : jstep x pc ls st M = some (.inl (pc1, ls1, st1, M1))) (h : JX mi pc1 ls1 st1 M1 P) : JX mi pc ls st M P := by
  obtain ⟨n, o, M2, h1, h2⟩ := h
  exact ⟨n + 1, o, M2, by rw [jrun, hc]; simp only [hs]; exact h1, h2⟩
theorem L_end {x : JI} {o : JO} {M1 : JM} (hc : jcode mi pc = some x) (hs : jstep x pc ls st M = some (.inr (.inr (o, M1)))) (h : P o M1) : JX mi pc ls st M P :=
  ⟨1, o, M1, by rw [jrun, hc]; simp only [hs], h⟩
theorem L_br {x : JI} {c : Bool} {p1 p2 : Nat} {st1 : List JV} {C : Prop} [Decidable C] {A B : Prop} (hc : jcode mi pc = some x) (hs : jstep x pc ls st M = jbr c p1 p2 ls st1 M) (hC : (c = true) = C) (h : if C then A else B) (k1 : A → JX mi p1 ls st1 M P) (k2 : B → JX mi p2 ls st1 M P) : JX mi pc ls st M P := by
  unfold jbr at hs
  by_cases q : C
  · rw [if_pos q] at h
    rw [if_pos (by rw [hC]; exact q)] at hs
    exact L_go hc hs (k1 h)
  · rw [if_neg q] at h
    rw [if_neg (by rw [hC]; exact q)] at hs
    exact L_go hc hs (k2 h)
/-- the same where the text has the test the other way round -/
theorem L_nb {x : JI} {c : Bool} {p1 p2 : Nat} {st1 : List JV} {C : Prop} [Decidable C] {A B : Prop} (hc : jcode mi pc = some x) (hs : jstep x pc ls st M = jbr c p1 p2 ls st1 M) (hC : (c = true) = ¬ C) (h : if C then A else B) (k1 : A → JX mi p2 ls st1 M P) (k2 : B → JX mi p1 ls st1 M P) : JX mi pc ls st M P := by
  unfold jbr at hs
  by_cases q : C
  · rw [if_pos q] at h
    rw [if_neg (by rw [hC]; exact fun f => f q)] at hs
    exact L_go hc hs (k1 h)
  · rw [if_neg q] at h
    rw [if_pos (by rw [hC]; exact q)] at hs
    exact L_go hc hs (k2 h)
theorem jc_lt {x y : Int} : (jcond .lt x y = true) = (x < y) := by simp [jcond]
theorem jc_gt {x y : Int} : (jcond .gt x y = true) = (y < x) := by simp [jcond]
theorem jc_eq {x y : Int} : (jcond .eq x y = true) = (x = y) := by simp [jcond]
theorem jc_ge {x y : Int} : (jcond .ge x y = true) = ¬ (x < y) := by simp [jcond]
theorem jc_le {x y : Int} : (jcond .le x y = true) = ¬ (y < x) := by simp [jcond]
theorem jc_ne {x y : Int} : (jcond .ne x y = true) = ¬ (x = y) := by simp [jcond]
theorem jc_eqb {r : Bool} : (jcond .eq (b2i r) 0 = true) = ¬ (r = true) := by cases r <;> simp [jcond, b2i]
theorem jc_neb {r : Bool} : (jcond .ne (b2i r) 0 = true) = (r = true) := by cases r <;> simp [jcond, b2i]
/-- fields -/
def gk (t j : Nat) : Bool := decide (t < 12 ∧ t ≠ 5 ∧ j < (jfields t).length ∧ poff t j = none)
def gp (t j d : Nat) : Bool := decide (t < 12 ∧ t ≠ 5 ∧ j < (jfields t).length ∧ poff t j = some d)
theorem cv_int {t i j : Nat} {z : Int} (h1 : t ≠ 103) (h2 : t ≠ 104) (h3 : t ≠ 5) (h4 : poff t j = none) : cv t i j z = .inl z := by
  unfold cv
  rw [if_neg h1, if_neg h2, if_neg h3, h4]
theorem cv_ptr {t i j d : Nat} {z : Int} (h1 : t ≠ 103) (h2 : t ≠ 104) (h3 : t ≠ 5) (h4 : poff t j = some d) : cv t i j z = jR (i + d) := by
  unfold cv
  rw [if_neg h1, if_neg h2, if_neg h3, h4]
theorem unt_lt {t : Nat} (h : t < 114) : unt t = t := by unfold unt; rw [if_neg (by omega), if_neg (by omega)]
theorem unt_ge {n t : Nat} (hn : n ≤ 113) (h : n ≤ t) : n ≤ unt t := by
  unfold unt
  by_cases h1 : t = 114
  · rw [if_pos h1]; exact hn
  · rw [if_neg h1]
    by_cases h2 : t = 115
    · rw [if_pos h2]; exact hn
    · rw [if_neg h2]; exact h
theorem L_getI {n i : Nat} (hc : jcode mi pc = some (.getfield n, l, a, b, w)) (hR : Rl E M μ) (ho : rt i = a) (hk : gk a b = true) (h : JX mi (pc + 3) ls (.inl (μ i b) :: st) M P) : JX mi pc ls (.inr (.inl i) :: st) M P := by
  obtain ⟨k1, k2, k3, k4⟩ := of_decide_eq_true hk
  have hl := rt_lt ho (by omega)
  have h1 := Rl_sh hR ho (by omega)
  have h2 := Rl_get hR (i := i) (j := b) (by rw [rt_ln ho k1]; exact k3)
  rw [ho, cv_int (by omega) (by omega) k2 k4] at h2
  refine L_go hc ?_ (by rw [← h2] at h; exact h)
  show (if a = 15 ∧ 2000000 ≤ i ∧ i < 2000014 then _ else _) = _
  rw [if_neg (by omega), h1]
  show (if _ then _ else _) = _
  rw [if_pos ⟨by omega, by rw [unt_lt (by omega), Nat.mod_eq_of_lt (by omega)], by rw [rt_ln ho k1]; exact k3⟩]
  rfl
theorem L_getP {n i d : Nat} (hc : jcode mi pc = some (.getfield n, l, a, b, w)) (hR : Rl E M μ) (ho : rt i = a) (hk : gp a b d = true) (h : JX mi (pc + 3) ls (.inr (.inl (i + d)) :: st) M P) : JX mi pc ls (.inr (.inl i) :: st) M P := by
  obtain ⟨k1, k2, k3, k4⟩ := of_decide_eq_true hk
  have hl := rt_lt ho (by omega)
  have h1 := Rl_sh hR ho (by omega)
  have h2 := Rl_get hR (i := i) (j := b) (by rw [rt_ln ho k1]; exact k3)
  rw [ho, cv_ptr (by omega) (by omega) k2 k4] at h2
  refine L_go hc ?_ (by rw [show (.inr (.inl (i + d)) : JV) = jget M i b from h2.symm] at h; exact h)
  show (if a = 15 ∧ 2000000 ≤ i ∧ i < 2000014 then _ else _) = _
  rw [if_neg (by omega), h1]
  show (if _ then _ else _) = _
  rw [if_pos ⟨by omega, by rw [unt_lt (by omega), Nat.mod_eq_of_lt (by omega)], by rw [rt_ln ho k1]; exact k3⟩]
  rfl
theorem rule_len : (jfields 5).length = 2 := by decide +kernel
theorem L_getD {n i : Nat} (hc : jcode mi pc = some (.getfield n, l, 5, b, w)) (hR : Rl E M μ) (ho : rt i = 5) (hk : b < 2) (h : JX mi (pc + 3) ls (.inr (.inl (dp (μ i b))) :: st) M P) : JX mi pc ls (.inr (.inl i) :: st) M P := by
  have hl := rt_lt ho (by omega)
  have h1 := Rl_sh hR ho (by omega)
  have hb : b < ln i := by rw [rt_ln ho (by omega), rule_len]; exact hk
  have h2 := Rl_get hR (i := i) (j := b) hb
  rw [ho, show cv 5 i b (μ i b) = jR (dp (μ i b)) from rfl] at h2
  refine L_go hc ?_ (by rw [show (.inr (.inl (dp (μ i b))) : JV) = jget M i b from h2.symm] at h; exact h)
  show (if 5 = 15 ∧ 2000000 ≤ i ∧ i < 2000014 then _ else _) = _
  rw [if_neg (by omega), h1]
  show (if _ then _ else _) = _
  rw [if_pos ⟨by omega, rfl, hb⟩]
  rfl
theorem L_putI {n i t : Nat} {z : Int} (hc : jcode mi pc = some (.putfield n, l, t, b, w)) (hR : Rl E M μ) (ho : rt i = t) (hk : gk t b = true) (h : ∀ M', Rl E M' (mup μ i b z) → JX mi (pc + 3) ls st M' P) : JX mi pc ls (.inl z :: .inr (.inl i) :: st) M P := by
  obtain ⟨k1, k2, k3, k4⟩ := of_decide_eq_true hk
  have hl := rt_lt ho (by omega)
  have h1 := Rl_sh hR ho (by omega)
  refine L_goM hc ?_ (h _ (Rl_set hR hl (by rw [ho, cv_int (by omega) (by omega) k2 k4])))
  show (match jsh M i with | some (t', n) => if i < 1000000 ∧ t' = t % 100 ∧ b < n ∧ jfit (t / 100) (.inl z) = true then jN (pc + 3) ls st (jset M i b (.inl z)) else none | none => none) = _
  rw [h1]
  show (if _ then _ else _) = _
  rw [if_pos ⟨by omega, by rw [unt_lt (by omega), Nat.mod_eq_of_lt (by omega)], by rw [rt_ln ho k1]; exact k3, by rw [Nat.div_eq_of_lt (by omega)]; rfl⟩]
  rfl
theorem L_putB {n i t : Nat} {z : Int} (hc : jcode mi pc = some (.putfield n, l, 100 + t, b, w)) (hR : Rl E M μ) (ho : rt i = t) (hk : gk t b = true) (hz : bz z) (h : ∀ M', Rl E M' (mup μ i b z) → JX mi (pc + 3) ls st M' P) : JX mi pc ls (.inl z :: .inr (.inl i) :: st) M P := by
  obtain ⟨k1, k2, k3, k4⟩ := of_decide_eq_true hk
  have hl := rt_lt ho (by omega)
  have h1 := Rl_sh hR ho (by omega)
  refine L_goM hc ?_ (h _ (Rl_set hR hl (by rw [ho, cv_int (by omega) (by omega) k2 k4])))
  show (match jsh M i with | some (t', n) => if i < 1000000 ∧ t' = (100 + t) % 100 ∧ b < n ∧ jfit ((100 + t) / 100) (.inl z) = true then jN (pc + 3) ls st (jset M i b (.inl z)) else none | none => none) = _
  rw [h1]
  show (if _ then _ else _) = _
  rw [if_pos ⟨by omega, by rw [unt_lt (by omega)]; omega, by rw [rt_ln ho k1]; exact k3, by
    rw [show (100 + t) / 100 = 1 by omega]
    rcases hz with rfl | rfl <;> rfl⟩]
  rfl
theorem L_putD {n i x : Nat} (hc : jcode mi pc = some (.putfield n, l, 205, b, w)) (hR : Rl E M μ) (ho : rt i = 5) (hx : rt x = 8) (hk : b < 2) (h : ∀ M', Rl E M' (mup μ i b (x : Int)) → JX mi (pc + 3) ls st M' P) : JX mi pc ls (.inr (.inl x) :: .inr (.inl i) :: st) M P := by
  have hl := rt_lt ho (by omega)
  have h1 := Rl_sh hR ho (by omega)
  have hb : b < ln i := by rw [rt_ln ho (by omega), rule_len]; exact hk
  refine L_goM hc ?_ (h _ (Rl_set (v := .inr (.inl x)) hR hl (by rw [ho, show cv 5 i b (x : Int) = jR (dp (x : Int)) from rfl, dp_of hx])))
  show (match jsh M i with | some (t', n) => if i < 1000000 ∧ t' = 205 % 100 ∧ b < n ∧ jfit (205 / 100) (.inr (.inl x)) = true then jN (pc + 3) ls st (jset M i b (.inr (.inl x))) else none | none => none) = _
  rw [h1]
  show (if _ then _ else _) = _
  rw [if_pos ⟨by omega, rfl, hb, rfl⟩]
  rfl
/-- arrays -/
theorem Rl_rd {t i n pc1 : Nat} {k : Int} (hR : Rl E M μ) (ho : rt i = t) (ht : 100 ≤ t) (hn : ln i = n) (hk : 0 ≤ k ∧ k < (n : Int)) : jread (unt t) i k pc1 ls st M = some (.inl (pc1, ls, cv t i k.toNat (μ i k.toNat) :: st, M)) := by
  have h99 : t ≠ 99 := by omega
  have hl := rt_lt ho h99
  have hj : k.toNat < ln i := by omega
  unfold jread
  rw [Rl_sh hR ho h99]
  show (if _ then _ else _) = _
  rw [if_pos ⟨by omega, rfl, hk.1, hj⟩, Rl_get hR hj, ho]
  rfl
theorem L_iald {i n : Nat} {k : Int} (hc : jcode mi pc = some (.iaload, l, a, b, w)) (hR : Rl E M μ) (ho : rt i = 100) (hn : ln i = n) (hk : 0 ≤ k ∧ k < (n : Int)) (h : JX mi (pc + 1) ls (.inl (μ i k.toNat) :: st) M P) : JX mi pc ls (.inl k :: .inr (.inl i) :: st) M P := by
  have hl := rt_lt ho (by omega)
  refine L_go hc ?_ h
  show (if i = 1000000 then _ else _) = _
  rw [if_neg (by omega)]
  exact Rl_rd hR ho (by omega) hn hk
theorem L_bald {i n : Nat} {k : Int} (hc : jcode mi pc = some (.baload, l, a, b, w)) (hR : Rl E M μ) (ho : rt i = 101 ∨ rt i = 102) (hn : ln i = n) (hk : 0 ≤ k ∧ k < (n : Int)) (h : JX mi (pc + 1) ls (.inl (μ i k.toNat) :: st) M P) : JX mi pc ls (.inl k :: .inr (.inl i) :: st) M P := by
  refine L_go hc ?_ h
  show (if 3000000 ≤ i ∧ i < 3000014 then _ else _) = _
  rcases ho with ho | ho
  · have hl := rt_lt ho (by omega)
    rw [if_neg (by omega), Rl_tag hR ho (by omega), if_pos (unt_lt (by omega))]
    exact Rl_rd hR ho (by omega) hn hk
  · have hl := rt_lt ho (by omega)
    rw [if_neg (by omega), Rl_tag hR ho (by omega), if_neg (by decide)]
    exact Rl_rd hR ho (by omega) hn hk
theorem L_lald {i n : Nat} {k : Int} (hc : jcode mi pc = some (.laload, l, a, b, w)) (hR : Rl E M μ) (ho : rt i = 103) (hn : ln i = n) (hk : 0 ≤ k ∧ k < (n : Int)) (h : JX mi (pc + 1) ls (.inr (.inr (.long (Int64.ofInt (μ i k.toNat)))) :: st) M P) : JX mi pc ls (.inl k :: .inr (.inl i) :: st) M P :=
  L_go hc (Rl_rd hR ho (by omega) hn hk) h
theorem L_aald {i n t d : Nat} {k : Int} (hc : jcode mi pc = some (.aaload, l, a, b, w)) (hR : Rl E M μ) (ho : rt i = t) (ht : 110 ≤ t ∧ t < 116) (hn : ln i = n) (hk : 0 ≤ k ∧ k < (n : Int)) (hp : poff t k.toNat = some d) (h : JX mi (pc + 1) ls (.inr (.inl (i + d)) :: st) M P) : JX mi pc ls (.inl k :: .inr (.inl i) :: st) M P := by
  have e := Rl_rd (ls := ls) (st := st) (pc1 := pc + 1) hR ho (by omega) hn hk
  rw [cv_ptr (by omega) (by omega) (by omega) hp] at e
  refine L_go hc ?_ h
  show (if 105 ≤ jtag M i then _ else _) = _
  rw [Rl_tag hR ho (by omega), if_pos (unt_ge (by omega) (by omega))]
  exact e
theorem Rl_wr {t i n pc1 : Nat} {k z : Int} {v : JV} (hR : Rl E M μ) (ho : rt i = t) (ht : 100 ≤ t) (ht2 : t < 110) (hn : ln i = n) (hk : 0 ≤ k ∧ k < (n : Int)) (hv : v = cv t i k.toNat z) : jwrite t i k v pc1 ls st M = some (.inl (pc1, ls, st, jset M i k.toNat v)) ∧ Rl E (jset M i k.toNat v) (mup μ i k.toNat z) := by
  have h99 : t ≠ 99 := by omega
  have hl := rt_lt ho h99
  have hj : k.toNat < ln i := by omega
  refine ⟨?_, Rl_set hR hl (by rw [ho]; exact hv)⟩
  unfold jwrite
  rw [Rl_sh hR ho h99]
  show (if _ then _ else _) = _
  rw [if_pos ⟨by omega, unt_lt (by omega), hk.1, hj⟩]
  rfl
theorem L_iast {i n : Nat} {k z : Int} (hc : jcode mi pc = some (.iastore, l, a, b, w)) (hR : Rl E M μ) (ho : rt i = 100) (hn : ln i = n) (hk : 0 ≤ k ∧ k < (n : Int)) (h : ∀ M', Rl E M' (mup μ i k.toNat z) → JX mi (pc + 1) ls st M' P) : JX mi pc ls (.inl z :: .inl k :: .inr (.inl i) :: st) M P := by
  obtain ⟨h1, h2⟩ := Rl_wr (ls := ls) (st := st) (pc1 := pc + 1) (v := .inl z) (z := z) hR ho (by omega) (by omega) hn hk rfl
  exact L_goM hc h1 (h _ h2)
theorem L_bast {i n : Nat} {k z : Int} (hc : jcode mi pc = some (.bastore, l, a, b, w)) (hR : Rl E M μ) (ho : rt i = 101) (hn : ln i = n) (hk : 0 ≤ k ∧ k < (n : Int)) (h : ∀ M', Rl E M' (mup μ i k.toNat (jb8 z)) → JX mi (pc + 1) ls st M' P) : JX mi pc ls (.inl z :: .inl k :: .inr (.inl i) :: st) M P := by
  obtain ⟨h1, h2⟩ := Rl_wr (ls := ls) (st := st) (pc1 := pc + 1) (v := .inl (jb8 z)) (z := jb8 z) hR ho (by omega) (by omega) hn hk rfl
  refine L_goM hc ?_ (h _ h2)
  show (if jtag M i = 101 then _ else _) = _
  rw [Rl_tag hR ho (by omega), if_pos (unt_lt (by omega))]
  exact h1
theorem L_zast {i n : Nat} {k z : Int} (hc : jcode mi pc = some (.bastore, l, a, b, w)) (hR : Rl E M μ) (ho : rt i = 102) (hn : ln i = n) (hk : 0 ≤ k ∧ k < (n : Int)) (hz : bz z) (h : ∀ M', Rl E M' (mup μ i k.toNat z) → JX mi (pc + 1) ls st M' P) : JX mi pc ls (.inl z :: .inl k :: .inr (.inl i) :: st) M P := by
  obtain ⟨h1, h2⟩ := Rl_wr (ls := ls) (st := st) (pc1 := pc + 1) (v := .inl z) (z := z) hR ho (by omega) (by omega) hn hk rfl
  refine L_goM hc ?_ (h _ h2)
  show (if jtag M i = 101 then _ else _) = _
  rw [Rl_tag hR ho (by omega), if_neg (by decide), if_pos (show z = 0 ∨ z = 1 from hz)]
  exact h1
theorem L_last {i n : Nat} {k : Int} {z : Int64} (hc : jcode mi pc = some (.lastore, l, a, b, w)) (hR : Rl E M μ) (ho : rt i = 103) (hn : ln i = n) (hk : 0 ≤ k ∧ k < (n : Int)) (h : ∀ M', Rl E M' (mup μ i k.toNat z.toInt) → JX mi (pc + 1) ls st M' P) : JX mi pc ls (.inr (.inr (.long z)) :: .inl k :: .inr (.inl i) :: st) M P := by
  obtain ⟨h1, h2⟩ := Rl_wr (ls := ls) (st := st) (pc1 := pc + 1) (v := .inr (.inr (.long z))) (z := z.toInt) hR ho (by omega) (by omega) hn hk (by unfold cv; rw [if_pos rfl, Int64.ofInt_toInt])
  exact L_goM hc h1 (h _ h2)
theorem L_alen {i n t : Nat} {z : Int} (hc : jcode mi pc = some (.arraylength, l, a, b, w)) (hR : Rl E M μ) (ho : rt i = t) (ht : 100 ≤ t ∧ t < 116) (hn : ln i = n) (hn2 : n < 2147483648) (hz : (n : Int) = z) (h : JX mi (pc + 1) ls (.inl z :: st) M P) : JX mi pc ls (.inr (.inl i) :: st) M P := by
  subst hz
  have hl := rt_lt ho (by omega)
  have e : jlen M i = some n := by
    unfold jlen
    rw [if_pos (by omega), Rl_sh hR ho (by omega)]
    show (if 100 ≤ unt t then _ else _) = _
    rw [if_pos (unt_ge (by omega) ht.1), hn]
  refine L_go hc ?_ h
  show (match jlen M i with | some n => if n < 2147483648 then jN (pc + 1) ls (jI n :: st) M else none | none => none) = _
  rw [e]
  show (if _ then _ else _) = _
  rw [if_pos hn2]
  rfl
theorem ln_small (i : Nat) : ln i < 2147483648 := by
  rcases Nat.lt_or_ge i 772 with g | g
  · have h : tall (fun l => decide ((rtS l 0).2 < 2147483648)) rsl = true := by decide +kernel
    have := of_decide_eq_true (tall_drop h (a := i) (by rw [rsl_len]; exact g))
    rw [rtS_drop] at this
    exact this
  · unfold ln
    rw [List.getD_eq_getElem?_getD, List.getElem?_eq_none (by rw [rsl_len]; exact g)]
    decide
/-- calls -/
def PO (E : JE2) (QQ : Option JV → Mem → Prop) (X : Nat → Mem → Prop) : JO → JM → Prop := fun o M' => match o with
  | .inl v => ∃ μ', Rl E M' μ' ∧ QQ v μ'
  | .inr k => ∃ μ', Rl E M' μ' ∧ X k μ'
def QI (Q : Int → Mem → Prop) : Option JV → Mem → Prop := fun v μ => ∃ z : Int, v = some (.inl z) ∧ Q z μ
def QB (Q : Bool → Mem → Prop) : Option JV → Mem → Prop := fun v μ => ∃ z : Bool, v = some (.inl (b2i z)) ∧ Q z μ
def QR (t : Nat) (Q : Nat → Mem → Prop) : Option JV → Mem → Prop := fun v μ => ∃ z : Nat, v = some (.inr (.inl z)) ∧ rt z = t ∧ Q z μ
def QV (Q : Mem → Prop) : Option JV → Mem → Prop := fun v μ => v = none ∧ Q μ
def QF (Q : UInt32 → Mem → Prop) : Option JV → Mem → Prop := fun v μ => ∃ z : UInt32, v = some (.inr (.inr (.float z))) ∧ Q z μ
def QD (Q : UInt64 → Mem → Prop) : Option JV → Mem → Prop := fun v μ => ∃ z : UInt64, v = some (.inr (.inr (.double z))) ∧ Q z μ
def XN : Nat → Mem → Prop := fun _ _ => False
/-- a call's arguments off the stack: the receiver, all of them, the rest -/
def vsplit (n : Nat) (st : List JV) : Option (Nat × List JV × List JV) :=
  if n + 1 ≤ st.length ∧ jwds (st.drop (n + 1)) ≤ 8 ∧ ((st.take (n + 1)).all fun v => !jc2 v) = true then match (st.take (n + 1)).reverse with
    | .inr (.inl i) :: r => some (i, .inr (.inl i) :: r, st.drop (n + 1))
    | _ => none
  else none
def ssplit (n : Nat) (st : List JV) : Option (List JV × List JV) :=
  if n ≤ st.length ∧ jwds (st.drop n) ≤ 8 ∧ ((st.take n).all fun v => !jc2 v) = true then some ((st.take n).reverse, st.drop n) else none
theorem vsplit_call {y n i : Nat} {virt : Bool} {as st1 : List JV} (hk : vsplit n st = some (i, as, st1)) (ht : virt = false ∨ jtag M i = jcls y) : jcall y n virt true ls st M = some (.inr (.inl (y, as, st1))) := by
  unfold vsplit at hk
  unfold jcall
  dsimp only
  rw [if_pos rfl]
  split at hk
  · rename_i hc
    rw [if_pos hc]
    split at hk
    · rename_i i' r hr
      cases hk
      rw [hr]
      show (if _ then _ else _) = _
      rw [if_pos ht]
    · cases hk
  · cases hk
theorem ssplit_call {y n : Nat} {as st1 : List JV} (hk : ssplit n st = some (as, st1)) : jcall y n false false ls st M = some (.inr (.inl (y, as, st1))) := by
  unfold ssplit at hk
  unfold jcall
  dsimp only
  rw [if_neg Bool.false_ne_true]
  split at hk
  · rename_i hc
    rw [if_pos hc]
    cases hk
    rfl
  · cases hk
theorem L_call {x : JI} {y : Nat} {as st1 : List JV} {QQ : Option JV → Mem → Prop} {XX : Nat → Mem → Prop} (hc : jcode mi pc = some x) (hs : jstep x pc ls st M = some (.inr (.inl (y, as, st1)))) (_ : jhh mi = []) (hy : JX y 0 (jargs y as) [] M (PO E QQ XX)) (hq : ∀ v M' μ', Rl E M' μ' → QQ v μ' → JX mi (pc + jrl x) ls (v.toList ++ st1) M' P) (hx : ∀ k M' μ', Rl E M' μ' → XX k μ' → P (.inr k) M') : JX mi pc ls st M P := by
  refine JX_call hc hs hy (fun v M1 ho => ?_) fun k M1 ho => ?_
  · obtain ⟨μ', h1, h2⟩ := ho
    exact hq _ _ _ h1 h2
  · obtain ⟨μ', h1, h2⟩ := ho
    exact hx _ _ _ h1 h2
def psteps (cd : List (Nat × JI)) : Nat → Nat → List JV → List JV → JM → Option (Nat × List JV × List JV × JM)
  | 0, pc, ls, st, M => some (pc, ls, st, M)
  | n + 1, pc, ls, st, M => match cd.lookup pc with
    | none => none
    | some x => match jstep x pc ls st M with
      | some (.inl (pc1, ls1, st1, M1)) => psteps cd n pc1 ls1 st1 M1
      | _ => none
theorem L_ps {cd : List (Nat × JI)} (hcd : ∀ (pc : Nat) {x : JI}, cd.lookup pc = some x → jcode mi pc = some x) : ∀ {n : Nat} {pc pc1 : Nat} {ls st ls1 st1 : List JV} {M M1 : JM}, psteps cd n pc ls st M = some (pc1, ls1, st1, M1) → JX mi pc1 ls1 st1 M1 P → JX mi pc ls st M P := by
  intro n
  induction n with
  | zero => intro pc pc1 ls st ls1 st1 M M1 h k; cases h; exact k
  | succ n ih =>
    intro pc pc1 ls st ls1 st1 M M1 h k
    rw [psteps] at h
    split at h
    · cases h
    · rename_i x hx
      split at h
      · rename_i hs
        exact L_goM (hcd _ hx) hs (ih h k)
      · cases h
theorem jsto_of {i : Nat} {v : JV} (hg : jc2 ((jU :: ls).getD i jU) = false) (hl : i < ls.length) : jsto ls i v = some (ls.set i v) := if_pos ⟨hg, hl⟩
theorem L_istn {k : Fin 4} {z : Int} (hc : jcode mi pc = some (.istore_n k, l, a, b, w)) (hg : jc2 ((jU :: ls).getD k jU) = false) (hl : k < ls.length) (h : JX mi (pc + 1) (ls.set k (.inl z)) st M P) : JX mi pc ls (.inl z :: st) M P := by
  refine L_go hc ?_ h
  show jNo (pc + 1) (jsto ls k (.inl z)) st M = _
  rw [jsto_of hg hl]; rfl
theorem L_ist {k : Nat} {z : Int} (hc : jcode mi pc = some (.istore k, l, a, b, w)) (hg : jc2 ((jU :: ls).getD k jU) = false) (hl : k < ls.length) (h : JX mi (pc + 2) (ls.set k (.inl z)) st M P) : JX mi pc ls (.inl z :: st) M P := by
  refine L_go hc ?_ h
  show jNo (pc + 2) (jsto ls k (.inl z)) st M = _
  rw [jsto_of hg hl]; rfl
theorem L_astn {k : Fin 4} {z : Nat} (hc : jcode mi pc = some (.astore_n k, l, a, b, w)) (hg : jc2 ((jU :: ls).getD k jU) = false) (hl : k < ls.length) (h : JX mi (pc + 1) (ls.set k (.inr (.inl z))) st M P) : JX mi pc ls (.inr (.inl z) :: st) M P := by
  refine L_go hc ?_ h
  show jNo (pc + 1) (jsto ls k (.inr (.inl z))) st M = _
  rw [jsto_of hg hl]; rfl
theorem L_ast {k z : Nat} (hc : jcode mi pc = some (.astore k, l, a, b, w)) (hg : jc2 ((jU :: ls).getD k jU) = false) (hl : k < ls.length) (h : JX mi (pc + 2) (ls.set k (.inr (.inl z))) st M P) : JX mi pc ls (.inr (.inl z) :: st) M P := by
  refine L_go hc ?_ h
  show jNo (pc + 2) (jsto ls k (.inr (.inl z))) st M = _
  rw [jsto_of hg hl]; rfl
theorem L_iinc {i : Nat} {n z : Int} (hc : jcode mi pc = some (.iinc i n, l, a, b, w)) (hg : jc2 ((jU :: ls).getD i jU) = false) (hl : i < ls.length) (hz : jld ls i = .inl z) (h : JX mi (pc + 3) (ls.set i (.inl (wr (z + n)))) st M P) : JX mi pc ls st M P := by
  refine L_go hc ?_ h
  show (match jld ls i with | .inl z => jNo (pc + 3) (jsto ls i (.inl (wr (z + n)))) st M | _ => none) = _
  rw [hz]
  show jNo (pc + 3) (jsto ls i (.inl (wr (z + n)))) st M = _
  rw [jsto_of hg hl]; rfl
theorem L_retI {z : Int} (hc : jcode mi pc = some (.ireturn, l, 0, b, w)) (h : P (.inl (some (.inl z))) M) : JX mi pc ls [.inl z] M P := L_end hc rfl h
theorem L_retB {z : Int} (hc : jcode mi pc = some (.ireturn, l, 1, b, w)) (hz : bz z) (h : P (.inl (some (.inl z))) M) : JX mi pc ls [.inl z] M P := by
  refine L_end hc ?_ h
  rcases hz with rfl | rfl <;> rfl
def i2b (z : Int) : Bool := decide (z = 1)
theorem b2i_i2b {z : Int} (h : bz z) : b2i (i2b z) = z := by
  rcases h with rfl | rfl <;> rfl
theorem L_retZ {z : Int} (hc : jcode mi pc = some (.ireturn, l, 1, b, w)) (hz : bz z) (h : P (.inl (some (.inl (b2i (i2b z))))) M) : JX mi pc ls [.inl z] M P := by
  rw [b2i_i2b hz] at h
  exact L_retB hc hz h
def thr (μ : Mem) : Mem := mup μ 772 0 (μ 772 0 + 1)
theorem L_throw {n k : Nat} (hc : jcode mi pc = some (.new n, l, 100 + k, b, w)) (h : P (.inr k) (jthrow M)) : JX mi pc ls [] M P := by
  refine L_end hc (o := .inr k) (M1 := jthrow M) ?_ h
  have e : jstep (.new n, l, 100 + k, b, w) pc ls [] M = (if 100 + k < 100 then (if jclean M = true ∧ M.1.length < 1000000 then jN (pc + 3) ls (jR M.1.length :: []) (jpush M (100 + k) (jfields (100 + k)).length (jdef (100 + k))) else none) else if ([] : List JV) = [] then some (.inr (.inr (.inr (100 + k - 100), jthrow M))) else none) := rfl
  rw [e, if_neg (by omega), if_pos rfl, Nat.add_sub_cancel_left]
def pQI (μ : Mem) (Q : Int → Prop) : Option JV → Mem → Prop := fun v μ1 => μ1 = μ ∧ ∃ z : Int, v = some (.inl z) ∧ Q z
def pQB (μ : Mem) (Q : Bool → Prop) : Option JV → Mem → Prop := fun v μ1 => μ1 = μ ∧ ∃ z : Bool, v = some (.inl (b2i z)) ∧ Q z
def pQR (μ : Mem) (t : Nat) (Q : Nat → Prop) : Option JV → Mem → Prop := fun v μ1 => μ1 = μ ∧ ∃ z : Nat, v = some (.inr (.inl z)) ∧ rt z = t ∧ Q z
def pQV (μ : Mem) (Q : Prop) : Option JV → Mem → Prop := fun v μ1 => μ1 = μ ∧ v = none ∧ Q
def pQF (μ : Mem) (Q : UInt32 → Prop) : Option JV → Mem → Prop := fun v μ1 => μ1 = μ ∧ ∃ z : UInt32, v = some (.inr (.inr (.float z))) ∧ Q z
def pQD (μ : Mem) (Q : UInt64 → Prop) : Option JV → Mem → Prop := fun v μ1 => μ1 = μ ∧ ∃ z : UInt64, v = some (.inr (.inr (.double z))) ∧ Q z
theorem L_cI {x : JI} {y : Nat} {as st1 : List JV} {Q : Int → Mem → Prop} {XX : Nat → Mem → Prop} (hc : jcode mi pc = some x) (hs : jstep x pc ls st M = some (.inr (.inl (y, as, st1)))) (hh : jhh mi = []) (hy : JX y 0 (jargs y as) [] M (PO E (QI Q) XX)) (hq : ∀ (z : Int) (M1 : JM) (μ1 : Mem), Rl E M1 μ1 → Q z μ1 → JX mi (pc + jrl x) ls (.inl z :: st1) M1 P) (hx : ∀ k M1 μ1, Rl E M1 μ1 → XX k μ1 → P (.inr k) M1) : JX mi pc ls st M P := by
  refine L_call hc hs hh hy (fun v M1 μ1 hR hv => ?_) hx
  obtain ⟨z, rfl, hv⟩ := hv
  exact hq _ _ _ hR hv
theorem L_cpI {x : JI} {y : Nat} {as st1 : List JV} {Q : Int → Prop} {XX : Nat → Mem → Prop} (hc : jcode mi pc = some x) (hs : jstep x pc ls st M = some (.inr (.inl (y, as, st1)))) (hh : jhh mi = []) (hy : JX y 0 (jargs y as) [] M (PO E (pQI μ Q) XX)) (hq : ∀ (z : Int) (M1 : JM), Rl E M1 μ → Q z → JX mi (pc + jrl x) ls (.inl z :: st1) M1 P) (hx : ∀ k M1 μ1, Rl E M1 μ1 → XX k μ1 → P (.inr k) M1) : JX mi pc ls st M P := by
  refine L_call hc hs hh hy (fun v M1 μ1 hR hv => ?_) hx
  obtain ⟨rfl, hv⟩ := hv
  obtain ⟨z, rfl, hv⟩ := hv
  exact hq _ _ hR hv
theorem L_cB {x : JI} {y : Nat} {as st1 : List JV} {Q : Bool → Mem → Prop} {XX : Nat → Mem → Prop} (hc : jcode mi pc = some x) (hs : jstep x pc ls st M = some (.inr (.inl (y, as, st1)))) (hh : jhh mi = []) (hy : JX y 0 (jargs y as) [] M (PO E (QB Q) XX)) (hq : ∀ (z : Bool) (M1 : JM) (μ1 : Mem), Rl E M1 μ1 → Q z μ1 → JX mi (pc + jrl x) ls (.inl (b2i z) :: st1) M1 P) (hx : ∀ k M1 μ1, Rl E M1 μ1 → XX k μ1 → P (.inr k) M1) : JX mi pc ls st M P := by
  refine L_call hc hs hh hy (fun v M1 μ1 hR hv => ?_) hx
  obtain ⟨z, rfl, hv⟩ := hv
  exact hq _ _ _ hR hv
theorem L_cpB {x : JI} {y : Nat} {as st1 : List JV} {Q : Bool → Prop} {XX : Nat → Mem → Prop} (hc : jcode mi pc = some x) (hs : jstep x pc ls st M = some (.inr (.inl (y, as, st1)))) (hh : jhh mi = []) (hy : JX y 0 (jargs y as) [] M (PO E (pQB μ Q) XX)) (hq : ∀ (z : Bool) (M1 : JM), Rl E M1 μ → Q z → JX mi (pc + jrl x) ls (.inl (b2i z) :: st1) M1 P) (hx : ∀ k M1 μ1, Rl E M1 μ1 → XX k μ1 → P (.inr k) M1) : JX mi pc ls st M P := by
  refine L_call hc hs hh hy (fun v M1 μ1 hR hv => ?_) hx
  obtain ⟨rfl, hv⟩ := hv
  obtain ⟨z, rfl, hv⟩ := hv
  exact hq _ _ hR hv
theorem L_cR {x : JI} {y : Nat} {as st1 : List JV} {t : Nat} {Q : Nat → Mem → Prop} {XX : Nat → Mem → Prop} (hc : jcode mi pc = some x) (hs : jstep x pc ls st M = some (.inr (.inl (y, as, st1)))) (hh : jhh mi = []) (hy : JX y 0 (jargs y as) [] M (PO E (QR t Q) XX)) (hq : ∀ (z : Nat) (M1 : JM) (μ1 : Mem), Rl E M1 μ1 → rt z = t → Q z μ1 → JX mi (pc + jrl x) ls (.inr (.inl z) :: st1) M1 P) (hx : ∀ k M1 μ1, Rl E M1 μ1 → XX k μ1 → P (.inr k) M1) : JX mi pc ls st M P := by
  refine L_call hc hs hh hy (fun v M1 μ1 hR hv => ?_) hx
  obtain ⟨z, rfl, ht, hv⟩ := hv
  exact hq _ _ _ hR ht hv
theorem L_cpR {x : JI} {y : Nat} {as st1 : List JV} {t : Nat} {Q : Nat → Prop} {XX : Nat → Mem → Prop} (hc : jcode mi pc = some x) (hs : jstep x pc ls st M = some (.inr (.inl (y, as, st1)))) (hh : jhh mi = []) (hy : JX y 0 (jargs y as) [] M (PO E (pQR μ t Q) XX)) (hq : ∀ (z : Nat) (M1 : JM), Rl E M1 μ → rt z = t → Q z → JX mi (pc + jrl x) ls (.inr (.inl z) :: st1) M1 P) (hx : ∀ k M1 μ1, Rl E M1 μ1 → XX k μ1 → P (.inr k) M1) : JX mi pc ls st M P := by
  refine L_call hc hs hh hy (fun v M1 μ1 hR hv => ?_) hx
  obtain ⟨rfl, hv⟩ := hv
  obtain ⟨z, rfl, ht, hv⟩ := hv
  exact hq _ _ hR ht hv
theorem L_cV {x : JI} {y : Nat} {as st1 : List JV} {Q : Mem → Prop} {XX : Nat → Mem → Prop} (hc : jcode mi pc = some x) (hs : jstep x pc ls st M = some (.inr (.inl (y, as, st1)))) (hh : jhh mi = []) (hy : JX y 0 (jargs y as) [] M (PO E (QV Q) XX)) (hq : ∀ (M1 : JM) (μ1 : Mem), Rl E M1 μ1 → Q μ1 → JX mi (pc + jrl x) ls (st1) M1 P) (hx : ∀ k M1 μ1, Rl E M1 μ1 → XX k μ1 → P (.inr k) M1) : JX mi pc ls st M P := by
  refine L_call hc hs hh hy (fun v M1 μ1 hR hv => ?_) hx
  obtain ⟨rfl, hv⟩ := hv
  exact hq _ _ hR hv
theorem L_cpV {x : JI} {y : Nat} {as st1 : List JV} {Q : Prop} {XX : Nat → Mem → Prop} (hc : jcode mi pc = some x) (hs : jstep x pc ls st M = some (.inr (.inl (y, as, st1)))) (hh : jhh mi = []) (hy : JX y 0 (jargs y as) [] M (PO E (pQV μ Q) XX)) (hq : ∀ (M1 : JM), Rl E M1 μ → Q → JX mi (pc + jrl x) ls (st1) M1 P) (hx : ∀ k M1 μ1, Rl E M1 μ1 → XX k μ1 → P (.inr k) M1) : JX mi pc ls st M P := by
  refine L_call hc hs hh hy (fun v M1 μ1 hR hv => ?_) hx
  obtain ⟨rfl, hv⟩ := hv
  obtain ⟨rfl, hv⟩ := hv
  exact hq _ hR hv
theorem js_v {n i x : Nat} {y : Nat} {as st1 : List JV} (hk : vsplit n st = some (i, as, st1)) (ht : jtag M i = jcls y) (hy : y < 8000 := by decide) : jstep (.invokevirtual x, l, y, n, w) pc ls st M = some (.inr (.inl (y, as, st1))) := by
  show (if y = 8002 then jclone pc ls st M else jcall y n true true ls st M) = _
  rw [if_neg (by omega)]
  exact vsplit_call (ls := ls) (M := M) hk (Or.inr ht)
theorem js_f {n i x n1 : Nat} {y : Nat} {as st1 : List JV} (hk : vsplit n st = some (i, as, st1)) (ht : jtag M i = jcls y) : jstep (.invokeinterface x n1, l, y, n, w) pc ls st M = some (.inr (.inl (y, as, st1))) := vsplit_call (ls := ls) (M := M) hk (Or.inr ht)
theorem js_u {n i x : Nat} {y : Nat} {as st1 : List JV} (hk : vsplit (n % 100) st = some (i, as, st1)) (ht : jtag M i = jcls y) : jstep (.invokespecial x, l, y, n, w) pc ls st M = some (.inr (.inl (y, as, st1))) := vsplit_call (ls := ls) (M := M) hk (Or.inr ht)
theorem js_s {n i x : Nat} {y : Nat} {as st1 : List JV} (hk : vsplit (n % 100) st = some (i, as, st1)) (hy : jsup y = false := by rfl) : jstep (.invokespecial x, l, y, n, w) pc ls st M = some (.inr (.inl (y, as, st1))) := vsplit_call (ls := ls) (M := M) hk (Or.inl hy)
theorem js_t {n x : Nat} {y : Nat} {as st1 : List JV} (hk : ssplit n st = some (as, st1)) (hy : y < 8000 := by decide) : jstep (.invokestatic x, l, y, n, w) pc ls st M = some (.inr (.inl (y, as, st1))) := by
  show (if y = 8001 then jcopy pc ls st M else if y = 8003 then jfill pc ls st M else if y = 8004 then jsame pc ls st M else jcall y n false false ls st M) = _
  rw [if_neg (by omega), if_neg (by omega), if_neg (by omega)]
  exact ssplit_call (ls := ls) (M := M) hk

theorem rt0 : rt 0 = 10 := by decide +kernel
theorem rt1 : rt 1 = 6 := by decide +kernel
theorem rt5 : rt 5 = 7 := by decide +kernel
theorem rt57 : rt 57 = 4 := by decide +kernel
theorem rt65 : rt 65 = 9 := by decide +kernel
theorem rt72 : rt 72 = 3 := by decide +kernel
theorem rt73 : rt 73 = 6 := by decide +kernel
theorem rt77 : rt 77 = 7 := by decide +kernel
theorem rt129 : rt 129 = 100 := by decide +kernel
theorem ln129 : ln 129 = 500 := by decide +kernel
theorem rt130 : rt 130 = 4 := by decide +kernel
theorem rt138 : rt 138 = 100 := by decide +kernel
theorem ln138 : ln 138 = 40 := by decide +kernel
theorem rt139 : rt 139 = 2 := by decide +kernel
theorem rt140 : rt 140 = 9 := by decide +kernel
theorem rt147 : rt 147 = 4 := by decide +kernel
theorem rt155 : rt 155 = 100 := by decide +kernel
theorem ln155 : ln 155 = 20 := by decide +kernel
theorem rt156 : rt 156 = 100 := by decide +kernel
theorem ln156 : ln 156 = 20 := by decide +kernel
theorem rt157 : rt 157 = 100 := by decide +kernel
theorem ln157 : ln 157 = 20 := by decide +kernel
theorem rt158 : rt 158 = 100 := by decide +kernel
theorem ln158 : ln 158 = 20 := by decide +kernel
theorem rt159 : rt 159 = 114 := by decide +kernel
theorem ln159 : ln 159 = 20 := by decide +kernel
theorem rt160 : rt 160 = 115 := by decide +kernel
theorem ln160 : ln 160 = 20 := by decide +kernel
theorem rt161 : rt 161 = 8 := by decide +kernel
theorem rt163 : rt 163 = 100 := by decide +kernel
theorem ln163 : ln 163 = 16 := by decide +kernel
theorem rt244 : rt 244 = 1 := by decide +kernel
theorem rt245 : rt 245 = 100 := by decide +kernel
theorem ln245 : ln 245 = 1600 := by decide +kernel
theorem rt246 : rt 246 = 100 := by decide +kernel
theorem ln246 : ln 246 = 80 := by decide +kernel
theorem rt247 : rt 247 = 0 := by decide +kernel
theorem rt248 : rt 248 = 112 := by decide +kernel
theorem ln248 : ln 248 = 8 := by decide +kernel
theorem rt665 : rt 665 = 7 := by decide +kernel
theorem rt717 : rt 717 = 7 := by decide +kernel
theorem rt769 : rt 769 = 8 := by decide +kernel
theorem rt771 : rt 771 = 100 := by decide +kernel
theorem ln771 : ln 771 = 80 := by decide +kernel
theorem rp_0_1 {a : Nat} (h : rt a = 0) : rt (a + 1) = 112 := rp_of (by decide +kernel) (by decide) h
theorem lp_0_1 {a : Nat} (h : rt a = 0) : ln (a + 1) = 8 := lp_of (by decide +kernel) (by decide) h
theorem rp_1_1 {a : Nat} (h : rt a = 1) : rt (a + 1) = 100 := rp_of (by decide +kernel) (by decide) h
theorem lp_1_1 {a : Nat} (h : rt a = 1) : ln (a + 1) = 1600 := lp_of (by decide +kernel) (by decide) h
theorem rp_1_2 {a : Nat} (h : rt a = 1) : rt (a + 2) = 100 := rp_of (by decide +kernel) (by decide) h
theorem lp_1_2 {a : Nat} (h : rt a = 1) : ln (a + 2) = 80 := lp_of (by decide +kernel) (by decide) h
theorem rp_2_1 {a : Nat} (h : rt a = 2) : rt (a + 1) = 9 := rp_of (by decide +kernel) (by decide) h
theorem rp_2_8 {a : Nat} (h : rt a = 2) : rt (a + 8) = 4 := rp_of (by decide +kernel) (by decide) h
theorem rp_2_16 {a : Nat} (h : rt a = 2) : rt (a + 16) = 100 := rp_of (by decide +kernel) (by decide) h
theorem lp_2_16 {a : Nat} (h : rt a = 2) : ln (a + 16) = 20 := lp_of (by decide +kernel) (by decide) h
theorem rp_2_17 {a : Nat} (h : rt a = 2) : rt (a + 17) = 100 := rp_of (by decide +kernel) (by decide) h
theorem lp_2_17 {a : Nat} (h : rt a = 2) : ln (a + 17) = 20 := lp_of (by decide +kernel) (by decide) h
theorem rp_2_18 {a : Nat} (h : rt a = 2) : rt (a + 18) = 100 := rp_of (by decide +kernel) (by decide) h
theorem lp_2_18 {a : Nat} (h : rt a = 2) : ln (a + 18) = 20 := lp_of (by decide +kernel) (by decide) h
theorem rp_2_19 {a : Nat} (h : rt a = 2) : rt (a + 19) = 100 := rp_of (by decide +kernel) (by decide) h
theorem lp_2_19 {a : Nat} (h : rt a = 2) : ln (a + 19) = 20 := lp_of (by decide +kernel) (by decide) h
theorem rp_2_20 {a : Nat} (h : rt a = 2) : rt (a + 20) = 114 := rp_of (by decide +kernel) (by decide) h
theorem lp_2_20 {a : Nat} (h : rt a = 2) : ln (a + 20) = 20 := lp_of (by decide +kernel) (by decide) h
theorem rp_2_21 {a : Nat} (h : rt a = 2) : rt (a + 21) = 115 := rp_of (by decide +kernel) (by decide) h
theorem lp_2_21 {a : Nat} (h : rt a = 2) : ln (a + 21) = 20 := lp_of (by decide +kernel) (by decide) h
theorem rp_2_22 {a : Nat} (h : rt a = 2) : rt (a + 22) = 8 := rp_of (by decide +kernel) (by decide) h
theorem rp_2_24 {a : Nat} (h : rt a = 2) : rt (a + 24) = 100 := rp_of (by decide +kernel) (by decide) h
theorem lp_2_24 {a : Nat} (h : rt a = 2) : ln (a + 24) = 16 := lp_of (by decide +kernel) (by decide) h
theorem rp_3_1 {a : Nat} (h : rt a = 3) : rt (a + 1) = 6 := rp_of (by decide +kernel) (by decide) h
theorem rp_3_5 {a : Nat} (h : rt a = 3) : rt (a + 5) = 7 := rp_of (by decide +kernel) (by decide) h
theorem rp_3_57 {a : Nat} (h : rt a = 3) : rt (a + 57) = 100 := rp_of (by decide +kernel) (by decide) h
theorem lp_3_57 {a : Nat} (h : rt a = 3) : ln (a + 57) = 500 := lp_of (by decide +kernel) (by decide) h
theorem rp_3_58 {a : Nat} (h : rt a = 3) : rt (a + 58) = 4 := rp_of (by decide +kernel) (by decide) h
theorem rp_3_66 {a : Nat} (h : rt a = 3) : rt (a + 66) = 100 := rp_of (by decide +kernel) (by decide) h
theorem lp_3_66 {a : Nat} (h : rt a = 3) : ln (a + 66) = 40 := lp_of (by decide +kernel) (by decide) h
theorem rp_4_1 {a : Nat} (h : rt a = 4) : rt (a + 1) = 8 := rp_of (by decide +kernel) (by decide) h
theorem rp_4_3 {a : Nat} (h : rt a = 4) : rt (a + 3) = 8 := rp_of (by decide +kernel) (by decide) h
theorem rp_4_5 {a : Nat} (h : rt a = 4) : rt (a + 5) = 8 := rp_of (by decide +kernel) (by decide) h
theorem rp_4_7 {a : Nat} (h : rt a = 4) : rt (a + 7) = 100 := rp_of (by decide +kernel) (by decide) h
theorem lp_4_7 {a : Nat} (h : rt a = 4) : ln (a + 7) = 8 := lp_of (by decide +kernel) (by decide) h
theorem rp_6_1 {a : Nat} (h : rt a = 6) : rt (a + 1) = 100 := rp_of (by decide +kernel) (by decide) h
theorem lp_6_1 {a : Nat} (h : rt a = 6) : ln (a + 1) = 8 := lp_of (by decide +kernel) (by decide) h
theorem rp_6_2 {a : Nat} (h : rt a = 6) : rt (a + 2) = 100 := rp_of (by decide +kernel) (by decide) h
theorem lp_6_2 {a : Nat} (h : rt a = 6) : ln (a + 2) = 8 := lp_of (by decide +kernel) (by decide) h
theorem rp_6_3 {a : Nat} (h : rt a = 6) : rt (a + 3) = 100 := rp_of (by decide +kernel) (by decide) h
theorem lp_6_3 {a : Nat} (h : rt a = 6) : ln (a + 3) = 48 := lp_of (by decide +kernel) (by decide) h
theorem rp_7_1 {a : Nat} (h : rt a = 7) : rt (a + 1) = 110 := rp_of (by decide +kernel) (by decide) h
theorem lp_7_1 {a : Nat} (h : rt a = 7) : ln (a + 1) = 6 := lp_of (by decide +kernel) (by decide) h
theorem rp_7_2 {a : Nat} (h : rt a = 7) : rt (a + 2) = 113 := rp_of (by decide +kernel) (by decide) h
theorem lp_7_2 {a : Nat} (h : rt a = 7) : ln (a + 2) = 6 := lp_of (by decide +kernel) (by decide) h
theorem rp_7_3 {a : Nat} (h : rt a = 7) : rt (a + 3) = 5 := rp_of (by decide +kernel) (by decide) h
theorem rp_7_8 {a : Nat} (h : rt a = 7) : rt (a + 8) = 8 := rp_of (by decide +kernel) (by decide) h
theorem rp_8_1 {a : Nat} (h : rt a = 8) : rt (a + 1) = 100 := rp_of (by decide +kernel) (by decide) h
theorem rp_9_1 {a : Nat} (h : rt a = 9) : rt (a + 1) = 100 := rp_of (by decide +kernel) (by decide) h
theorem lp_9_1 {a : Nat} (h : rt a = 9) : ln (a + 1) = 160 := lp_of (by decide +kernel) (by decide) h
theorem rp_9_2 {a : Nat} (h : rt a = 9) : rt (a + 2) = 100 := rp_of (by decide +kernel) (by decide) h
theorem lp_9_2 {a : Nat} (h : rt a = 9) : ln (a + 2) = 160 := lp_of (by decide +kernel) (by decide) h
theorem rp_9_3 {a : Nat} (h : rt a = 9) : rt (a + 3) = 100 := rp_of (by decide +kernel) (by decide) h
theorem lp_9_3 {a : Nat} (h : rt a = 9) : ln (a + 3) = 160 := lp_of (by decide +kernel) (by decide) h
theorem rp_9_4 {a : Nat} (h : rt a = 9) : rt (a + 4) = 102 := rp_of (by decide +kernel) (by decide) h
theorem lp_9_4 {a : Nat} (h : rt a = 9) : ln (a + 4) = 160 := lp_of (by decide +kernel) (by decide) h
theorem rp_9_5 {a : Nat} (h : rt a = 9) : rt (a + 5) = 100 := rp_of (by decide +kernel) (by decide) h
theorem lp_9_5 {a : Nat} (h : rt a = 9) : ln (a + 5) = 16 := lp_of (by decide +kernel) (by decide) h
theorem rp_9_6 {a : Nat} (h : rt a = 9) : rt (a + 6) = 100 := rp_of (by decide +kernel) (by decide) h
theorem lp_9_6 {a : Nat} (h : rt a = 9) : ln (a + 6) = 962 := lp_of (by decide +kernel) (by decide) h
theorem rp_10_1 {a : Nat} (h : rt a = 10) : rt (a + 1) = 6 := rp_of (by decide +kernel) (by decide) h
theorem rp_10_5 {a : Nat} (h : rt a = 10) : rt (a + 5) = 7 := rp_of (by decide +kernel) (by decide) h
theorem rp_10_57 {a : Nat} (h : rt a = 10) : rt (a + 57) = 4 := rp_of (by decide +kernel) (by decide) h
theorem rp_10_65 {a : Nat} (h : rt a = 10) : rt (a + 65) = 9 := rp_of (by decide +kernel) (by decide) h
theorem rp_10_72 {a : Nat} (h : rt a = 10) : rt (a + 72) = 3 := rp_of (by decide +kernel) (by decide) h
theorem rp_10_139 {a : Nat} (h : rt a = 10) : rt (a + 139) = 2 := rp_of (by decide +kernel) (by decide) h
theorem rp_10_244 {a : Nat} (h : rt a = 10) : rt (a + 244) = 1 := rp_of (by decide +kernel) (by decide) h
theorem rp_10_247 {a : Nat} (h : rt a = 10) : rt (a + 247) = 0 := rp_of (by decide +kernel) (by decide) h
theorem rp_10_665 {a : Nat} (h : rt a = 10) : rt (a + 665) = 7 := rp_of (by decide +kernel) (by decide) h
theorem rp_10_717 {a : Nat} (h : rt a = 10) : rt (a + 717) = 7 := rp_of (by decide +kernel) (by decide) h
theorem rp_10_769 {a : Nat} (h : rt a = 10) : rt (a + 769) = 8 := rp_of (by decide +kernel) (by decide) h
theorem rp_10_771 {a : Nat} (h : rt a = 10) : rt (a + 771) = 100 := rp_of (by decide +kernel) (by decide) h
theorem lp_10_771 {a : Nat} (h : rt a = 10) : ln (a + 771) = 80 := lp_of (by decide +kernel) (by decide) h
theorem re_110 {a j : Nat} (h : rt a = 110) (hj : j < 6) : rt (a + (9 + 5 * j)) = 5 := re_of (by decide +kernel) (by decide) h hj
theorem le_110 {a : Nat} (h : rt a = 110) : ln a = 6 := by have := lp_of (t := 110) (d := 0) (n := 6) (by decide +kernel) (by decide) h; exact this
theorem re_112 {a j : Nat} (h : rt a = 112) (hj : j < 8) : rt (a + (1 + 52 * j)) = 7 := re_of (by decide +kernel) (by decide) h hj
theorem le_112 {a : Nat} (h : rt a = 112) : ln a = 8 := by have := lp_of (t := 112) (d := 0) (n := 8) (by decide +kernel) (by decide) h; exact this
theorem re_113 {a j : Nat} (h : rt a = 113) (hj : j < 6) : rt (a + (38 + 2 * j)) = 8 := re_of (by decide +kernel) (by decide) h hj
theorem le_113 {a : Nat} (h : rt a = 113) : ln a = 6 := by have := lp_of (t := 113) (d := 0) (n := 6) (by decide +kernel) (by decide) h; exact this
theorem re_114 {a j : Nat} (h : rt a = 114) (hj : j < 20) : rt (a + (5 + 4 * j)) = 8 := re_of (by decide +kernel) (by decide) h hj
theorem le_114 {a : Nat} (h : rt a = 114) : ln a = 20 := by have := lp_of (t := 114) (d := 0) (n := 20) (by decide +kernel) (by decide) h; exact this
theorem re_115 {a j : Nat} (h : rt a = 115) (hj : j < 20) : rt (a + (6 + 4 * j)) = 8 := re_of (by decide +kernel) (by decide) h hj
theorem le_115 {a : Nat} (h : rt a = 115) : ln a = 20 := by have := lp_of (t := 115) (d := 0) (n := 20) (by decide +kernel) (by decide) h; exact this
end L24
end
section
/-! facts of each method's table (written by wip/p66/gen/part24_66.py) -/
theorem c0 (pc : Nat) {x : JI} (h : cd_0.lookup pc = some x) : jcode 0 pc = some x := h
theorem hh0 : jhh 0 = [] := rfl
theorem js0 : unt 10 = jcls 0 := by decide +kernel
theorem c1 (pc : Nat) {x : JI} (h : cd_1.lookup pc = some x) : jcode 1 pc = some x := h
theorem hh1 : jhh 1 = [] := rfl
theorem c2 (pc : Nat) {x : JI} (h : cd_2.lookup pc = some x) : jcode 2 pc = some x := h
theorem hh2 : jhh 2 = [] := rfl
theorem js2 : unt 6 = jcls 2 := by decide +kernel
theorem c3 (pc : Nat) {x : JI} (h : cd_3.lookup pc = some x) : jcode 3 pc = some x := h
theorem hh3 : jhh 3 = [] := rfl
theorem js3 : unt 7 = jcls 3 := by decide +kernel
theorem c4 (pc : Nat) {x : JI} (h : cd_4.lookup pc = some x) : jcode 4 pc = some x := h
theorem hh4 : jhh 4 = [] := rfl
theorem js4 : unt 5 = jcls 4 := by decide +kernel
theorem c5 (pc : Nat) {x : JI} (h : cd_5.lookup pc = some x) : jcode 5 pc = some x := h
theorem hh5 : jhh 5 = [] := rfl
theorem js5 : unt 8 = jcls 5 := by decide +kernel
theorem c6 (pc : Nat) {x : JI} (h : cd_6.lookup pc = some x) : jcode 6 pc = some x := h
theorem hh6 : jhh 6 = [] := rfl
theorem c7 (pc : Nat) {x : JI} (h : cd_7.lookup pc = some x) : jcode 7 pc = some x := h
theorem hh7 : jhh 7 = [] := rfl
theorem js7 : unt 4 = jcls 7 := by decide +kernel
theorem c8 (pc : Nat) {x : JI} (h : cd_8.lookup pc = some x) : jcode 8 pc = some x := h
theorem hh8 : jhh 8 = [] := rfl
theorem js8 : unt 9 = jcls 8 := by decide +kernel
theorem c9 (pc : Nat) {x : JI} (h : cd_9.lookup pc = some x) : jcode 9 pc = some x := h
theorem hh9 : jhh 9 = [] := rfl
theorem js9 : unt 3 = jcls 9 := by decide +kernel
theorem c10 (pc : Nat) {x : JI} (h : cd_10.lookup pc = some x) : jcode 10 pc = some x := h
theorem hh10 : jhh 10 = [] := rfl
theorem js10 : unt 2 = jcls 10 := by decide +kernel
theorem c11 (pc : Nat) {x : JI} (h : cd_11.lookup pc = some x) : jcode 11 pc = some x := h
theorem hh11 : jhh 11 = [] := rfl
theorem js11 : unt 1 = jcls 11 := by decide +kernel
theorem c12 (pc : Nat) {x : JI} (h : cd_12.lookup pc = some x) : jcode 12 pc = some x := h
theorem hh12 : jhh 12 = [] := rfl
theorem js12 : unt 0 = jcls 12 := by decide +kernel
theorem c13 (pc : Nat) {x : JI} (h : cd_13.lookup pc = some x) : jcode 13 pc = some x := h
theorem hh13 : jhh 13 = [] := rfl
theorem js13 : unt 10 = jcls 13 := by decide +kernel
theorem c14 (pc : Nat) {x : JI} (h : cd_14.lookup pc = some x) : jcode 14 pc = some x := h
theorem hh14 : jhh 14 = [] := rfl
theorem js14 : unt 3 = jcls 14 := by decide +kernel
theorem c15 (pc : Nat) {x : JI} (h : cd_15.lookup pc = some x) : jcode 15 pc = some x := h
theorem hh15 : jhh 15 = [] := rfl
theorem js15 : unt 7 = jcls 15 := by decide +kernel
theorem c16 (pc : Nat) {x : JI} (h : cd_16.lookup pc = some x) : jcode 16 pc = some x := h
theorem hh16 : jhh 16 = [] := rfl
theorem js16 : unt 3 = jcls 16 := by decide +kernel
theorem c17 (pc : Nat) {x : JI} (h : cd_17.lookup pc = some x) : jcode 17 pc = some x := h
theorem hh17 : jhh 17 = [] := rfl
theorem js17 : unt 3 = jcls 17 := by decide +kernel
theorem c18 (pc : Nat) {x : JI} (h : cd_18.lookup pc = some x) : jcode 18 pc = some x := h
theorem hh18 : jhh 18 = [] := rfl
theorem js18 : unt 3 = jcls 18 := by decide +kernel
theorem c19 (pc : Nat) {x : JI} (h : cd_19.lookup pc = some x) : jcode 19 pc = some x := h
theorem hh19 : jhh 19 = [] := rfl
theorem js19 : unt 3 = jcls 19 := by decide +kernel
theorem c20 (pc : Nat) {x : JI} (h : cd_20.lookup pc = some x) : jcode 20 pc = some x := h
theorem hh20 : jhh 20 = [] := rfl
theorem js20 : unt 15 = jcls 20 := by decide +kernel
theorem c21 (pc : Nat) {x : JI} (h : cd_21.lookup pc = some x) : jcode 21 pc = some x := h
theorem hh21 : jhh 21 = [] := rfl
theorem js21 : unt 15 = jcls 21 := by decide +kernel
theorem c22 (pc : Nat) {x : JI} (h : cd_22.lookup pc = some x) : jcode 22 pc = some x := h
theorem hh22 : jhh 22 = [] := rfl
theorem js22 : unt 15 = jcls 22 := by decide +kernel
theorem c23 (pc : Nat) {x : JI} (h : cd_23.lookup pc = some x) : jcode 23 pc = some x := h
theorem hh23 : jhh 23 = [] := rfl
theorem js23 : unt 15 = jcls 23 := by decide +kernel
theorem c24 (pc : Nat) {x : JI} (h : cd_24.lookup pc = some x) : jcode 24 pc = some x := h
theorem hh24 : jhh 24 = [] := rfl
theorem c25 (pc : Nat) {x : JI} (h : cd_25.lookup pc = some x) : jcode 25 pc = some x := h
theorem hh25 : jhh 25 = [] := rfl
theorem c26 (pc : Nat) {x : JI} (h : cd_26.lookup pc = some x) : jcode 26 pc = some x := h
theorem hh26 : jhh 26 = [] := rfl
theorem c27 (pc : Nat) {x : JI} (h : cd_27.lookup pc = some x) : jcode 27 pc = some x := h
theorem hh27 : jhh 27 = [] := rfl
theorem js27 : unt 3 = jcls 27 := by decide +kernel
theorem c28 (pc : Nat) {x : JI} (h : cd_28.lookup pc = some x) : jcode 28 pc = some x := h
theorem hh28 : jhh 28 = [] := rfl
theorem js28 : unt 3 = jcls 28 := by decide +kernel
theorem c29 (pc : Nat) {x : JI} (h : cd_29.lookup pc = some x) : jcode 29 pc = some x := h
theorem hh29 : jhh 29 = [] := rfl
theorem js29 : unt 3 = jcls 29 := by decide +kernel
theorem c30 (pc : Nat) {x : JI} (h : cd_30.lookup pc = some x) : jcode 30 pc = some x := h
theorem hh30 : jhh 30 = [] := rfl
theorem js30 : unt 3 = jcls 30 := by decide +kernel
theorem c31 (pc : Nat) {x : JI} (h : cd_31.lookup pc = some x) : jcode 31 pc = some x := h
theorem hh31 : jhh 31 = [] := rfl
theorem js31 : unt 6 = jcls 31 := by decide +kernel
theorem c32 (pc : Nat) {x : JI} (h : cd_32.lookup pc = some x) : jcode 32 pc = some x := h
theorem hh32 : jhh 32 = [] := rfl
theorem js32 : unt 6 = jcls 32 := by decide +kernel
theorem c33 (pc : Nat) {x : JI} (h : cd_33.lookup pc = some x) : jcode 33 pc = some x := h
theorem hh33 : jhh 33 = [] := rfl
theorem js33 : unt 6 = jcls 33 := by decide +kernel
theorem c34 (pc : Nat) {x : JI} (h : cd_34.lookup pc = some x) : jcode 34 pc = some x := h
theorem hh34 : jhh 34 = [] := rfl
theorem js34 : unt 6 = jcls 34 := by decide +kernel
theorem c35 (pc : Nat) {x : JI} (h : cd_35.lookup pc = some x) : jcode 35 pc = some x := h
theorem hh35 : jhh 35 = [] := rfl
theorem js35 : unt 3 = jcls 35 := by decide +kernel
theorem c36 (pc : Nat) {x : JI} (h : cd_36.lookup pc = some x) : jcode 36 pc = some x := h
theorem hh36 : jhh 36 = [] := rfl
theorem js36 : unt 3 = jcls 36 := by decide +kernel
theorem c37 (pc : Nat) {x : JI} (h : cd_37.lookup pc = some x) : jcode 37 pc = some x := h
theorem hh37 : jhh 37 = [] := rfl
theorem js37 : unt 6 = jcls 37 := by decide +kernel
theorem c38 (pc : Nat) {x : JI} (h : cd_38.lookup pc = some x) : jcode 38 pc = some x := h
theorem hh38 : jhh 38 = [] := rfl
theorem js38 : unt 3 = jcls 38 := by decide +kernel
theorem c39 (pc : Nat) {x : JI} (h : cd_39.lookup pc = some x) : jcode 39 pc = some x := h
theorem hh39 : jhh 39 = [] := rfl
theorem js39 : unt 7 = jcls 39 := by decide +kernel
theorem c40 (pc : Nat) {x : JI} (h : cd_40.lookup pc = some x) : jcode 40 pc = some x := h
theorem hh40 : jhh 40 = [] := rfl
theorem js40 : unt 3 = jcls 40 := by decide +kernel
theorem c41 (pc : Nat) {x : JI} (h : cd_41.lookup pc = some x) : jcode 41 pc = some x := h
theorem hh41 : jhh 41 = [] := rfl
theorem js41 : unt 8 = jcls 41 := by decide +kernel
theorem c42 (pc : Nat) {x : JI} (h : cd_42.lookup pc = some x) : jcode 42 pc = some x := h
theorem hh42 : jhh 42 = [] := rfl
theorem js42 : unt 3 = jcls 42 := by decide +kernel
theorem c43 (pc : Nat) {x : JI} (h : cd_43.lookup pc = some x) : jcode 43 pc = some x := h
theorem hh43 : jhh 43 = [] := rfl
theorem js43 : unt 3 = jcls 43 := by decide +kernel
theorem c44 (pc : Nat) {x : JI} (h : cd_44.lookup pc = some x) : jcode 44 pc = some x := h
theorem hh44 : jhh 44 = [] := rfl
theorem c45 (pc : Nat) {x : JI} (h : cd_45.lookup pc = some x) : jcode 45 pc = some x := h
theorem hh45 : jhh 45 = [] := rfl
theorem js45 : unt 8 = jcls 45 := by decide +kernel
theorem c46 (pc : Nat) {x : JI} (h : cd_46.lookup pc = some x) : jcode 46 pc = some x := h
theorem hh46 : jhh 46 = [] := rfl
theorem js46 : unt 8 = jcls 46 := by decide +kernel
theorem c47 (pc : Nat) {x : JI} (h : cd_47.lookup pc = some x) : jcode 47 pc = some x := h
theorem hh47 : jhh 47 = [] := rfl
theorem js47 : unt 3 = jcls 47 := by decide +kernel
theorem c48 (pc : Nat) {x : JI} (h : cd_48.lookup pc = some x) : jcode 48 pc = some x := h
theorem hh48 : jhh 48 = [] := rfl
theorem js48 : unt 6 = jcls 48 := by decide +kernel
theorem c49 (pc : Nat) {x : JI} (h : cd_49.lookup pc = some x) : jcode 49 pc = some x := h
theorem hh49 : jhh 49 = [] := rfl
theorem c50 (pc : Nat) {x : JI} (h : cd_50.lookup pc = some x) : jcode 50 pc = some x := h
theorem hh50 : jhh 50 = [] := rfl
theorem js50 : unt 8 = jcls 50 := by decide +kernel
theorem c51 (pc : Nat) {x : JI} (h : cd_51.lookup pc = some x) : jcode 51 pc = some x := h
theorem hh51 : jhh 51 = [] := rfl
theorem c52 (pc : Nat) {x : JI} (h : cd_52.lookup pc = some x) : jcode 52 pc = some x := h
theorem hh52 : jhh 52 = [] := rfl
theorem js52 : unt 3 = jcls 52 := by decide +kernel
theorem c53 (pc : Nat) {x : JI} (h : cd_53.lookup pc = some x) : jcode 53 pc = some x := h
theorem hh53 : jhh 53 = [] := rfl
theorem js53 : unt 3 = jcls 53 := by decide +kernel
theorem c54 (pc : Nat) {x : JI} (h : cd_54.lookup pc = some x) : jcode 54 pc = some x := h
theorem hh54 : jhh 54 = [] := rfl
theorem js54 : unt 7 = jcls 54 := by decide +kernel
theorem c55 (pc : Nat) {x : JI} (h : cd_55.lookup pc = some x) : jcode 55 pc = some x := h
theorem hh55 : jhh 55 = [] := rfl
theorem js55 : unt 3 = jcls 55 := by decide +kernel
theorem c56 (pc : Nat) {x : JI} (h : cd_56.lookup pc = some x) : jcode 56 pc = some x := h
theorem hh56 : jhh 56 = [] := rfl
theorem js56 : unt 7 = jcls 56 := by decide +kernel
theorem c57 (pc : Nat) {x : JI} (h : cd_57.lookup pc = some x) : jcode 57 pc = some x := h
theorem hh57 : jhh 57 = [] := rfl
theorem js57 : unt 8 = jcls 57 := by decide +kernel
theorem c58 (pc : Nat) {x : JI} (h : cd_58.lookup pc = some x) : jcode 58 pc = some x := h
theorem hh58 : jhh 58 = [] := rfl
theorem js58 : unt 3 = jcls 58 := by decide +kernel
theorem c59 (pc : Nat) {x : JI} (h : cd_59.lookup pc = some x) : jcode 59 pc = some x := h
theorem hh59 : jhh 59 = [] := rfl
theorem js59 : unt 5 = jcls 59 := by decide +kernel
theorem c60 (pc : Nat) {x : JI} (h : cd_60.lookup pc = some x) : jcode 60 pc = some x := h
theorem hh60 : jhh 60 = [] := rfl
theorem js60 : unt 5 = jcls 60 := by decide +kernel
theorem c61 (pc : Nat) {x : JI} (h : cd_61.lookup pc = some x) : jcode 61 pc = some x := h
theorem hh61 : jhh 61 = [] := rfl
theorem js61 : unt 3 = jcls 61 := by decide +kernel
theorem c62 (pc : Nat) {x : JI} (h : cd_62.lookup pc = some x) : jcode 62 pc = some x := h
theorem hh62 : jhh 62 = [] := rfl
theorem js62 : unt 4 = jcls 62 := by decide +kernel
theorem c63 (pc : Nat) {x : JI} (h : cd_63.lookup pc = some x) : jcode 63 pc = some x := h
theorem hh63 : jhh 63 = [] := rfl
theorem js63 : unt 4 = jcls 63 := by decide +kernel
theorem c64 (pc : Nat) {x : JI} (h : cd_64.lookup pc = some x) : jcode 64 pc = some x := h
theorem hh64 : jhh 64 = [] := rfl
theorem js64 : unt 4 = jcls 64 := by decide +kernel
theorem c65 (pc : Nat) {x : JI} (h : cd_65.lookup pc = some x) : jcode 65 pc = some x := h
theorem hh65 : jhh 65 = [] := rfl
theorem js65 : unt 4 = jcls 65 := by decide +kernel
theorem c66 (pc : Nat) {x : JI} (h : cd_66.lookup pc = some x) : jcode 66 pc = some x := h
theorem hh66 : jhh 66 = [] := rfl
theorem c67 (pc : Nat) {x : JI} (h : cd_67.lookup pc = some x) : jcode 67 pc = some x := h
theorem hh67 : jhh 67 = [] := rfl
theorem js67 : unt 8 = jcls 67 := by decide +kernel
theorem c68 (pc : Nat) {x : JI} (h : cd_68.lookup pc = some x) : jcode 68 pc = some x := h
theorem hh68 : jhh 68 = [] := rfl
theorem js68 : unt 8 = jcls 68 := by decide +kernel
theorem c69 (pc : Nat) {x : JI} (h : cd_69.lookup pc = some x) : jcode 69 pc = some x := h
theorem hh69 : jhh 69 = [] := rfl
theorem js69 : unt 4 = jcls 69 := by decide +kernel
theorem c70 (pc : Nat) {x : JI} (h : cd_70.lookup pc = some x) : jcode 70 pc = some x := h
theorem hh70 : jhh 70 = [] := rfl
theorem js70 : unt 4 = jcls 70 := by decide +kernel
theorem c71 (pc : Nat) {x : JI} (h : cd_71.lookup pc = some x) : jcode 71 pc = some x := h
theorem hh71 : jhh 71 = [] := rfl
theorem js71 : unt 8 = jcls 71 := by decide +kernel
theorem c72 (pc : Nat) {x : JI} (h : cd_72.lookup pc = some x) : jcode 72 pc = some x := h
theorem hh72 : jhh 72 = [] := rfl
theorem c73 (pc : Nat) {x : JI} (h : cd_73.lookup pc = some x) : jcode 73 pc = some x := h
theorem hh73 : jhh 73 = [] := rfl
theorem js73 : unt 6 = jcls 73 := by decide +kernel
theorem c74 (pc : Nat) {x : JI} (h : cd_74.lookup pc = some x) : jcode 74 pc = some x := h
theorem hh74 : jhh 74 = [] := rfl
theorem js74 : unt 10 = jcls 74 := by decide +kernel
theorem c75 (pc : Nat) {x : JI} (h : cd_75.lookup pc = some x) : jcode 75 pc = some x := h
theorem hh75 : jhh 75 = [] := rfl
theorem js75 : unt 7 = jcls 75 := by decide +kernel
theorem c76 (pc : Nat) {x : JI} (h : cd_76.lookup pc = some x) : jcode 76 pc = some x := h
theorem hh76 : jhh 76 = [] := rfl
theorem js76 : unt 5 = jcls 76 := by decide +kernel
theorem c77 (pc : Nat) {x : JI} (h : cd_77.lookup pc = some x) : jcode 77 pc = some x := h
theorem hh77 : jhh 77 = [] := rfl
theorem js77 : unt 10 = jcls 77 := by decide +kernel
theorem c78 (pc : Nat) {x : JI} (h : cd_78.lookup pc = some x) : jcode 78 pc = some x := h
theorem hh78 : jhh 78 = [] := rfl
theorem js78 : unt 10 = jcls 78 := by decide +kernel
theorem c79 (pc : Nat) {x : JI} (h : cd_79.lookup pc = some x) : jcode 79 pc = some x := h
theorem hh79 : jhh 79 = [] := rfl
theorem js79 : unt 10 = jcls 79 := by decide +kernel
theorem c80 (pc : Nat) {x : JI} (h : cd_80.lookup pc = some x) : jcode 80 pc = some x := h
theorem hh80 : jhh 80 = [] := rfl
theorem js80 : unt 10 = jcls 80 := by decide +kernel
theorem c81 (pc : Nat) {x : JI} (h : cd_81.lookup pc = some x) : jcode 81 pc = some x := h
theorem hh81 : jhh 81 = [] := rfl
theorem js81 : unt 10 = jcls 81 := by decide +kernel
theorem c82 (pc : Nat) {x : JI} (h : cd_82.lookup pc = some x) : jcode 82 pc = some x := h
theorem hh82 : jhh 82 = [] := rfl
theorem js82 : unt 10 = jcls 82 := by decide +kernel
theorem c83 (pc : Nat) {x : JI} (h : cd_83.lookup pc = some x) : jcode 83 pc = some x := h
theorem hh83 : jhh 83 = [] := rfl
theorem js83 : unt 10 = jcls 83 := by decide +kernel
theorem c84 (pc : Nat) {x : JI} (h : cd_84.lookup pc = some x) : jcode 84 pc = some x := h
theorem hh84 : jhh 84 = [] := rfl
theorem js84 : unt 10 = jcls 84 := by decide +kernel
theorem c85 (pc : Nat) {x : JI} (h : cd_85.lookup pc = some x) : jcode 85 pc = some x := h
theorem hh85 : jhh 85 = [] := rfl
theorem js85 : unt 10 = jcls 85 := by decide +kernel
theorem c86 (pc : Nat) {x : JI} (h : cd_86.lookup pc = some x) : jcode 86 pc = some x := h
theorem hh86 : jhh 86 = [] := rfl
theorem js86 : unt 10 = jcls 86 := by decide +kernel
theorem c87 (pc : Nat) {x : JI} (h : cd_87.lookup pc = some x) : jcode 87 pc = some x := h
theorem hh87 : jhh 87 = [] := rfl
theorem js87 : unt 10 = jcls 87 := by decide +kernel
theorem c88 (pc : Nat) {x : JI} (h : cd_88.lookup pc = some x) : jcode 88 pc = some x := h
theorem hh88 : jhh 88 = [] := rfl
theorem js88 : unt 10 = jcls 88 := by decide +kernel
theorem c89 (pc : Nat) {x : JI} (h : cd_89.lookup pc = some x) : jcode 89 pc = some x := h
theorem hh89 : jhh 89 = [] := rfl
theorem js89 : unt 4 = jcls 89 := by decide +kernel
theorem c90 (pc : Nat) {x : JI} (h : cd_90.lookup pc = some x) : jcode 90 pc = some x := h
theorem hh90 : jhh 90 = [] := rfl
theorem js90 : unt 10 = jcls 90 := by decide +kernel
theorem c91 (pc : Nat) {x : JI} (h : cd_91.lookup pc = some x) : jcode 91 pc = some x := h
theorem hh91 : jhh 91 = [] := rfl
theorem js91 : unt 10 = jcls 91 := by decide +kernel
theorem c92 (pc : Nat) {x : JI} (h : cd_92.lookup pc = some x) : jcode 92 pc = some x := h
theorem hh92 : jhh 92 = [] := rfl
theorem js92 : unt 10 = jcls 92 := by decide +kernel
theorem c93 (pc : Nat) {x : JI} (h : cd_93.lookup pc = some x) : jcode 93 pc = some x := h
theorem hh93 : jhh 93 = [] := rfl
theorem js93 : unt 10 = jcls 93 := by decide +kernel
theorem c94 (pc : Nat) {x : JI} (h : cd_94.lookup pc = some x) : jcode 94 pc = some x := h
theorem hh94 : jhh 94 = [] := rfl
theorem js94 : unt 4 = jcls 94 := by decide +kernel
theorem c95 (pc : Nat) {x : JI} (h : cd_95.lookup pc = some x) : jcode 95 pc = some x := h
theorem hh95 : jhh 95 = [] := rfl
theorem js95 : unt 10 = jcls 95 := by decide +kernel
theorem c96 (pc : Nat) {x : JI} (h : cd_96.lookup pc = some x) : jcode 96 pc = some x := h
theorem hh96 : jhh 96 = [] := rfl
theorem js96 : unt 10 = jcls 96 := by decide +kernel
theorem c97 (pc : Nat) {x : JI} (h : cd_97.lookup pc = some x) : jcode 97 pc = some x := h
theorem hh97 : jhh 97 = [] := rfl
theorem js97 : unt 10 = jcls 97 := by decide +kernel
theorem c98 (pc : Nat) {x : JI} (h : cd_98.lookup pc = some x) : jcode 98 pc = some x := h
theorem hh98 : jhh 98 = [] := rfl
theorem js98 : unt 2 = jcls 98 := by decide +kernel
theorem c99 (pc : Nat) {x : JI} (h : cd_99.lookup pc = some x) : jcode 99 pc = some x := h
theorem hh99 : jhh 99 = [] := rfl
theorem js99 : unt 2 = jcls 99 := by decide +kernel
theorem c100 (pc : Nat) {x : JI} (h : cd_100.lookup pc = some x) : jcode 100 pc = some x := h
theorem hh100 : jhh 100 = [] := rfl
theorem js100 : unt 2 = jcls 100 := by decide +kernel
theorem c101 (pc : Nat) {x : JI} (h : cd_101.lookup pc = some x) : jcode 101 pc = some x := h
theorem hh101 : jhh 101 = [] := rfl
theorem js101 : unt 9 = jcls 101 := by decide +kernel
theorem c102 (pc : Nat) {x : JI} (h : cd_102.lookup pc = some x) : jcode 102 pc = some x := h
theorem hh102 : jhh 102 = [] := rfl
theorem js102 : unt 9 = jcls 102 := by decide +kernel
theorem c103 (pc : Nat) {x : JI} (h : cd_103.lookup pc = some x) : jcode 103 pc = some x := h
theorem hh103 : jhh 103 = [] := rfl
theorem js103 : unt 9 = jcls 103 := by decide +kernel
theorem c104 (pc : Nat) {x : JI} (h : cd_104.lookup pc = some x) : jcode 104 pc = some x := h
theorem hh104 : jhh 104 = [] := rfl
theorem js104 : unt 9 = jcls 104 := by decide +kernel
theorem c105 (pc : Nat) {x : JI} (h : cd_105.lookup pc = some x) : jcode 105 pc = some x := h
theorem hh105 : jhh 105 = [] := rfl
theorem js105 : unt 9 = jcls 105 := by decide +kernel
theorem c106 (pc : Nat) {x : JI} (h : cd_106.lookup pc = some x) : jcode 106 pc = some x := h
theorem hh106 : jhh 106 = [] := rfl
theorem js106 : unt 9 = jcls 106 := by decide +kernel
theorem c107 (pc : Nat) {x : JI} (h : cd_107.lookup pc = some x) : jcode 107 pc = some x := h
theorem hh107 : jhh 107 = [] := rfl
theorem js107 : unt 9 = jcls 107 := by decide +kernel
theorem c108 (pc : Nat) {x : JI} (h : cd_108.lookup pc = some x) : jcode 108 pc = some x := h
theorem hh108 : jhh 108 = [] := rfl
theorem js108 : unt 9 = jcls 108 := by decide +kernel
theorem c109 (pc : Nat) {x : JI} (h : cd_109.lookup pc = some x) : jcode 109 pc = some x := h
theorem hh109 : jhh 109 = [] := rfl
theorem js109 : unt 9 = jcls 109 := by decide +kernel
theorem c110 (pc : Nat) {x : JI} (h : cd_110.lookup pc = some x) : jcode 110 pc = some x := h
theorem hh110 : jhh 110 = [] := rfl
theorem js110 : unt 9 = jcls 110 := by decide +kernel
theorem c111 (pc : Nat) {x : JI} (h : cd_111.lookup pc = some x) : jcode 111 pc = some x := h
theorem hh111 : jhh 111 = [] := rfl
theorem js111 : unt 9 = jcls 111 := by decide +kernel
theorem c112 (pc : Nat) {x : JI} (h : cd_112.lookup pc = some x) : jcode 112 pc = some x := h
theorem hh112 : jhh 112 = [] := rfl
theorem js112 : unt 9 = jcls 112 := by decide +kernel
theorem c113 (pc : Nat) {x : JI} (h : cd_113.lookup pc = some x) : jcode 113 pc = some x := h
theorem hh113 : jhh 113 = [] := rfl
theorem js113 : unt 9 = jcls 113 := by decide +kernel
theorem c114 (pc : Nat) {x : JI} (h : cd_114.lookup pc = some x) : jcode 114 pc = some x := h
theorem hh114 : jhh 114 = [] := rfl
theorem js114 : unt 9 = jcls 114 := by decide +kernel
theorem c115 (pc : Nat) {x : JI} (h : cd_115.lookup pc = some x) : jcode 115 pc = some x := h
theorem hh115 : jhh 115 = [] := rfl
theorem js115 : unt 9 = jcls 115 := by decide +kernel
theorem c116 (pc : Nat) {x : JI} (h : cd_116.lookup pc = some x) : jcode 116 pc = some x := h
theorem hh116 : jhh 116 = [] := rfl
theorem js116 : unt 9 = jcls 116 := by decide +kernel
theorem c117 (pc : Nat) {x : JI} (h : cd_117.lookup pc = some x) : jcode 117 pc = some x := h
theorem hh117 : jhh 117 = [] := rfl
theorem js117 : unt 2 = jcls 117 := by decide +kernel
theorem c118 (pc : Nat) {x : JI} (h : cd_118.lookup pc = some x) : jcode 118 pc = some x := h
theorem hh118 : jhh 118 = [] := rfl
theorem js118 : unt 2 = jcls 118 := by decide +kernel
theorem c119 (pc : Nat) {x : JI} (h : cd_119.lookup pc = some x) : jcode 119 pc = some x := h
theorem hh119 : jhh 119 = [] := rfl
theorem js119 : unt 9 = jcls 119 := by decide +kernel
theorem c120 (pc : Nat) {x : JI} (h : cd_120.lookup pc = some x) : jcode 120 pc = some x := h
theorem hh120 : jhh 120 = [] := rfl
theorem js120 : unt 9 = jcls 120 := by decide +kernel
theorem c121 (pc : Nat) {x : JI} (h : cd_121.lookup pc = some x) : jcode 121 pc = some x := h
theorem hh121 : jhh 121 = [] := rfl
theorem js121 : unt 2 = jcls 121 := by decide +kernel
theorem c122 (pc : Nat) {x : JI} (h : cd_122.lookup pc = some x) : jcode 122 pc = some x := h
theorem hh122 : jhh 122 = [] := rfl
theorem c123 (pc : Nat) {x : JI} (h : cd_123.lookup pc = some x) : jcode 123 pc = some x := h
theorem hh123 : jhh 123 = [] := rfl
theorem js123 : unt 8 = jcls 123 := by decide +kernel
theorem c124 (pc : Nat) {x : JI} (h : cd_124.lookup pc = some x) : jcode 124 pc = some x := h
theorem hh124 : jhh 124 = [] := rfl
theorem js124 : unt 2 = jcls 124 := by decide +kernel
theorem c125 (pc : Nat) {x : JI} (h : cd_125.lookup pc = some x) : jcode 125 pc = some x := h
theorem hh125 : jhh 125 = [] := rfl
theorem js125 : unt 10 = jcls 125 := by decide +kernel
theorem c126 (pc : Nat) {x : JI} (h : cd_126.lookup pc = some x) : jcode 126 pc = some x := h
theorem hh126 : jhh 126 = [] := rfl
theorem js126 : unt 2 = jcls 126 := by decide +kernel
theorem c127 (pc : Nat) {x : JI} (h : cd_127.lookup pc = some x) : jcode 127 pc = some x := h
theorem hh127 : jhh 127 = [] := rfl
theorem js127 : unt 4 = jcls 127 := by decide +kernel
theorem c128 (pc : Nat) {x : JI} (h : cd_128.lookup pc = some x) : jcode 128 pc = some x := h
theorem hh128 : jhh 128 = [] := rfl
theorem js128 : unt 8 = jcls 128 := by decide +kernel
theorem c129 (pc : Nat) {x : JI} (h : cd_129.lookup pc = some x) : jcode 129 pc = some x := h
theorem hh129 : jhh 129 = [] := rfl
theorem js129 : unt 10 = jcls 129 := by decide +kernel
theorem c130 (pc : Nat) {x : JI} (h : cd_130.lookup pc = some x) : jcode 130 pc = some x := h
theorem hh130 : jhh 130 = [] := rfl
theorem js130 : unt 10 = jcls 130 := by decide +kernel
theorem c131 (pc : Nat) {x : JI} (h : cd_131.lookup pc = some x) : jcode 131 pc = some x := h
theorem hh131 : jhh 131 = [] := rfl
theorem js131 : unt 10 = jcls 131 := by decide +kernel
theorem c132 (pc : Nat) {x : JI} (h : cd_132.lookup pc = some x) : jcode 132 pc = some x := h
theorem hh132 : jhh 132 = [] := rfl
theorem js132 : unt 0 = jcls 132 := by decide +kernel
theorem c133 (pc : Nat) {x : JI} (h : cd_133.lookup pc = some x) : jcode 133 pc = some x := h
theorem hh133 : jhh 133 = [] := rfl
theorem js133 : unt 0 = jcls 133 := by decide +kernel
theorem c134 (pc : Nat) {x : JI} (h : cd_134.lookup pc = some x) : jcode 134 pc = some x := h
theorem hh134 : jhh 134 = [] := rfl
theorem js134 : unt 10 = jcls 134 := by decide +kernel
theorem c135 (pc : Nat) {x : JI} (h : cd_135.lookup pc = some x) : jcode 135 pc = some x := h
theorem hh135 : jhh 135 = [] := rfl
theorem js135 : unt 10 = jcls 135 := by decide +kernel
theorem c136 (pc : Nat) {x : JI} (h : cd_136.lookup pc = some x) : jcode 136 pc = some x := h
theorem hh136 : jhh 136 = [] := rfl
theorem js136 : unt 10 = jcls 136 := by decide +kernel
theorem c137 (pc : Nat) {x : JI} (h : cd_137.lookup pc = some x) : jcode 137 pc = some x := h
theorem hh137 : jhh 137 = [] := rfl
theorem js137 : unt 10 = jcls 137 := by decide +kernel
theorem c138 (pc : Nat) {x : JI} (h : cd_138.lookup pc = some x) : jcode 138 pc = some x := h
theorem hh138 : jhh 138 = [] := rfl
theorem js138 : unt 10 = jcls 138 := by decide +kernel
theorem c139 (pc : Nat) {x : JI} (h : cd_139.lookup pc = some x) : jcode 139 pc = some x := h
theorem hh139 : jhh 139 = [] := rfl
theorem js139 : unt 5 = jcls 139 := by decide +kernel
theorem c140 (pc : Nat) {x : JI} (h : cd_140.lookup pc = some x) : jcode 140 pc = some x := h
theorem hh140 : jhh 140 = [] := rfl
theorem js140 : unt 10 = jcls 140 := by decide +kernel
theorem c141 (pc : Nat) {x : JI} (h : cd_141.lookup pc = some x) : jcode 141 pc = some x := h
theorem hh141 : jhh 141 = [] := rfl
theorem js141 : unt 7 = jcls 141 := by decide +kernel
theorem c142 (pc : Nat) {x : JI} (h : cd_142.lookup pc = some x) : jcode 142 pc = some x := h
theorem hh142 : jhh 142 = [] := rfl
theorem js142 : unt 10 = jcls 142 := by decide +kernel
theorem c143 (pc : Nat) {x : JI} (h : cd_143.lookup pc = some x) : jcode 143 pc = some x := h
theorem hh143 : jhh 143 = [] := rfl
theorem js143 : unt 0 = jcls 143 := by decide +kernel
theorem c144 (pc : Nat) {x : JI} (h : cd_144.lookup pc = some x) : jcode 144 pc = some x := h
theorem hh144 : jhh 144 = [] := rfl
theorem js144 : unt 10 = jcls 144 := by decide +kernel
theorem c145 (pc : Nat) {x : JI} (h : cd_145.lookup pc = some x) : jcode 145 pc = some x := h
theorem hh145 : jhh 145 = [] := rfl
theorem js145 : unt 10 = jcls 145 := by decide +kernel
theorem c146 (pc : Nat) {x : JI} (h : cd_146.lookup pc = some x) : jcode 146 pc = some x := h
theorem hh146 : jhh 146 = [] := rfl
theorem js146 : unt 10 = jcls 146 := by decide +kernel
theorem c147 (pc : Nat) {x : JI} (h : cd_147.lookup pc = some x) : jcode 147 pc = some x := h
theorem hh147 : jhh 147 = [] := rfl
theorem c148 (pc : Nat) {x : JI} (h : cd_148.lookup pc = some x) : jcode 148 pc = some x := h
theorem hh148 : jhh 148 = [] := rfl
theorem c149 (pc : Nat) {x : JI} (h : cd_149.lookup pc = some x) : jcode 149 pc = some x := h
theorem hh149 : jhh 149 = [] := rfl
theorem js149 : unt 12 = jcls 149 := by decide +kernel
theorem c150 (pc : Nat) {x : JI} (h : cd_150.lookup pc = some x) : jcode 150 pc = some x := h
theorem hh150 : jhh 150 = [] := rfl
theorem js150 : unt 13 = jcls 150 := by decide +kernel
theorem c151 (pc : Nat) {x : JI} (h : cd_151.lookup pc = some x) : jcode 151 pc = some x := h
theorem hh151 : jhh 151 = [] := rfl
theorem c152 (pc : Nat) {x : JI} (h : cd_152.lookup pc = some x) : jcode 152 pc = some x := h
theorem hh152 : jhh 152 = [] := rfl
theorem c153 (pc : Nat) {x : JI} (h : cd_153.lookup pc = some x) : jcode 153 pc = some x := h
theorem hh153 : jhh 153 = [] := rfl
theorem c154 (pc : Nat) {x : JI} (h : cd_154.lookup pc = some x) : jcode 154 pc = some x := h
theorem hh154 : jhh 154 = [] := rfl
theorem c155 (pc : Nat) {x : JI} (h : cd_155.lookup pc = some x) : jcode 155 pc = some x := h
theorem hh155 : jhh 155 = [] := rfl
theorem c156 (pc : Nat) {x : JI} (h : cd_156.lookup pc = some x) : jcode 156 pc = some x := h
theorem hh156 : jhh 156 = [] := rfl
theorem c157 (pc : Nat) {x : JI} (h : cd_157.lookup pc = some x) : jcode 157 pc = some x := h
theorem hh157 : jhh 157 = [] := rfl
theorem c158 (pc : Nat) {x : JI} (h : cd_158.lookup pc = some x) : jcode 158 pc = some x := h
theorem hh158 : jhh 158 = [] := rfl
theorem js158 : unt 11 = jcls 158 := by decide +kernel
theorem c159 (pc : Nat) {x : JI} (h : cd_159.lookup pc = some x) : jcode 159 pc = some x := h
theorem hh159 : jhh 159 = [] := rfl
theorem c160 (pc : Nat) {x : JI} (h : cd_160.lookup pc = some x) : jcode 160 pc = some x := h
theorem hh160 : jhh 160 = [] := rfl
theorem c161 (pc : Nat) {x : JI} (h : cd_161.lookup pc = some x) : jcode 161 pc = some x := h
theorem hh161 : jhh 161 = [] := rfl
theorem c162 (pc : Nat) {x : JI} (h : cd_162.lookup pc = some x) : jcode 162 pc = some x := h
theorem hh162 : jhh 162 = [] := rfl
theorem c163 (pc : Nat) {x : JI} (h : cd_163.lookup pc = some x) : jcode 163 pc = some x := h
theorem hh163 : jhh 163 = [] := rfl
theorem c164 (pc : Nat) {x : JI} (h : cd_164.lookup pc = some x) : jcode 164 pc = some x := h
theorem hh164 : jhh 164 = [] := rfl
theorem c165 (pc : Nat) {x : JI} (h : cd_165.lookup pc = some x) : jcode 165 pc = some x := h
theorem hh165 : jhh 165 = [] := rfl
theorem c166 (pc : Nat) {x : JI} (h : cd_166.lookup pc = some x) : jcode 166 pc = some x := h
theorem hh166 : jhh 166 = [] := rfl
theorem c167 (pc : Nat) {x : JI} (h : cd_167.lookup pc = some x) : jcode 167 pc = some x := h
theorem hh167 : jhh 167 = [] := rfl
theorem c168 (pc : Nat) {x : JI} (h : cd_168.lookup pc = some x) : jcode 168 pc = some x := h
theorem hh168 : jhh 168 = [] := rfl
theorem c169 (pc : Nat) {x : JI} (h : cd_169.lookup pc = some x) : jcode 169 pc = some x := h
theorem hh169 : jhh 169 = [] := rfl
theorem js169 : unt 13 = jcls 169 := by decide +kernel
theorem c170 (pc : Nat) {x : JI} (h : cd_170.lookup pc = some x) : jcode 170 pc = some x := h
theorem hh170 : jhh 170 = [] := rfl
theorem js170 : unt 13 = jcls 170 := by decide +kernel
theorem c171 (pc : Nat) {x : JI} (h : cd_171.lookup pc = some x) : jcode 171 pc = some x := h
theorem hh171 : jhh 171 = [] := rfl
theorem js171 : unt 13 = jcls 171 := by decide +kernel
theorem c172 (pc : Nat) {x : JI} (h : cd_172.lookup pc = some x) : jcode 172 pc = some x := h
theorem hh172 : jhh 172 = [] := rfl
theorem js172 : unt 13 = jcls 172 := by decide +kernel
theorem c173 (pc : Nat) {x : JI} (h : cd_173.lookup pc = some x) : jcode 173 pc = some x := h
theorem hh173 : jhh 173 = [] := rfl
theorem c174 (pc : Nat) {x : JI} (h : cd_174.lookup pc = some x) : jcode 174 pc = some x := h
theorem hh174 : jhh 174 = [] := rfl
theorem c175 (pc : Nat) {x : JI} (h : cd_175.lookup pc = some x) : jcode 175 pc = some x := h
theorem hh175 : jhh 175 = [] := rfl
theorem js175 : unt 14 = jcls 175 := by decide +kernel
theorem c176 (pc : Nat) {x : JI} (h : cd_176.lookup pc = some x) : jcode 176 pc = some x := h
theorem hh176 : jhh 176 = [] := rfl
theorem c177 (pc : Nat) {x : JI} (h : cd_177.lookup pc = some x) : jcode 177 pc = some x := h
theorem hh177 : jhh 177 = [] := rfl
theorem js177 : unt 14 = jcls 177 := by decide +kernel
theorem c178 (pc : Nat) {x : JI} (h : cd_178.lookup pc = some x) : jcode 178 pc = some x := h
theorem hh178 : jhh 178 = [] := rfl
theorem js178 : unt 14 = jcls 178 := by decide +kernel
theorem c179 (pc : Nat) {x : JI} (h : cd_179.lookup pc = some x) : jcode 179 pc = some x := h
theorem hh179 : jhh 179 = [] := rfl
theorem c180 (pc : Nat) {x : JI} (h : cd_180.lookup pc = some x) : jcode 180 pc = some x := h
theorem hh180 : jhh 180 = [] := rfl
theorem c181 (pc : Nat) {x : JI} (h : cd_181.lookup pc = some x) : jcode 181 pc = some x := h
theorem hh181 : jhh 181 = [] := rfl
theorem c182 (pc : Nat) {x : JI} (h : cd_182.lookup pc = some x) : jcode 182 pc = some x := h
theorem hh182 : jhh 182 = [] := rfl
theorem c183 (pc : Nat) {x : JI} (h : cd_183.lookup pc = some x) : jcode 183 pc = some x := h
theorem hh183 : jhh 183 = [] := rfl
theorem c184 (pc : Nat) {x : JI} (h : cd_184.lookup pc = some x) : jcode 184 pc = some x := h
theorem hh184 : jhh 184 = [] := rfl
theorem c185 (pc : Nat) {x : JI} (h : cd_185.lookup pc = some x) : jcode 185 pc = some x := h
theorem hh185 : jhh 185 = [] := rfl
theorem c186 (pc : Nat) {x : JI} (h : cd_186.lookup pc = some x) : jcode 186 pc = some x := h
theorem hh186 : jhh 186 = [] := rfl
theorem js186 : unt 15 = jcls 186 := by decide +kernel
theorem c187 (pc : Nat) {x : JI} (h : cd_187.lookup pc = some x) : jcode 187 pc = some x := h
theorem hh187 : jhh 187 = [] := rfl
theorem js187 : unt 13 = jcls 187 := by decide +kernel
theorem c188 (pc : Nat) {x : JI} (h : cd_188.lookup pc = some x) : jcode 188 pc = some x := h
theorem hh188 : jhh 188 = [] := rfl
theorem js188 : unt 13 = jcls 188 := by decide +kernel
theorem c189 (pc : Nat) {x : JI} (h : cd_189.lookup pc = some x) : jcode 189 pc = some x := h
theorem hh189 : jhh 189 = [] := rfl
theorem c190 (pc : Nat) {x : JI} (h : cd_190.lookup pc = some x) : jcode 190 pc = some x := h
theorem hh190 : jhh 190 = [] := rfl
theorem js190 : unt 13 = jcls 190 := by decide +kernel
theorem c191 (pc : Nat) {x : JI} (h : cd_191.lookup pc = some x) : jcode 191 pc = some x := h
theorem hh191 : jhh 191 = [] := rfl
theorem c192 (pc : Nat) {x : JI} (h : cd_192.lookup pc = some x) : jcode 192 pc = some x := h
theorem hh192 : jhh 192 = [] := rfl
theorem c193 (pc : Nat) {x : JI} (h : cd_193.lookup pc = some x) : jcode 193 pc = some x := h
theorem hh193 : jhh 193 = [] := rfl
theorem c194 (pc : Nat) {x : JI} (h : cd_194.lookup pc = some x) : jcode 194 pc = some x := h
theorem hh194 : jhh 194 = [] := rfl
theorem c195 (pc : Nat) {x : JI} (h : cd_195.lookup pc = some x) : jcode 195 pc = some x := h
theorem hh195 : jhh 195 = [] := rfl
theorem c196 (pc : Nat) {x : JI} (h : cd_196.lookup pc = some x) : jcode 196 pc = some x := h
theorem hh196 : jhh 196 = [] := rfl
theorem js196 : unt 14 = jcls 196 := by decide +kernel
theorem c197 (pc : Nat) {x : JI} (h : cd_197.lookup pc = some x) : jcode 197 pc = some x := h
theorem hh197 : jhh 197 = [] := rfl
theorem c198 (pc : Nat) {x : JI} (h : cd_198.lookup pc = some x) : jcode 198 pc = some x := h
theorem hh198 : jhh 198 = [] := rfl
theorem c199 (pc : Nat) {x : JI} (h : cd_199.lookup pc = some x) : jcode 199 pc = some x := h
theorem hh199 : jhh 199 = [] := rfl
theorem js199 : unt 12 = jcls 199 := by decide +kernel
theorem c200 (pc : Nat) {x : JI} (h : cd_200.lookup pc = some x) : jcode 200 pc = some x := h
theorem hh200 : jhh 200 = [] := rfl
theorem js200 : unt 12 = jcls 200 := by decide +kernel
theorem c201 (pc : Nat) {x : JI} (h : cd_201.lookup pc = some x) : jcode 201 pc = some x := h
theorem hh201 : jhh 201 = [] := rfl
theorem js201 : unt 12 = jcls 201 := by decide +kernel
theorem c202 (pc : Nat) {x : JI} (h : cd_202.lookup pc = some x) : jcode 202 pc = some x := h
theorem hh202 : jhh 202 = [] := rfl
theorem js202 : unt 12 = jcls 202 := by decide +kernel
theorem c203 (pc : Nat) {x : JI} (h : cd_203.lookup pc = some x) : jcode 203 pc = some x := h
theorem hh203 : jhh 203 = [] := rfl
theorem js203 : unt 12 = jcls 203 := by decide +kernel
theorem c204 (pc : Nat) {x : JI} (h : cd_204.lookup pc = some x) : jcode 204 pc = some x := h
theorem hh204 : jhh 204 = [] := rfl
theorem c205 (pc : Nat) {x : JI} (h : cd_205.lookup pc = some x) : jcode 205 pc = some x := h
theorem hh205 : jhh 205 = [] := rfl
theorem c206 (pc : Nat) {x : JI} (h : cd_206.lookup pc = some x) : jcode 206 pc = some x := h
theorem hh206 : jhh 206 = [] := rfl
theorem c207 (pc : Nat) {x : JI} (h : cd_207.lookup pc = some x) : jcode 207 pc = some x := h
theorem hh207 : jhh 207 = [] := rfl
theorem c208 (pc : Nat) {x : JI} (h : cd_208.lookup pc = some x) : jcode 208 pc = some x := h
theorem hh208 : jhh 208 = [] := rfl
theorem c209 (pc : Nat) {x : JI} (h : cd_209.lookup pc = some x) : jcode 209 pc = some x := h
theorem hh209 : jhh 209 = [] := rfl
theorem c210 (pc : Nat) {x : JI} (h : cd_210.lookup pc = some x) : jcode 210 pc = some x := h
theorem hh210 : jhh 210 = [] := rfl
theorem c211 (pc : Nat) {x : JI} (h : cd_211.lookup pc = some x) : jcode 211 pc = some x := h
theorem hh211 : jhh 211 = [] := rfl
theorem c212 (pc : Nat) {x : JI} (h : cd_212.lookup pc = some x) : jcode 212 pc = some x := h
theorem hh212 : jhh 212 = [] := rfl
theorem js212 : unt 12 = jcls 212 := by decide +kernel
theorem c213 (pc : Nat) {x : JI} (h : cd_213.lookup pc = some x) : jcode 213 pc = some x := h
theorem hh213 : jhh 213 = [] := rfl
theorem js213 : unt 12 = jcls 213 := by decide +kernel
theorem c214 (pc : Nat) {x : JI} (h : cd_214.lookup pc = some x) : jcode 214 pc = some x := h
theorem hh214 : jhh 214 = [] := rfl
theorem c215 (pc : Nat) {x : JI} (h : cd_215.lookup pc = some x) : jcode 215 pc = some x := h
theorem hh215 : jhh 215 = [] := rfl
theorem c216 (pc : Nat) {x : JI} (h : cd_216.lookup pc = some x) : jcode 216 pc = some x := h
theorem hh216 : jhh 216 = [] := rfl
theorem c217 (pc : Nat) {x : JI} (h : cd_217.lookup pc = some x) : jcode 217 pc = some x := h
theorem hh217 : jhh 217 = [] := rfl
theorem c218 (pc : Nat) {x : JI} (h : cd_218.lookup pc = some x) : jcode 218 pc = some x := h
theorem hh218 : jhh 218 = [] := rfl
theorem c219 (pc : Nat) {x : JI} (h : cd_219.lookup pc = some x) : jcode 219 pc = some x := h
theorem hh219 : jhh 219 = [] := rfl
theorem c220 (pc : Nat) {x : JI} (h : cd_220.lookup pc = some x) : jcode 220 pc = some x := h
theorem hh220 : jhh 220 = [] := rfl
theorem c221 (pc : Nat) {x : JI} (h : cd_221.lookup pc = some x) : jcode 221 pc = some x := h
theorem hh221 : jhh 221 = [] := rfl
theorem c222 (pc : Nat) {x : JI} (h : cd_222.lookup pc = some x) : jcode 222 pc = some x := h
theorem hh222 : jhh 222 = [] := rfl
theorem c223 (pc : Nat) {x : JI} (h : cd_223.lookup pc = some x) : jcode 223 pc = some x := h
theorem hh223 : jhh 223 = [] := rfl
theorem c224 (pc : Nat) {x : JI} (h : cd_224.lookup pc = some x) : jcode 224 pc = some x := h
theorem hh224 : jhh 224 = [] := rfl
theorem c225 (pc : Nat) {x : JI} (h : cd_225.lookup pc = some x) : jcode 225 pc = some x := h
theorem hh225 : jhh 225 = [] := rfl
theorem js225 : unt 12 = jcls 225 := by decide +kernel
theorem c226 (pc : Nat) {x : JI} (h : cd_226.lookup pc = some x) : jcode 226 pc = some x := h
theorem hh226 : jhh 226 = [] := rfl
theorem c227 (pc : Nat) {x : JI} (h : cd_227.lookup pc = some x) : jcode 227 pc = some x := h
theorem hh227 : jhh 227 = [] := rfl
theorem c228 (pc : Nat) {x : JI} (h : cd_228.lookup pc = some x) : jcode 228 pc = some x := h
theorem hh228 : jhh 228 = [] := rfl
theorem c229 (pc : Nat) {x : JI} (h : cd_229.lookup pc = some x) : jcode 229 pc = some x := h
theorem hh229 : jhh 229 = [] := rfl
theorem c230 (pc : Nat) {x : JI} (h : cd_230.lookup pc = some x) : jcode 230 pc = some x := h
theorem hh230 : jhh 230 = [] := rfl
theorem c231 (pc : Nat) {x : JI} (h : cd_231.lookup pc = some x) : jcode 231 pc = some x := h
theorem hh231 : jhh 231 = [] := rfl
theorem js231 : unt 12 = jcls 231 := by decide +kernel
theorem c232 (pc : Nat) {x : JI} (h : cd_232.lookup pc = some x) : jcode 232 pc = some x := h
theorem hh232 : jhh 232 = [] := rfl
theorem c233 (pc : Nat) {x : JI} (h : cd_233.lookup pc = some x) : jcode 233 pc = some x := h
theorem hh233 : jhh 233 = [] := rfl
theorem c234 (pc : Nat) {x : JI} (h : cd_234.lookup pc = some x) : jcode 234 pc = some x := h
theorem hh234 : jhh 234 = [] := rfl
theorem c235 (pc : Nat) {x : JI} (h : cd_235.lookup pc = some x) : jcode 235 pc = some x := h
theorem hh235 : jhh 235 = [] := rfl
theorem c236 (pc : Nat) {x : JI} (h : cd_236.lookup pc = some x) : jcode 236 pc = some x := h
theorem hh236 : jhh 236 = [] := rfl
theorem c237 (pc : Nat) {x : JI} (h : cd_237.lookup pc = some x) : jcode 237 pc = some x := h
theorem hh237 : jhh 237 = [] := rfl
theorem c238 (pc : Nat) {x : JI} (h : cd_238.lookup pc = some x) : jcode 238 pc = some x := h
theorem hh238 : jhh 238 = [] := rfl
theorem c239 (pc : Nat) {x : JI} (h : cd_239.lookup pc = some x) : jcode 239 pc = some x := h
theorem hh239 : jhh 239 = [] := rfl
theorem c240 (pc : Nat) {x : JI} (h : cd_240.lookup pc = some x) : jcode 240 pc = some x := h
theorem hh240 : jhh 240 = [] := rfl
theorem c241 (pc : Nat) {x : JI} (h : cd_241.lookup pc = some x) : jcode 241 pc = some x := h
theorem hh241 : jhh 241 = [] := rfl
theorem c242 (pc : Nat) {x : JI} (h : cd_242.lookup pc = some x) : jcode 242 pc = some x := h
theorem hh242 : jhh 242 = [] := rfl
theorem js242 : unt 13 = jcls 242 := by decide +kernel
theorem c243 (pc : Nat) {x : JI} (h : cd_243.lookup pc = some x) : jcode 243 pc = some x := h
theorem hh243 : jhh 243 = [] := rfl
theorem js243 : unt 14 = jcls 243 := by decide +kernel
theorem c244 (pc : Nat) {x : JI} (h : cd_244.lookup pc = some x) : jcode 244 pc = some x := h
theorem hh244 : jhh 244 = [] := rfl
theorem js244 : unt 15 = jcls 244 := by decide +kernel
theorem c245 (pc : Nat) {x : JI} (h : cd_245.lookup pc = some x) : jcode 245 pc = some x := h
theorem hh245 : jhh 245 = [] := rfl
theorem js245 : unt 15 = jcls 245 := by decide +kernel
theorem c246 (pc : Nat) {x : JI} (h : cd_246.lookup pc = some x) : jcode 246 pc = some x := h
theorem hh246 : jhh 246 = [] := rfl
theorem c247 (pc : Nat) {x : JI} (h : cd_247.lookup pc = some x) : jcode 247 pc = some x := h
theorem hh247 : jhh 247 = [] := rfl
theorem js247 : unt 14 = jcls 247 := by decide +kernel
theorem c248 (pc : Nat) {x : JI} (h : cd_248.lookup pc = some x) : jcode 248 pc = some x := h
theorem hh248 : jhh 248 = [] := rfl
theorem c249 (pc : Nat) {x : JI} (h : cd_249.lookup pc = some x) : jcode 249 pc = some x := h
theorem hh249 : jhh 249 = [] := rfl
theorem c250 (pc : Nat) {x : JI} (h : cd_250.lookup pc = some x) : jcode 250 pc = some x := h
theorem hh250 : jhh 250 = [] := rfl
theorem c251 (pc : Nat) {x : JI} (h : cd_251.lookup pc = some x) : jcode 251 pc = some x := h
theorem hh251 : jhh 251 = [] := rfl
theorem c252 (pc : Nat) {x : JI} (h : cd_252.lookup pc = some x) : jcode 252 pc = some x := h
theorem hh252 : jhh 252 = [] := rfl
theorem c253 (pc : Nat) {x : JI} (h : cd_253.lookup pc = some x) : jcode 253 pc = some x := h
theorem hh253 : jhh 253 = [] := rfl
theorem c254 (pc : Nat) {x : JI} (h : cd_254.lookup pc = some x) : jcode 254 pc = some x := h
theorem hh254 : jhh 254 = [] := rfl
theorem c255 (pc : Nat) {x : JI} (h : cd_255.lookup pc = some x) : jcode 255 pc = some x := h
theorem hh255 : jhh 255 = [] := rfl
theorem js255 : unt 10 = jcls 255 := by decide +kernel
theorem c256 (pc : Nat) {x : JI} (h : cd_256.lookup pc = some x) : jcode 256 pc = some x := h
theorem hh256 : jhh 256 = [] := rfl
theorem js256 : unt 3 = jcls 256 := by decide +kernel
theorem c257 (pc : Nat) {x : JI} (h : cd_257.lookup pc = some x) : jcode 257 pc = some x := h
theorem hh257 : jhh 257 = [] := rfl
theorem c258 (pc : Nat) {x : JI} (h : cd_258.lookup pc = some x) : jcode 258 pc = some x := h
theorem hh258 : jhh 258 = [] := rfl
theorem c259 (pc : Nat) {x : JI} (h : cd_259.lookup pc = some x) : jcode 259 pc = some x := h
theorem hh259 : jhh 259 = [] := rfl
theorem js259 : unt 10 = jcls 259 := by decide +kernel
theorem c260 (pc : Nat) {x : JI} (h : cd_260.lookup pc = some x) : jcode 260 pc = some x := h
theorem hh260 : jhh 260 = [] := rfl
theorem js260 : unt 9 = jcls 260 := by decide +kernel
theorem c261 (pc : Nat) {x : JI} (h : cd_261.lookup pc = some x) : jcode 261 pc = some x := h
theorem hh261 : jhh 261 = [] := rfl
theorem js261 : unt 10 = jcls 261 := by decide +kernel
theorem c262 (pc : Nat) {x : JI} (h : cd_262.lookup pc = some x) : jcode 262 pc = some x := h
theorem hh262 : jhh 262 = [] := rfl
theorem js262 : unt 10 = jcls 262 := by decide +kernel
theorem c263 (pc : Nat) {x : JI} (h : cd_263.lookup pc = some x) : jcode 263 pc = some x := h
theorem hh263 : jhh 263 = [] := rfl
theorem c264 (pc : Nat) {x : JI} (h : cd_264.lookup pc = some x) : jcode 264 pc = some x := h
theorem hh264 : jhh 264 = [] := rfl
theorem js264 : unt 10 = jcls 264 := by decide +kernel
theorem c265 (pc : Nat) {x : JI} (h : cd_265.lookup pc = some x) : jcode 265 pc = some x := h
theorem hh265 : jhh 265 = [] := rfl
theorem c266 (pc : Nat) {x : JI} (h : cd_266.lookup pc = some x) : jcode 266 pc = some x := h
theorem hh266 : jhh 266 = [] := rfl
theorem js266 : unt 10 = jcls 266 := by decide +kernel
theorem c267 (pc : Nat) {x : JI} (h : cd_267.lookup pc = some x) : jcode 267 pc = some x := h
theorem hh267 : jhh 267 = [] := rfl
theorem js267 : unt 10 = jcls 267 := by decide +kernel
theorem c268 (pc : Nat) {x : JI} (h : cd_268.lookup pc = some x) : jcode 268 pc = some x := h
theorem hh268 : jhh 268 = [] := rfl
theorem js268 : unt 1 = jcls 268 := by decide +kernel
theorem c269 (pc : Nat) {x : JI} (h : cd_269.lookup pc = some x) : jcode 269 pc = some x := h
theorem hh269 : jhh 269 = [] := rfl
theorem js269 : unt 1 = jcls 269 := by decide +kernel
theorem c270 (pc : Nat) {x : JI} (h : cd_270.lookup pc = some x) : jcode 270 pc = some x := h
theorem hh270 : jhh 270 = [] := rfl
theorem js270 : unt 1 = jcls 270 := by decide +kernel
theorem c271 (pc : Nat) {x : JI} (h : cd_271.lookup pc = some x) : jcode 271 pc = some x := h
theorem hh271 : jhh 271 = [] := rfl
theorem js271 : unt 1 = jcls 271 := by decide +kernel
theorem c272 (pc : Nat) {x : JI} (h : cd_272.lookup pc = some x) : jcode 272 pc = some x := h
theorem hh272 : jhh 272 = [] := rfl
theorem js272 : unt 10 = jcls 272 := by decide +kernel
theorem c273 (pc : Nat) {x : JI} (h : cd_273.lookup pc = some x) : jcode 273 pc = some x := h
theorem hh273 : jhh 273 = [] := rfl
theorem js273 : unt 1 = jcls 273 := by decide +kernel
theorem c274 (pc : Nat) {x : JI} (h : cd_274.lookup pc = some x) : jcode 274 pc = some x := h
theorem hh274 : jhh 274 = [] := rfl
end
section
/-! WHAT THE METHODS DO, as texts over numbers (written by wip/gen/dec.py), 0 -/
def d_State_clear (v0 : Nat) (μ : Mem) (Q : Mem → Prop) : Prop := Q (mup (mup μ v0 0 0) v0 1 0)
def d_Parser_byteAt (v1 : Int) (μ : Mem) (Q : Int → Prop) : Prop := if v1 < 0 then (Q (-1)) else (if v1 < μ 72 8 then (if v1 < 500 then ((0 ≤ v1 ∧ v1 < 500) ∧ Q (μ 129 v1.toNat)) else (Q (-1))) else (Q (-1)))
def d_Parser_kindOfByte_j65 (v1 : Int) (t0 : Int) (μ : Mem) (Q : Int → Prop) : Prop := if t0 = 0 then (Q 1) else (Q v1)
def d_Parser_kindOfByte_j60 (v1 : Int) (μ : Mem) (Q : Int → Prop) : Prop := d_Parser_kindOfByte_j65 v1 1 μ Q
def d_Parser_kindOfByte_j30 (v1 : Int) (μ : Mem) (Q : Int → Prop) : Prop := if v1 = 59 then (d_Parser_kindOfByte_j60 v1 μ Q) else (if v1 = 61 then (d_Parser_kindOfByte_j60 v1 μ Q) else (if v1 = 44 then (d_Parser_kindOfByte_j60 v1 μ Q) else (if v1 = 40 then (d_Parser_kindOfByte_j60 v1 μ Q) else (if v1 = 41 then (d_Parser_kindOfByte_j60 v1 μ Q) else (d_Parser_kindOfByte_j65 v1 0 μ Q)))))
def d_Parser_kindOfByte_j15 (v1 : Int) (μ : Mem) (Q : Int → Prop) : Prop := if v1 < 48 then (d_Parser_kindOfByte_j30 v1 μ Q) else (if 57 < v1 then (d_Parser_kindOfByte_j30 v1 μ Q) else (Q 48))
def d_Parser_kindOfByte (v1 : Int) (μ : Mem) (Q : Int → Prop) : Prop := if v1 < 65 then (d_Parser_kindOfByte_j15 v1 μ Q) else (if v1 < 73 then (Q 65) else (d_Parser_kindOfByte_j15 v1 μ Q))
def d_Parser_next_j135 (t1 : Int) (μ : Mem) (Q : Mem → Prop) : Prop := Q (mup μ 72 9 t1)
def d_Parser_next_j103 (μ : Mem) (Q : Mem → Prop) : Prop := if μ 72 10 < μ 72 11 then (if 6 < wr ((μ 72 11) - (μ 72 10)) then (d_Parser_next_j135 1 μ Q) else (d_Parser_next_j135 97 μ Q)) else (if μ 72 10 < μ 72 8 then (d_Parser_byteAt (μ 72 10) μ (fun r5 => d_Parser_kindOfByte r5 μ (fun r7 => Q (mup (mup μ 72 9 r7) 72 11 (wr (((mup μ 72 9 r7) 72 10) + 1)))))) else (Q (mup μ 72 9 0)))
def d_Parser_next_b53 (μ : Mem) (W53 : Mem → Prop) (Q : Mem → Prop) : Prop := if μ 72 11 < μ 72 8 then (d_Parser_byteAt (μ 72 11) μ (fun r3 => if r3 < 97 then (d_Parser_next_j103 μ Q) else (d_Parser_byteAt (μ 72 11) μ (fun r9 => if 122 < r9 then (d_Parser_next_j103 μ Q) else (W53 (mup μ 72 11 (wr ((μ 72 11) + 1)))))))) else (d_Parser_next_j103 μ Q)
def d_Parser_next_l53 (μ : Mem) (Q : Mem → Prop) : Prop := ∀ W : Mem → Prop, (∀ (μ : Mem), d_Parser_next_b53 μ W Q → W μ) → W μ
def d_Parser_next_j45 (μ : Mem) (Q : Mem → Prop) : Prop := d_Parser_next_l53 (mup μ 72 11 (μ 72 10)) Q
def d_Parser_next_b8 (μ : Mem) (W8 : Mem → Prop) (Q : Mem → Prop) : Prop := if μ 72 10 < μ 72 8 then (d_Parser_byteAt (μ 72 10) μ (fun r1 => if r1 = 32 then (W8 (mup μ 72 10 (wr ((μ 72 10) + 1)))) else (d_Parser_next_j45 μ Q))) else (d_Parser_next_j45 μ Q)
def d_Parser_next_l8 (μ : Mem) (Q : Mem → Prop) : Prop := ∀ W : Mem → Prop, (∀ (μ : Mem), d_Parser_next_b8 μ W Q → W μ) → W μ
def d_Parser_next (μ : Mem) (Q : Mem → Prop) : Prop := d_Parser_next_l8 (mup μ 72 10 (μ 72 11)) Q
theorem i_Parser_next_l53 {Q : Mem → Prop} {Inv : Mem → Prop} (f : Mem → Nat) (hi : ∀ (μ : Mem), Inv μ → ∀ W : Mem → Prop, (∀ (μ' : Mem), Inv μ' → f μ' < f μ → W μ') → d_Parser_next_b53 μ W Q) : ∀ (μ : Mem), Inv μ → d_Parser_next_l53 μ Q := by
  intro μ hI W hW
  have key : ∀ (n : Nat) (μ : Mem), f μ = n → Inv μ → W μ := by
    intro n
    induction n using Nat.strongRecOn with
    | _ n ih =>
      intro μ hf hI
      exact hW _ (hi μ hI W fun μ' hI' hl => ih _ (by omega) μ' rfl hI')
  exact key _ μ rfl hI
theorem i_Parser_next_l8 {Q : Mem → Prop} {Inv : Mem → Prop} (f : Mem → Nat) (hi : ∀ (μ : Mem), Inv μ → ∀ W : Mem → Prop, (∀ (μ' : Mem), Inv μ' → f μ' < f μ → W μ') → d_Parser_next_b8 μ W Q) : ∀ (μ : Mem), Inv μ → d_Parser_next_l8 μ Q := by
  intro μ hI W hW
  have key : ∀ (n : Nat) (μ : Mem), f μ = n → Inv μ → W μ := by
    intro n
    induction n using Nat.strongRecOn with
    | _ n ih =>
      intro μ hf hI
      exact hW _ (hi μ hI W fun μ' hI' hl => ih _ (by omega) μ' rfl hI')
  exact key _ μ rfl hI
def d_Parser_isWord_b29 (v1 : Nat) (v2 : Int) (μ : Mem) (W29 : Int → Prop) (Q : Bool → Prop) : Prop := d_String_length v1 μ (fun r3 => if v2 < r3 then (d_Parser_byteAt (wr ((μ 72 10) + v2)) μ (fun r5 => d_String_charAt v1 v2 μ (fun r7 => if r5 = r7 then (W29 (wr (v2 + 1))) else (Q false)))) else (Q true))
def d_Parser_isWord_l29 (v1 : Nat) (v2 : Int) (μ : Mem) (Q : Bool → Prop) : Prop := ∀ W : Int → Prop, (∀ (v2 : Int), d_Parser_isWord_b29 v1 v2 μ W Q → W v2) → W v2
def d_Parser_isWord (v1 : Nat) (μ : Mem) (Q : Bool → Prop) : Prop := if μ 72 9 = 97 then (d_String_length v1 μ (fun r1 => if wr ((μ 72 11) - (μ 72 10)) = r1 then (d_Parser_isWord_l29 v1 0 μ Q) else (Q false))) else (Q false)
theorem i_Parser_isWord_l29 {v1 : Nat} {μ : Mem} {Q : Bool → Prop} {Inv : Int → Prop} (f : Int → Nat) (hi : ∀ (v2 : Int), Inv v2 → ∀ W : Int → Prop, (∀ (v2' : Int), Inv v2' → f v2' < f v2 → W v2') → d_Parser_isWord_b29 v1 v2 μ W Q) : ∀ (v2 : Int), Inv v2 → d_Parser_isWord_l29 v1 v2 μ Q := by
  intro v2 hI W hW
  have key : ∀ (n : Nat) (v2 : Int), f v2 = n → Inv v2 → W v2 := by
    intro n
    induction n using Nat.strongRecOn with
    | _ n ih =>
      intro v2 hf hI
      exact hW _ (hi v2 hI W fun v2' hI' hl => ih _ (by omega) v2' rfl hI')
  exact key _ v2 rfl hI
def d_Parser_fail (v1 : Int) (μ : Mem) (Q : Bool → Mem → Prop) : Prop := Q false (mup (mup μ 72 0 v1) 72 1 ((mup μ 72 0 v1) 72 10))
def d_Signature_nameLength (v0 : Nat) (v1 : Int) (μ : Mem) (Q : Int → Prop) : Prop := if v1 < 0 then (Q 0) else (if v1 < 8 then ((0 ≤ v1 ∧ v1 < 8) ∧ Q (μ (v0 + 2) v1.toNat)) else (Q 0))
def d_Signature_letter_j25 (v0 : Nat) (v1 : Int) (v2 : Int) (t0 : Int) (μ : Mem) (Q : Int → Prop) : Prop := if t0 = 0 then (Q (-1)) else ((0 ≤ v1 ∧ v1 < 8) ∧ if v2 < μ (v0 + 2) v1.toNat then ((0 ≤ wr ((wr (v1 * 6)) + v2) ∧ wr ((wr (v1 * 6)) + v2) < 48) ∧ Q (μ (v0 + 3) (wr ((wr (v1 * 6)) + v2)).toNat)) else (Q (-1)))
def d_Signature_letter_j24 (v0 : Nat) (v1 : Int) (v2 : Int) (μ : Mem) (Q : Int → Prop) : Prop := d_Signature_letter_j25 v0 v1 v2 0 μ Q
def d_Signature_letter (v0 : Nat) (v1 : Int) (v2 : Int) (μ : Mem) (Q : Int → Prop) : Prop := if v1 < 0 then (d_Signature_letter_j24 v0 v1 v2 μ Q) else (if v1 < 8 then (if v2 < 0 then (d_Signature_letter_j24 v0 v1 v2 μ Q) else (if v2 < 6 then (d_Signature_letter_j25 v0 v1 v2 1 μ Q) else (d_Signature_letter_j24 v0 v1 v2 μ Q))) else (d_Signature_letter_j24 v0 v1 v2 μ Q))
def d_Parser_isNamed_b27 (v1 : Int) (v2 : Int) (μ : Mem) (W27 : Int → Prop) (Q : Bool → Prop) : Prop := if v2 < μ 72 11 then (d_Parser_byteAt v2 μ (fun r3 => d_Signature_letter 73 v1 (wr (v2 - (μ 72 10))) μ (fun r5 => if r3 = r5 then (W27 (wr (v2 + 1))) else (Q false)))) else (Q true)
def d_Parser_isNamed_l27 (v1 : Int) (v2 : Int) (μ : Mem) (Q : Bool → Prop) : Prop := ∀ W : Int → Prop, (∀ (v2 : Int), d_Parser_isNamed_b27 v1 v2 μ W Q → W v2) → W v2
def d_Parser_isNamed (v1 : Int) (μ : Mem) (Q : Bool → Prop) : Prop := d_Signature_nameLength 73 v1 μ (fun r1 => if wr ((μ 72 11) - (μ 72 10)) = r1 then (d_Parser_isNamed_l27 v1 (μ 72 10) μ Q) else (Q false))
theorem i_Parser_isNamed_l27 {v1 : Int} {μ : Mem} {Q : Bool → Prop} {Inv : Int → Prop} (f : Int → Nat) (hi : ∀ (v2 : Int), Inv v2 → ∀ W : Int → Prop, (∀ (v2' : Int), Inv v2' → f v2' < f v2 → W v2') → d_Parser_isNamed_b27 v1 v2 μ W Q) : ∀ (v2 : Int), Inv v2 → d_Parser_isNamed_l27 v1 v2 μ Q := by
  intro v2 hI W hW
  have key : ∀ (n : Nat) (v2 : Int), f v2 = n → Inv v2 → W v2 := by
    intro n
    induction n using Nat.strongRecOn with
    | _ n ih =>
      intro v2 hf hI
      exact hW _ (hi v2 hI W fun v2' hI' hl => ih _ (by omega) v2' rfl hI')
  exact key _ v2 rfl hI
def d_Parser_symbolOfWord_b2 (v1 : Int) (μ : Mem) (W2 : Int → Prop) (Q : Int → Prop) : Prop := if v1 < μ 73 0 then (d_Parser_isNamed v1 μ (fun r1 => if r1 = true then (Q v1) else (W2 (wr (v1 + 1))))) else (Q (-1))
def d_Parser_symbolOfWord_l2 (v1 : Int) (μ : Mem) (Q : Int → Prop) : Prop := ∀ W : Int → Prop, (∀ (v1 : Int), d_Parser_symbolOfWord_b2 v1 μ W Q → W v1) → W v1
def d_Parser_symbolOfWord (μ : Mem) (Q : Int → Prop) : Prop := d_Parser_symbolOfWord_l2 0 μ Q
theorem i_Parser_symbolOfWord_l2 {μ : Mem} {Q : Int → Prop} {Inv : Int → Prop} (f : Int → Nat) (hi : ∀ (v1 : Int), Inv v1 → ∀ W : Int → Prop, (∀ (v1' : Int), Inv v1' → f v1' < f v1 → W v1') → d_Parser_symbolOfWord_b2 v1 μ W Q) : ∀ (v1 : Int), Inv v1 → d_Parser_symbolOfWord_l2 v1 μ Q := by
  intro v1 hI W hW
  have key : ∀ (n : Nat) (v1 : Int), f v1 = n → Inv v1 → W v1 := by
    intro n
    induction n using Nat.strongRecOn with
    | _ n ih =>
      intro v1 hf hI
      exact hW _ (hi v1 hI W fun v1' hI' hl => ih _ (by omega) v1' rfl hI')
  exact key _ v1 rfl hI
def d_Signature_begin (v0 : Nat) (μ : Mem) (Q : Mem → Prop) : Prop := if μ v0 0 < 0 then (Q μ) else (if μ v0 0 < 8 then ((0 ≤ μ v0 0 ∧ μ v0 0 < 8) ∧ Q (mup μ (v0 + 2) (μ v0 0).toNat 0)) else (Q μ))
def d_Signature_addLetter (v0 : Nat) (v1 : Int) (μ : Mem) (Q : Mem → Prop) : Prop := d_Signature_nameLength v0 (μ v0 0) μ (fun r1 => if μ v0 0 < 0 then (Q μ) else (if μ v0 0 < 8 then (if r1 < 0 then (Q μ) else (if r1 < 6 then ((0 ≤ wr ((wr ((μ v0 0) * 6)) + r1) ∧ wr ((wr ((μ v0 0) * 6)) + r1) < 48) ∧ (0 ≤ (mup μ (v0 + 3) (wr ((wr ((μ v0 0) * 6)) + r1)).toNat v1) v0 0 ∧ (mup μ (v0 + 3) (wr ((wr ((μ v0 0) * 6)) + r1)).toNat v1) v0 0 < 8) ∧ Q (mup (mup μ (v0 + 3) (wr ((wr ((μ v0 0) * 6)) + r1)).toNat v1) (v0 + 2) ((mup μ (v0 + 3) (wr ((wr ((μ v0 0) * 6)) + r1)).toNat v1) v0 0).toNat (wr (r1 + 1)))) else (Q μ))) else (Q μ)))
def d_Parser_digit (μ : Mem) (Q : Int → Prop) : Prop := d_Parser_byteAt (μ 72 10) μ (fun r1 => Q (wr (r1 - 48)))
def d_Parser_readDigit (v1 : Int) (μ : Mem) (Q : Bool → Mem → Prop) : Prop := if μ 72 9 = 48 then (d_Parser_digit μ (fun r1 => if r1 < v1 then (Q true μ) else (d_Parser_fail 2 μ (fun r3 μ4 => if r3 = true then (Q true μ4) else (Q false μ4))))) else (d_Parser_fail 1 μ (fun r5 μ6 => Q r5 μ6))
def d_Signature_finish (v0 : Nat) (v1 : Int) (μ : Mem) (Q : Mem → Prop) : Prop := if μ v0 0 < 0 then (Q μ) else (if μ v0 0 < 8 then ((0 ≤ μ v0 0 ∧ μ v0 0 < 8) ∧ Q (mup (mup μ (v0 + 1) (μ v0 0).toNat v1) v0 0 (wr (((mup μ (v0 + 1) (μ v0 0).toNat v1) v0 0) + 1)))) else (Q μ))
def d_Parser_readSymbol_b63 (v1 : Int) (μ : Mem) (W63 : Int → Mem → Prop) (Q : Bool → Mem → Prop) : Prop := if v1 < μ 72 11 then (d_Parser_byteAt v1 μ (fun r7 => d_Signature_addLetter 73 r7 μ (fun μ10 => W63 (wr (v1 + 1)) μ10))) else (d_Parser_next μ (fun μ12 => d_Parser_readDigit 4 μ12 (fun r13 μ14 => if r13 = true then (d_Parser_digit μ14 (fun r15 => d_Signature_finish 73 r15 μ14 (fun μ18 => d_Parser_next μ18 (fun μ20 => Q true μ20)))) else (Q false μ14))))
def d_Parser_readSymbol_l63 (v1 : Int) (μ : Mem) (Q : Bool → Mem → Prop) : Prop := ∀ W : Int → Mem → Prop, (∀ (v1 : Int) (μ : Mem), d_Parser_readSymbol_b63 v1 μ W Q → W v1 μ) → W v1 μ
def d_Parser_readSymbol (μ : Mem) (Q : Bool → Mem → Prop) : Prop := if μ 73 0 < 8 then (d_Parser_next μ (fun μ2 => if μ2 72 9 = 97 then (d_Parser_symbolOfWord μ2 (fun r3 => if r3 = (-1) then (d_Signature_begin 73 μ2 (fun μ6 => d_Parser_readSymbol_l63 (μ6 72 10) μ6 Q)) else (d_Parser_fail 3 μ2 (fun r21 μ22 => Q r21 μ22)))) else (d_Parser_fail 1 μ2 (fun r23 μ24 => Q r23 μ24)))) else (d_Parser_fail 5 μ (fun r25 μ26 => Q r25 μ26))
theorem i_Parser_readSymbol_l63 {Q : Bool → Mem → Prop} {Inv : Int → Mem → Prop} (f : Int → Mem → Nat) (hi : ∀ (v1 : Int) (μ : Mem), Inv v1 μ → ∀ W : Int → Mem → Prop, (∀ (v1' : Int) (μ' : Mem), Inv v1' μ' → f v1' μ' < f v1 μ → W v1' μ') → d_Parser_readSymbol_b63 v1 μ W Q) : ∀ (v1 : Int) (μ : Mem), Inv v1 μ → d_Parser_readSymbol_l63 v1 μ Q := by
  intro v1 μ hI W hW
  have key : ∀ (n : Nat) (v1 : Int) (μ : Mem), f v1 μ = n → Inv v1 μ → W v1 μ := by
    intro n
    induction n using Nat.strongRecOn with
    | _ n ih =>
      intro v1 μ hf hI
      exact hW _ _ (hi v1 μ hI W fun v1' μ' hI' hl => ih _ (by omega) v1' μ' rfl hI')
  exact key _ v1 μ rfl hI
def d_State_rule (v0 : Nat) (v1 : Int) (μ : Mem) (Q : Nat → Prop) : Prop := if v1 < 0 then (Q (v0 + 3)) else (if v1 < 6 then ((0 ≤ v1 ∧ v1 < 6) ∧ Q (v0 + 1 + (9 + 5 * v1.toNat))) else (Q (v0 + 3)))
def d_Term_clear (v0 : Nat) (μ : Mem) (Q : Mem → Prop) : Prop := Q (mup μ v0 1 0)
def d_Term_variableNode (v0 : Int) (μ : Mem) (Q : Int → Prop) : Prop := Q (wr ((-1) - v0))
def d_Parser_variableOfToken (μ : Mem) (Q : Int → Prop) : Prop := d_Parser_byteAt (μ 72 10) μ (fun r1 => d_Term_variableNode (wr (r1 - 65)) μ (fun r3 => Q r3))
def d_Term_get (v0 : Nat) (v1 : Int) (μ : Mem) (Q : Int → Prop) : Prop := if v1 < 0 then (Q (-2147483648)) else (if v1 < μ v0 1 then (if v1 < (ln (v0 + 1) : Int) then ((0 ≤ v1 ∧ v1 < (ln (v0 + 1) : Int)) ∧ Q (μ (v0 + 1) v1.toNat)) else (Q (-2147483648))) else (Q (-2147483648)))
def d_Term_count_j24 (v0 : Nat) (v1 : Int) (v2 : Int) (v3 : Int) (μ : Mem) (W4 : Int → Int → Prop) (Q : Int → Prop) : Prop := W4 v2 (wr (v3 + 1))
def d_Term_count_b4 (v0 : Nat) (v1 : Int) (v2 : Int) (v3 : Int) (μ : Mem) (W4 : Int → Int → Prop) (Q : Int → Prop) : Prop := if v3 < μ v0 1 then (d_Term_get v0 v3 μ (fun r1 => if r1 = v1 then (d_Term_count_j24 v0 v1 (wr (v2 + 1)) v3 μ W4 Q) else (d_Term_count_j24 v0 v1 v2 v3 μ W4 Q))) else (Q v2)
def d_Term_count_l4 (v0 : Nat) (v1 : Int) (v2 : Int) (v3 : Int) (μ : Mem) (Q : Int → Prop) : Prop := ∀ W : Int → Int → Prop, (∀ (v2 : Int) (v3 : Int), d_Term_count_b4 v0 v1 v2 v3 μ W Q → W v2 v3) → W v2 v3
def d_Term_count (v0 : Nat) (v1 : Int) (μ : Mem) (Q : Int → Prop) : Prop := d_Term_count_l4 v0 v1 0 0 μ Q
theorem i_Term_count_l4 {v0 : Nat} {v1 : Int} {μ : Mem} {Q : Int → Prop} {Inv : Int → Int → Prop} (f : Int → Int → Nat) (hi : ∀ (v2 : Int) (v3 : Int), Inv v2 v3 → ∀ W : Int → Int → Prop, (∀ (v2' : Int) (v3' : Int), Inv v2' v3' → f v2' v3' < f v2 v3 → W v2' v3') → d_Term_count_b4 v0 v1 v2 v3 μ W Q) : ∀ (v2 : Int) (v3 : Int), Inv v2 v3 → d_Term_count_l4 v0 v1 v2 v3 μ Q := by
  intro v2 v3 hI W hW
  have key : ∀ (n : Nat) (v2 : Int) (v3 : Int), f v2 v3 = n → Inv v2 v3 → W v2 v3 := by
    intro n
    induction n using Nat.strongRecOn with
    | _ n ih =>
      intro v2 v3 hf hI
      exact hW _ _ (hi v2 v3 hI W fun v2' v3' hI' hl => ih _ (by omega) v2' v3' rfl hI')
  exact key _ v2 v3 rfl hI
def d_Parser_faultOfNode_j105 (v1 : Nat) (v2 : Int) (μ : Mem) (Q : Int → Prop) : Prop := if μ v1 1 < v2 then (Q 0) else (Q 5)
def d_Parser_faultOfNode_j62 (v1 : Nat) (v2 : Int) (v3 : Int) (μ : Mem) (Q : Int → Prop) : Prop := if μ 72 9 = 65 then (if v3 = 2 then (d_State_rule 77 (μ 77 0) μ (fun r3 => d_Parser_variableOfToken μ (fun r5 => d_Term_count (dp (μ r3 0)) r5 μ (fun r7 => if r7 = 0 then (Q 4) else (d_Parser_faultOfNode_j105 v1 v2 μ Q))))) else (d_Parser_faultOfNode_j105 v1 v2 μ Q)) else (d_Parser_faultOfNode_j105 v1 v2 μ Q)
def d_Parser_faultOfNode_j39 (v1 : Nat) (v2 : Int) (v3 : Int) (μ : Mem) (Q : Int → Prop) : Prop := if μ 72 9 = 65 then (if v3 = 1 then (if μ v1 1 = 0 then (Q 4) else (d_Parser_faultOfNode_j62 v1 v2 v3 μ Q)) else (d_Parser_faultOfNode_j62 v1 v2 v3 μ Q)) else (d_Parser_faultOfNode_j62 v1 v2 v3 μ Q)
def d_Parser_faultOfNode_j20 (v1 : Nat) (v2 : Int) (v3 : Int) (μ : Mem) (Q : Int → Prop) : Prop := if μ 72 9 = 97 then (d_Parser_symbolOfWord μ (fun r1 => if r1 = (-1) then (Q 3) else (d_Parser_faultOfNode_j39 v1 v2 v3 μ Q))) else (d_Parser_faultOfNode_j39 v1 v2 v3 μ Q)
def d_Parser_faultOfNode (v1 : Nat) (v2 : Int) (v3 : Int) (μ : Mem) (Q : Int → Prop) : Prop := if μ 72 9 = 97 then (d_Parser_faultOfNode_j20 v1 v2 v3 μ Q) else (if μ 72 9 = 65 then (d_Parser_faultOfNode_j20 v1 v2 v3 μ Q) else (Q 1))
def d_Signature_arity (v0 : Nat) (v1 : Int) (μ : Mem) (Q : Int → Prop) : Prop := if v1 < 0 then (Q 0) else (if v1 < 8 then ((0 ≤ v1 ∧ v1 < 8) ∧ Q (μ (v0 + 1) v1.toNat)) else (Q 0))
def d_Term_symbolNode (v0 : Int) (v1 : Int) (μ : Mem) (Q : Int → Prop) : Prop := Q (wr ((wr (4 * v0)) + v1))
def d_Parser_nodeOfToken (μ : Mem) (Q : Int → Prop) : Prop := if μ 72 9 = 65 then (d_Parser_variableOfToken μ (fun r1 => Q r1)) else (d_Parser_symbolOfWord μ (fun r3 => d_Signature_arity 73 r3 μ (fun r5 => d_Term_symbolNode r3 r5 μ (fun r7 => Q r7))))
def d_Term_add (v0 : Nat) (v1 : Int) (μ : Mem) (Q : Bool → Mem → Prop) : Prop := if μ v0 1 < 0 then (Q false μ) else (if μ v0 1 < (ln (v0 + 1) : Int) then ((0 ≤ μ v0 1 ∧ μ v0 1 < (ln (v0 + 1) : Int)) ∧ Q true (mup (mup μ (v0 + 1) (μ v0 1).toNat v1) v0 1 (wr (((mup μ (v0 + 1) (μ v0 1).toNat v1) v0 1) + 1)))) else (Q false μ))
def d_Term_arityOf (v0 : Int) (μ : Mem) (Q : Int → Prop) : Prop := if v0 < 0 then (Q 0) else (Q (jand v0 3))
def d_Parser_closeBrackets_j57 (v2 : Int) (v3 : Int) (t0 : Int) (t1 : Int) (μ : Mem) (W4 : Int → Mem → Prop) (Q : Int → Mem → Prop) : Prop := if t0 = t1 then (d_Parser_next μ (fun μ2 => if v3 = 0 then (W4 (wr (v2 + (-1))) μ2) else (Q (wr (v2 + 1)) μ2))) else (d_Parser_fail 1 μ (fun r3 μ4 => Q (-1) μ4))
def d_Parser_closeBrackets_j41 (v2 : Int) (t0 : Int) (μ : Mem) (W4 : Int → Mem → Prop) (Q : Int → Mem → Prop) : Prop := if t0 = 0 then (d_Parser_closeBrackets_j57 v2 t0 (μ 72 9) 41 μ W4 Q) else (d_Parser_closeBrackets_j57 v2 t0 (μ 72 9) 44 μ W4 Q)
def d_Parser_closeBrackets_b4 (v2 : Int) (μ : Mem) (W4 : Int → Mem → Prop) (Q : Int → Mem → Prop) : Prop := if v2 < 0 then (Q 0 μ) else (if v2 < 40 then ((0 ≤ v2 ∧ v2 < 40) ∧ (0 ≤ v2 ∧ v2 < 40) ∧ (0 ≤ v2 ∧ v2 < 40) ∧ if 0 < (mup μ 138 v2.toNat (wr ((μ 138 v2.toNat) - 1))) 138 v2.toNat then (d_Parser_closeBrackets_j41 v2 1 (mup μ 138 v2.toNat (wr ((μ 138 v2.toNat) - 1))) W4 Q) else (d_Parser_closeBrackets_j41 v2 0 (mup μ 138 v2.toNat (wr ((μ 138 v2.toNat) - 1))) W4 Q)) else (Q 0 μ))
def d_Parser_closeBrackets_l4 (v2 : Int) (μ : Mem) (Q : Int → Mem → Prop) : Prop := ∀ W : Int → Mem → Prop, (∀ (v2 : Int) (μ : Mem), d_Parser_closeBrackets_b4 v2 μ W Q → W v2 μ) → W v2 μ
def d_Parser_closeBrackets (v1 : Int) (μ : Mem) (Q : Int → Mem → Prop) : Prop := d_Parser_closeBrackets_l4 (wr (v1 - 1)) μ Q
theorem i_Parser_closeBrackets_l4 {Q : Int → Mem → Prop} {Inv : Int → Mem → Prop} (f : Int → Mem → Nat) (hi : ∀ (v2 : Int) (μ : Mem), Inv v2 μ → ∀ W : Int → Mem → Prop, (∀ (v2' : Int) (μ' : Mem), Inv v2' μ' → f v2' μ' < f v2 μ → W v2' μ') → d_Parser_closeBrackets_b4 v2 μ W Q) : ∀ (v2 : Int) (μ : Mem), Inv v2 μ → d_Parser_closeBrackets_l4 v2 μ Q := by
  intro v2 μ hI W hW
  have key : ∀ (n : Nat) (v2 : Int) (μ : Mem), f v2 μ = n → Inv v2 μ → W v2 μ := by
    intro n
    induction n using Nat.strongRecOn with
    | _ n ih =>
      intro v2 μ hf hI
      exact hW _ _ (hi v2 μ hI W fun v2' μ' hI' hl => ih _ (by omega) v2' μ' rfl hI')
  exact key _ v2 μ rfl hI
def d_Parser_readTerm_j133 (v1 : Nat) (v2 : Int) (v3 : Int) (v4 : Int) (v5 : Int) (μ : Mem) (W10 : Int → Int → Mem → Prop) (Q : Bool → Mem → Prop) : Prop := W10 v4 (wr (v5 + 1)) μ
def d_Parser_readTerm_j81 (μ : Mem) (Q : Bool → Mem → Prop) : Prop := d_Parser_fail 1 μ (fun r19 μ20 => Q r19 μ20)
def d_Parser_readTerm_b10 (v1 : Nat) (v2 : Int) (v3 : Int) (v4 : Int) (v5 : Int) (μ : Mem) (W10 : Int → Int → Mem → Prop) (Q : Bool → Mem → Prop) : Prop := if v2 < v5 then (d_Parser_fail 5 μ (fun r3 μ4 => Q r3 μ4)) else (d_Parser_faultOfNode v1 v2 v3 μ (fun r5 => if r5 = 0 then (d_Parser_nodeOfToken μ (fun r7 => d_Term_add v1 r7 μ (fun r9 μ10 => d_Parser_next μ10 (fun μ12 => d_Term_arityOf r7 μ12 (fun r13 => if 0 < r13 then (if μ12 72 9 = 40 then (if v4 < 40 then (d_Parser_next μ12 (fun μ16 => d_Term_arityOf r7 μ16 (fun r17 => (0 ≤ v4 ∧ v4 < 40) ∧ d_Parser_readTerm_j133 v1 v2 v3 (wr (v4 + 1)) v5 (mup μ16 138 v4.toNat r17) W10 Q))) else (d_Parser_readTerm_j81 μ12 Q)) else (d_Parser_readTerm_j81 μ12 Q)) else (d_Parser_closeBrackets v4 μ12 (fun r21 μ22 => if 0 < r21 then (d_Parser_readTerm_j133 v1 v2 v3 r21 v5 μ22 W10 Q) else (if r21 = 0 then (Q true μ22) else (Q false μ22))))))))) else (d_Parser_fail r5 μ (fun r23 μ24 => Q r23 μ24))))
def d_Parser_readTerm_l10 (v1 : Nat) (v2 : Int) (v3 : Int) (v4 : Int) (v5 : Int) (μ : Mem) (Q : Bool → Mem → Prop) : Prop := ∀ W : Int → Int → Mem → Prop, (∀ (v4 : Int) (v5 : Int) (μ : Mem), d_Parser_readTerm_b10 v1 v2 v3 v4 v5 μ W Q → W v4 v5 μ) → W v4 v5 μ
def d_Parser_readTerm (v1 : Nat) (v2 : Int) (v3 : Int) (μ : Mem) (Q : Bool → Mem → Prop) : Prop := d_Term_clear v1 μ (fun μ2 => d_Parser_readTerm_l10 v1 v2 v3 0 0 μ2 Q)
theorem i_Parser_readTerm_l10 {v1 : Nat} {v2 : Int} {v3 : Int} {Q : Bool → Mem → Prop} {Inv : Int → Int → Mem → Prop} (f : Int → Int → Mem → Nat) (hi : ∀ (v4 : Int) (v5 : Int) (μ : Mem), Inv v4 v5 μ → ∀ W : Int → Int → Mem → Prop, (∀ (v4' : Int) (v5' : Int) (μ' : Mem), Inv v4' v5' μ' → f v4' v5' μ' < f v4 v5 μ → W v4' v5' μ') → d_Parser_readTerm_b10 v1 v2 v3 v4 v5 μ W Q) : ∀ (v4 : Int) (v5 : Int) (μ : Mem), Inv v4 v5 μ → d_Parser_readTerm_l10 v1 v2 v3 v4 v5 μ Q := by
  intro v4 v5 μ hI W hW
  have key : ∀ (n : Nat) (v4 : Int) (v5 : Int) (μ : Mem), f v4 v5 μ = n → Inv v4 v5 μ → W v4 v5 μ := by
    intro n
    induction n using Nat.strongRecOn with
    | _ n ih =>
      intro v4 v5 μ hf hI
      exact hW _ _ _ (hi v4 v5 μ hI W fun v4' v5' μ' hI' hl => ih _ (by omega) v4' v5' μ' rfl hI')
  exact key _ v4 v5 μ rfl hI
def d_Parser_readRule (μ : Mem) (Q : Bool → Mem → Prop) : Prop := if μ 77 0 < 6 then (d_Parser_next μ (fun μ2 => d_State_rule 77 (μ2 77 0) μ2 (fun r3 => d_Parser_readTerm (dp (μ2 r3 0)) 12 1 μ2 (fun r5 μ6 => if r5 = true then (if μ6 72 9 = 61 then (d_Parser_next μ6 (fun μ8 => d_Parser_readTerm (dp (μ8 r3 1)) 12 2 μ8 (fun r9 μ10 => if r9 = true then (Q true (mup μ10 77 0 (wr ((μ10 77 0) + 1)))) else (Q false μ10)))) else (d_Parser_fail 1 μ6 (fun r11 μ12 => Q r11 μ12))) else (Q false μ6))))) else (d_Parser_fail 5 μ (fun r13 μ14 => Q r13 μ14))
def d_State_term (v0 : Nat) (v1 : Int) (μ : Mem) (Q : Nat → Prop) : Prop := if v1 < 0 then (Q (v0 + 8)) else (if v1 < 6 then ((0 ≤ v1 ∧ v1 < 6) ∧ Q (v0 + 2 + (38 + 2 * v1.toNat))) else (Q (v0 + 8)))
def d_Parser_readPlainTerm (μ : Mem) (Q : Bool → Mem → Prop) : Prop := if μ 77 1 < 6 then (d_Parser_next μ (fun μ2 => d_State_term 77 (μ2 77 1) μ2 (fun r3 => d_Parser_readTerm r3 40 0 μ2 (fun r5 μ6 => if r5 = true then (Q true (mup μ6 77 1 (wr ((μ6 77 1) + 1)))) else (Q false μ6))))) else (d_Parser_fail 5 μ (fun r7 μ8 => Q r7 μ8))
def d_Term_addPart_b3 (v0 : Nat) (v1 : Nat) (v3 : Int) (v4 : Int) (μ : Mem) (W3 : Int → Mem → Prop) (Q : Bool → Mem → Prop) : Prop := if v4 < v3 then (d_Term_get v1 v4 μ (fun r1 => d_Term_add v0 r1 μ (fun r3 μ4 => if r3 = true then (W3 (wr (v4 + 1)) μ4) else (Q false μ4)))) else (Q true μ)
def d_Term_addPart_l3 (v0 : Nat) (v1 : Nat) (v3 : Int) (v4 : Int) (μ : Mem) (Q : Bool → Mem → Prop) : Prop := ∀ W : Int → Mem → Prop, (∀ (v4 : Int) (μ : Mem), d_Term_addPart_b3 v0 v1 v3 v4 μ W Q → W v4 μ) → W v4 μ
def d_Term_addPart (v0 : Nat) (v1 : Nat) (v2 : Int) (v3 : Int) (μ : Mem) (Q : Bool → Mem → Prop) : Prop := d_Term_addPart_l3 v0 v1 v3 v2 μ Q
theorem i_Term_addPart_l3 {v0 : Nat} {v1 : Nat} {v3 : Int} {Q : Bool → Mem → Prop} {Inv : Int → Mem → Prop} (f : Int → Mem → Nat) (hi : ∀ (v4 : Int) (μ : Mem), Inv v4 μ → ∀ W : Int → Mem → Prop, (∀ (v4' : Int) (μ' : Mem), Inv v4' μ' → f v4' μ' < f v4 μ → W v4' μ') → d_Term_addPart_b3 v0 v1 v3 v4 μ W Q) : ∀ (v4 : Int) (μ : Mem), Inv v4 μ → d_Term_addPart_l3 v0 v1 v3 v4 μ Q := by
  intro v4 μ hI W hW
  have key : ∀ (n : Nat) (v4 : Int) (μ : Mem), f v4 μ = n → Inv v4 μ → W v4 μ := by
    intro n
    induction n using Nat.strongRecOn with
    | _ n ih =>
      intro v4 μ hf hI
      exact hW _ _ (hi v4 μ hI W fun v4' μ' hI' hl => ih _ (by omega) v4' μ' rfl hI')
  exact key _ v4 μ rfl hI
def d_State_addTerm (v0 : Nat) (v1 : Nat) (v2 : Int) (v3 : Int) (μ : Mem) (Q : Mem → Prop) : Prop := if μ v0 1 < 6 then (d_State_term v0 (μ v0 1) μ (fun r1 => d_Term_clear r1 μ (fun μ4 => d_Term_addPart r1 v1 v2 v3 μ4 (fun r5 μ6 => Q (mup μ6 v0 1 (wr ((μ6 v0 1) + 1))))))) else (Q μ)
def d_Parser_readCopy (μ : Mem) (Q : Bool → Mem → Prop) : Prop := if μ 77 1 < 6 then (d_Parser_next μ (fun μ2 => d_Parser_readDigit (μ2 77 1) μ2 (fun r3 μ4 => if r3 = true then (d_Parser_digit μ4 (fun r5 => d_State_term 77 r5 μ4 (fun r7 => d_State_addTerm 77 r7 0 (μ4 r7 1) μ4 (fun μ10 => d_Parser_next μ10 (fun μ12 => Q true μ12))))) else (Q false μ4)))) else (d_Parser_fail 5 μ (fun r13 μ14 => Q r13 μ14))
def d_Rule_canTurn_j52 (v0 : Nat) (v1 : Int) (μ : Mem) (W15 : Int → Prop) (Q : Bool → Prop) : Prop := W15 (wr (v1 + 1))
def d_Rule_canTurn_b15 (v0 : Nat) (v1 : Int) (μ : Mem) (W15 : Int → Prop) (Q : Bool → Prop) : Prop := if v1 < μ (dp (μ v0 0)) 1 then (d_Term_get (dp (μ v0 0)) v1 μ (fun r3 => if r3 < 0 then (d_Term_count (dp (μ v0 1)) r3 μ (fun r5 => if r5 = 0 then (Q false) else (d_Rule_canTurn_j52 v0 v1 μ W15 Q))) else (d_Rule_canTurn_j52 v0 v1 μ W15 Q))) else (Q true)
def d_Rule_canTurn_l15 (v0 : Nat) (v1 : Int) (μ : Mem) (Q : Bool → Prop) : Prop := ∀ W : Int → Prop, (∀ (v1 : Int), d_Rule_canTurn_b15 v0 v1 μ W Q → W v1) → W v1
def d_Rule_canTurn (v0 : Nat) (μ : Mem) (Q : Bool → Prop) : Prop := d_Term_get (dp (μ v0 1)) 0 μ (fun r1 => if r1 < 0 then (Q false) else (d_Rule_canTurn_l15 v0 0 μ Q))
theorem i_Rule_canTurn_l15 {v0 : Nat} {μ : Mem} {Q : Bool → Prop} {Inv : Int → Prop} (f : Int → Nat) (hi : ∀ (v1 : Int), Inv v1 → ∀ W : Int → Prop, (∀ (v1' : Int), Inv v1' → f v1' < f v1 → W v1') → d_Rule_canTurn_b15 v0 v1 μ W Q) : ∀ (v1 : Int), Inv v1 → d_Rule_canTurn_l15 v0 v1 μ Q := by
  intro v1 hI W hW
  have key : ∀ (n : Nat) (v1 : Int), f v1 = n → Inv v1 → W v1 := by
    intro n
    induction n using Nat.strongRecOn with
    | _ n ih =>
      intro v1 hf hI
      exact hW _ (hi v1 hI W fun v1' hI' hl => ih _ (by omega) v1' rfl hI')
  exact key _ v1 rfl hI
def d_Rule_turn (v0 : Nat) (μ : Mem) (Q : Mem → Prop) : Prop := Q (mup (mup μ v0 0 ((dp (μ v0 1)) : Int)) v0 1 ((dp (μ v0 0)) : Int))
def d_Parser_readFlip (μ : Mem) (Q : Bool → Mem → Prop) : Prop := d_Parser_next μ (fun μ2 => d_Parser_readDigit (μ2 77 0) μ2 (fun r3 μ4 => if r3 = true then (d_Parser_digit μ4 (fun r5 => d_State_rule 77 r5 μ4 (fun r7 => d_Rule_canTurn r7 μ4 (fun r9 => if r9 = true then (d_Rule_turn r7 μ4 (fun μ12 => d_Parser_next μ12 (fun μ14 => Q true μ14))) else (d_Parser_fail 4 μ4 (fun r15 μ16 => Q r15 μ16)))))) else (Q false μ4)))
def d_Arrays_fill_b5 (v0 : Nat) (v1 : Int) (v3 : Int) (v2 : Int) (μ : Mem) (W5 : Int → Mem → Prop) (Q : Mem → Prop) : Prop := if v2 < v3 then ((0 ≤ v2 ∧ v2 < (ln v0 : Int)) ∧ W5 (wr (v2 + 1)) (mup μ v0 v2.toNat v1)) else (Q μ)
def d_Arrays_fill_l5 (v0 : Nat) (v1 : Int) (v3 : Int) (v2 : Int) (μ : Mem) (Q : Mem → Prop) : Prop := ∀ W : Int → Mem → Prop, (∀ (v2 : Int) (μ : Mem), d_Arrays_fill_b5 v0 v1 v3 v2 μ W Q → W v2 μ) → W v2 μ
def d_Arrays_fill (v0 : Nat) (v1 : Int) (μ : Mem) (Q : Mem → Prop) : Prop := d_Arrays_fill_l5 v0 v1 (ln v0 : Int) 0 μ Q
theorem i_Arrays_fill_l5 {v0 : Nat} {v1 : Int} {v3 : Int} {Q : Mem → Prop} {Inv : Int → Mem → Prop} (f : Int → Mem → Nat) (hi : ∀ (v2 : Int) (μ : Mem), Inv v2 μ → ∀ W : Int → Mem → Prop, (∀ (v2' : Int) (μ' : Mem), Inv v2' μ' → f v2' μ' < f v2 μ → W v2' μ') → d_Arrays_fill_b5 v0 v1 v3 v2 μ W Q) : ∀ (v2 : Int) (μ : Mem), Inv v2 μ → d_Arrays_fill_l5 v0 v1 v3 v2 μ Q := by
  intro v2 μ hI W hW
  have key : ∀ (n : Nat) (v2 : Int) (μ : Mem), f v2 μ = n → Inv v2 μ → W v2 μ := by
    intro n
    induction n using Nat.strongRecOn with
    | _ n ih =>
      intro v2 μ hf hI
      exact hW _ _ (hi v2 μ hI W fun v2' μ' hI' hl => ih _ (by omega) v2' μ' rfl hI')
  exact key _ v2 μ rfl hI
def d_Term_sameParts_j101 (v0 : Nat) (v4 : Int) (v5 : Int) (t0 : Int) (t1 : Int) (μ : Mem) (W8 : Int → Int → Int → Prop) (Q : Bool → Prop) : Prop := if wr (t0 + t1) = 0 then (Q true) else (W8 (wr (t0 + t1)) (wr (v4 + 1)) (wr (v5 + 1)))
def d_Term_sameParts_b8 (v0 : Nat) (v3 : Int) (v4 : Int) (v5 : Int) (μ : Mem) (W8 : Int → Int → Int → Prop) (Q : Bool → Prop) : Prop := if v5 < 0 then (Q false) else (if v5 < μ v0 1 then (if v5 < (ln (v0 + 1) : Int) then (if v4 < 0 then (Q false) else (if v4 < μ v0 1 then (if v4 < (ln (v0 + 1) : Int) then ((0 ≤ v5 ∧ v5 < (ln (v0 + 1) : Int)) ∧ (0 ≤ v4 ∧ v4 < (ln (v0 + 1) : Int)) ∧ if μ (v0 + 1) v5.toNat = μ (v0 + 1) v4.toNat then ((0 ≤ v5 ∧ v5 < (ln (v0 + 1) : Int)) ∧ if μ (v0 + 1) v5.toNat < 0 then (d_Term_sameParts_j101 v0 v4 v5 v3 (-1) μ W8 Q) else ((0 ≤ v5 ∧ v5 < (ln (v0 + 1) : Int)) ∧ d_Term_sameParts_j101 v0 v4 v5 v3 (wr ((jand (μ (v0 + 1) v5.toNat) 3) - 1)) μ W8 Q)) else (Q false)) else (Q false)) else (Q false))) else (Q false)) else (Q false))
def d_Term_sameParts_l8 (v0 : Nat) (v3 : Int) (v4 : Int) (v5 : Int) (μ : Mem) (Q : Bool → Prop) : Prop := ∀ W : Int → Int → Int → Prop, (∀ (v3 : Int) (v4 : Int) (v5 : Int), d_Term_sameParts_b8 v0 v3 v4 v5 μ W Q → W v3 v4 v5) → W v3 v4 v5
def d_Term_sameParts (v0 : Nat) (v1 : Int) (v2 : Int) (μ : Mem) (Q : Bool → Prop) : Prop := d_Term_sameParts_l8 v0 1 v2 v1 μ Q
theorem i_Term_sameParts_l8 {v0 : Nat} {μ : Mem} {Q : Bool → Prop} {Inv : Int → Int → Int → Prop} (f : Int → Int → Int → Nat) (hi : ∀ (v3 : Int) (v4 : Int) (v5 : Int), Inv v3 v4 v5 → ∀ W : Int → Int → Int → Prop, (∀ (v3' : Int) (v4' : Int) (v5' : Int), Inv v3' v4' v5' → f v3' v4' v5' < f v3 v4 v5 → W v3' v4' v5') → d_Term_sameParts_b8 v0 v3 v4 v5 μ W Q) : ∀ (v3 : Int) (v4 : Int) (v5 : Int), Inv v3 v4 v5 → d_Term_sameParts_l8 v0 v3 v4 v5 μ Q := by
  intro v3 v4 v5 hI W hW
  have key : ∀ (n : Nat) (v3 : Int) (v4 : Int) (v5 : Int), f v3 v4 v5 = n → Inv v3 v4 v5 → W v3 v4 v5 := by
    intro n
    induction n using Nat.strongRecOn with
    | _ n ih =>
      intro v3 v4 v5 hf hI
      exact hW _ _ _ (hi v3 v4 v5 hI W fun v3' v4' v5' hI' hl => ih _ (by omega) v3' v4' v5' rfl hI')
  exact key _ v3 v4 v5 rfl hI
def d_Term_end_j49 (v0 : Nat) (v3 : Int) (t0 : Int) (t1 : Int) (μ : Mem) (W4 : Int → Int → Prop) (Q : Int → Prop) : Prop := if wr (t0 + t1) = 0 then (Q (wr (v3 + 1))) else (W4 (wr (t0 + t1)) (wr (v3 + 1)))
def d_Term_end_b4 (v0 : Nat) (v2 : Int) (v3 : Int) (μ : Mem) (W4 : Int → Int → Prop) (Q : Int → Prop) : Prop := if v3 < 0 then (Q (μ v0 1)) else (if v3 < μ v0 1 then (if v3 < (ln (v0 + 1) : Int) then ((0 ≤ v3 ∧ v3 < (ln (v0 + 1) : Int)) ∧ if μ (v0 + 1) v3.toNat < 0 then (d_Term_end_j49 v0 v3 v2 (-1) μ W4 Q) else (d_Term_end_j49 v0 v3 v2 (wr ((jand (μ (v0 + 1) v3.toNat) 3) - 1)) μ W4 Q)) else (Q (μ v0 1))) else (Q (μ v0 1)))
def d_Term_end_l4 (v0 : Nat) (v2 : Int) (v3 : Int) (μ : Mem) (Q : Int → Prop) : Prop := ∀ W : Int → Int → Prop, (∀ (v2 : Int) (v3 : Int), d_Term_end_b4 v0 v2 v3 μ W Q → W v2 v3) → W v2 v3
def d_Term_end (v0 : Nat) (v1 : Int) (μ : Mem) (Q : Int → Prop) : Prop := d_Term_end_l4 v0 1 v1 μ Q
theorem i_Term_end_l4 {v0 : Nat} {μ : Mem} {Q : Int → Prop} {Inv : Int → Int → Prop} (f : Int → Int → Nat) (hi : ∀ (v2 : Int) (v3 : Int), Inv v2 v3 → ∀ W : Int → Int → Prop, (∀ (v2' : Int) (v3' : Int), Inv v2' v3' → f v2' v3' < f v2 v3 → W v2' v3') → d_Term_end_b4 v0 v2 v3 μ W Q) : ∀ (v2 : Int) (v3 : Int), Inv v2 v3 → d_Term_end_l4 v0 v2 v3 μ Q := by
  intro v2 v3 hI W hW
  have key : ∀ (n : Nat) (v2 : Int) (v3 : Int), f v2 v3 = n → Inv v2 v3 → W v2 v3 := by
    intro n
    induction n using Nat.strongRecOn with
    | _ n ih =>
      intro v2 v3 hf hI
      exact hW _ _ (hi v2 v3 hI W fun v2' v3' hI' hl => ih _ (by omega) v2' v3' rfl hI')
  exact key _ v2 v3 rfl hI
def d_Rewriter_match_j135 (v0 : Nat) (v2 : Nat) (v4 : Nat) (v5 : Int) (v6 : Int) (μ : Mem) (W20 : Int → Int → Mem → Prop) (Q : Bool → Mem → Prop) : Prop := W20 v5 (wr (v6 + 1)) μ
def d_Rewriter_match_j127 (v0 : Nat) (v2 : Nat) (v4 : Nat) (v5 : Int) (v6 : Int) (μ : Mem) (W20 : Int → Int → Mem → Prop) (Q : Bool → Mem → Prop) : Prop := d_Term_end v2 v5 μ (fun r5 => d_Rewriter_match_j135 v0 v2 v4 r5 v6 μ W20 Q)
def d_Rewriter_match_b20 (v0 : Nat) (v2 : Nat) (v4 : Nat) (v5 : Int) (v6 : Int) (μ : Mem) (W20 : Int → Int → Mem → Prop) (Q : Bool → Mem → Prop) : Prop := if v6 < μ v4 1 then (d_Term_get v4 v6 μ (fun r3 => if r3 < 0 then (if wr ((-1) - r3) < 0 then (Q false μ) else (if wr ((-1) - r3) < 8 then ((0 ≤ wr ((-1) - r3) ∧ wr ((-1) - r3) < 8) ∧ if μ (v0 + 7) (wr ((-1) - r3)).toNat = (-1) then ((0 ≤ wr ((-1) - r3) ∧ wr ((-1) - r3) < 8) ∧ d_Rewriter_match_j127 v0 v2 v4 v5 v6 (mup μ (v0 + 7) (wr ((-1) - r3)).toNat v5) W20 Q) else ((0 ≤ wr ((-1) - r3) ∧ wr ((-1) - r3) < 8) ∧ d_Term_sameParts v2 (μ (v0 + 7) (wr ((-1) - r3)).toNat) v5 μ (fun r7 => if r7 = true then (d_Rewriter_match_j127 v0 v2 v4 v5 v6 μ W20 Q) else (Q false μ)))) else (Q false μ))) else (d_Term_get v2 v5 μ (fun r9 => if r9 = r3 then (d_Rewriter_match_j135 v0 v2 v4 (wr (v5 + 1)) v6 μ W20 Q) else (Q false μ))))) else (Q true μ)
def d_Rewriter_match_l20 (v0 : Nat) (v2 : Nat) (v4 : Nat) (v5 : Int) (v6 : Int) (μ : Mem) (Q : Bool → Mem → Prop) : Prop := ∀ W : Int → Int → Mem → Prop, (∀ (v5 : Int) (v6 : Int) (μ : Mem), d_Rewriter_match_b20 v0 v2 v4 v5 v6 μ W Q → W v5 v6 μ) → W v5 v6 μ
def d_Rewriter_match (v0 : Nat) (v1 : Nat) (v2 : Nat) (v3 : Int) (μ : Mem) (Q : Bool → Mem → Prop) : Prop := d_Arrays_fill (v0 + 7) (-1) μ (fun μ2 => d_Rewriter_match_l20 v0 v2 (dp (μ2 v1 0)) v3 0 μ2 Q)
theorem i_Rewriter_match_l20 {v0 : Nat} {v2 : Nat} {v4 : Nat} {Q : Bool → Mem → Prop} {Inv : Int → Int → Mem → Prop} (f : Int → Int → Mem → Nat) (hi : ∀ (v5 : Int) (v6 : Int) (μ : Mem), Inv v5 v6 μ → ∀ W : Int → Int → Mem → Prop, (∀ (v5' : Int) (v6' : Int) (μ' : Mem), Inv v5' v6' μ' → f v5' v6' μ' < f v5 v6 μ → W v5' v6' μ') → d_Rewriter_match_b20 v0 v2 v4 v5 v6 μ W Q) : ∀ (v5 : Int) (v6 : Int) (μ : Mem), Inv v5 v6 μ → d_Rewriter_match_l20 v0 v2 v4 v5 v6 μ Q := by
  intro v5 v6 μ hI W hW
  have key : ∀ (n : Nat) (v5 : Int) (v6 : Int) (μ : Mem), f v5 v6 μ = n → Inv v5 v6 μ → W v5 v6 μ := by
    intro n
    induction n using Nat.strongRecOn with
    | _ n ih =>
      intro v5 v6 μ hf hI
      exact hW _ _ _ (hi v5 v6 μ hI W fun v5' v6' μ' hI' hl => ih _ (by omega) v5' v6' μ' rfl hI')
  exact key _ v5 v6 μ rfl hI
def d_Rewriter_firstRule_b3 (v0 : Nat) (v1 : Nat) (v2 : Nat) (v3 : Int) (v4 : Int) (μ : Mem) (W3 : Int → Mem → Prop) (Q : Int → Mem → Prop) : Prop := if v4 < μ v1 0 then (d_State_rule v1 v4 μ (fun r1 => d_Rewriter_match v0 r1 v2 v3 μ (fun r3 μ4 => if r3 = true then (Q v4 μ4) else (W3 (wr (v4 + 1)) μ4)))) else (Q (-1) μ)
def d_Rewriter_firstRule_l3 (v0 : Nat) (v1 : Nat) (v2 : Nat) (v3 : Int) (v4 : Int) (μ : Mem) (Q : Int → Mem → Prop) : Prop := ∀ W : Int → Mem → Prop, (∀ (v4 : Int) (μ : Mem), d_Rewriter_firstRule_b3 v0 v1 v2 v3 v4 μ W Q → W v4 μ) → W v4 μ
def d_Rewriter_firstRule (v0 : Nat) (v1 : Nat) (v2 : Nat) (v3 : Int) (μ : Mem) (Q : Int → Mem → Prop) : Prop := d_Rewriter_firstRule_l3 v0 v1 v2 v3 0 μ Q
theorem i_Rewriter_firstRule_l3 {v0 : Nat} {v1 : Nat} {v2 : Nat} {v3 : Int} {Q : Int → Mem → Prop} {Inv : Int → Mem → Prop} (f : Int → Mem → Nat) (hi : ∀ (v4 : Int) (μ : Mem), Inv v4 μ → ∀ W : Int → Mem → Prop, (∀ (v4' : Int) (μ' : Mem), Inv v4' μ' → f v4' μ' < f v4 μ → W v4' μ') → d_Rewriter_firstRule_b3 v0 v1 v2 v3 v4 μ W Q) : ∀ (v4 : Int) (μ : Mem), Inv v4 μ → d_Rewriter_firstRule_l3 v0 v1 v2 v3 v4 μ Q := by
  intro v4 μ hI W hW
  have key : ∀ (n : Nat) (v4 : Int) (μ : Mem), f v4 μ = n → Inv v4 μ → W v4 μ := by
    intro n
    induction n using Nat.strongRecOn with
    | _ n ih =>
      intro v4 μ hf hI
      exact hW _ _ (hi v4 μ hI W fun v4' μ' hI' hl => ih _ (by omega) v4' μ' rfl hI')
  exact key _ v4 μ rfl hI
def d_Rewriter_redex_j59 (v0 : Nat) (v1 : Nat) (v2 : Nat) (v3 : Int) (v4 : Int) (v5 : Int) (v6 : Int) (μ : Mem) (W12 : Int → Int → Int → Mem → Prop) (Q : Int → Mem → Prop) : Prop := W12 v4 v5 (wr (v6 + 1)) μ
def d_Rewriter_redex_b12 (v0 : Nat) (v1 : Nat) (v2 : Nat) (v3 : Int) (v4 : Int) (v5 : Int) (v6 : Int) (μ : Mem) (W12 : Int → Int → Int → Mem → Prop) (Q : Int → Mem → Prop) : Prop := if v6 < μ v2 1 then (if v6 < v5 then (d_Rewriter_firstRule v0 v1 v2 v6 μ (fun r1 μ2 => if r1 = (-1) then (d_Rewriter_redex_j59 v0 v1 v2 v3 v4 v5 v6 μ2 W12 Q) else (if v3 = 0 then (Q v6 μ2) else (d_Term_end v2 v6 μ2 (fun r3 => d_Rewriter_redex_j59 v0 v1 v2 v3 v6 r3 v6 μ2 W12 Q))))) else (Q v4 μ)) else (Q v4 μ)
def d_Rewriter_redex_l12 (v0 : Nat) (v1 : Nat) (v2 : Nat) (v3 : Int) (v4 : Int) (v5 : Int) (v6 : Int) (μ : Mem) (Q : Int → Mem → Prop) : Prop := ∀ W : Int → Int → Int → Mem → Prop, (∀ (v4 : Int) (v5 : Int) (v6 : Int) (μ : Mem), d_Rewriter_redex_b12 v0 v1 v2 v3 v4 v5 v6 μ W Q → W v4 v5 v6 μ) → W v4 v5 v6 μ
def d_Rewriter_redex (v0 : Nat) (v1 : Nat) (v2 : Nat) (v3 : Int) (μ : Mem) (Q : Int → Mem → Prop) : Prop := d_Rewriter_redex_l12 v0 v1 v2 v3 (-1) (μ v2 1) 0 μ Q
theorem i_Rewriter_redex_l12 {v0 : Nat} {v1 : Nat} {v2 : Nat} {v3 : Int} {Q : Int → Mem → Prop} {Inv : Int → Int → Int → Mem → Prop} (f : Int → Int → Int → Mem → Nat) (hi : ∀ (v4 : Int) (v5 : Int) (v6 : Int) (μ : Mem), Inv v4 v5 v6 μ → ∀ W : Int → Int → Int → Mem → Prop, (∀ (v4' : Int) (v5' : Int) (v6' : Int) (μ' : Mem), Inv v4' v5' v6' μ' → f v4' v5' v6' μ' < f v4 v5 v6 μ → W v4' v5' v6' μ') → d_Rewriter_redex_b12 v0 v1 v2 v3 v4 v5 v6 μ W Q) : ∀ (v4 : Int) (v5 : Int) (v6 : Int) (μ : Mem), Inv v4 v5 v6 μ → d_Rewriter_redex_l12 v0 v1 v2 v3 v4 v5 v6 μ Q := by
  intro v4 v5 v6 μ hI W hW
  have key : ∀ (n : Nat) (v4 : Int) (v5 : Int) (v6 : Int) (μ : Mem), f v4 v5 v6 μ = n → Inv v4 v5 v6 μ → W v4 v5 v6 μ := by
    intro n
    induction n using Nat.strongRecOn with
    | _ n ih =>
      intro v4 v5 v6 μ hf hI
      exact hW _ _ _ _ (hi v4 v5 v6 μ hI W fun v4' v5' v6' μ' hI' hl => ih _ (by omega) v4' v5' v6' μ' rfl hI')
  exact key _ v4 v5 v6 μ rfl hI
def d_Rewriter_build_j153 (v0 : Nat) (v2 : Nat) (v3 : Int) (v4 : Int) (μ : Mem) (Q : Bool → Mem → Prop) : Prop := if v4 = 0 then (Q false μ) else (d_Term_end v2 v3 μ (fun r7 => d_Term_addPart (v0 + 1) v2 r7 (μ v2 1) μ (fun r9 μ10 => if r9 = true then (Q true μ10) else (Q false μ10))))
def d_Rewriter_build_j147 (v0 : Nat) (v1 : Nat) (v2 : Nat) (v3 : Int) (v4 : Int) (v5 : Int) (μ : Mem) (W34 : Int → Int → Mem → Prop) (Q : Bool → Mem → Prop) : Prop := W34 v4 (wr (v5 + 1)) μ
def d_Rewriter_build_j145 (v0 : Nat) (v1 : Nat) (v2 : Nat) (v3 : Int) (v5 : Int) (t0 : Int) (μ : Mem) (W34 : Int → Int → Mem → Prop) (Q : Bool → Mem → Prop) : Prop := d_Rewriter_build_j147 v0 v1 v2 v3 t0 v5 μ W34 Q
def d_Rewriter_build_j144 (v0 : Nat) (v1 : Nat) (v2 : Nat) (v3 : Int) (v5 : Int) (μ : Mem) (W34 : Int → Int → Mem → Prop) (Q : Bool → Mem → Prop) : Prop := d_Rewriter_build_j145 v0 v1 v2 v3 v5 0 μ W34 Q
def d_Rewriter_build_j113 (v0 : Nat) (v1 : Nat) (v2 : Nat) (v3 : Int) (v5 : Int) (t0 : Int) (μ : Mem) (W34 : Int → Int → Mem → Prop) (Q : Bool → Mem → Prop) : Prop := if t0 = (-1) then (d_Rewriter_build_j144 v0 v1 v2 v3 v5 μ W34 Q) else (d_Term_end v2 t0 μ (fun r13 => d_Term_addPart (v0 + 1) v2 t0 r13 μ (fun r15 μ16 => if r15 = true then (d_Rewriter_build_j145 v0 v1 v2 v3 v5 1 μ16 W34 Q) else (d_Rewriter_build_j144 v0 v1 v2 v3 v5 μ16 W34 Q))))
def d_Rewriter_build_j112 (v0 : Nat) (v1 : Nat) (v2 : Nat) (v3 : Int) (v5 : Int) (μ : Mem) (W34 : Int → Int → Mem → Prop) (Q : Bool → Mem → Prop) : Prop := d_Rewriter_build_j113 v0 v1 v2 v3 v5 (-1) μ W34 Q
def d_Rewriter_build_b34 (v0 : Nat) (v1 : Nat) (v2 : Nat) (v3 : Int) (v4 : Int) (v5 : Int) (μ : Mem) (W34 : Int → Int → Mem → Prop) (Q : Bool → Mem → Prop) : Prop := if v4 = 0 then (d_Rewriter_build_j153 v0 v2 v3 v4 μ Q) else (if v5 < μ (dp (μ v1 1)) 1 then (d_Term_get (dp (μ v1 1)) v5 μ (fun r11 => if r11 < 0 then (if wr ((-1) - r11) < 0 then (d_Rewriter_build_j112 v0 v1 v2 v3 v5 μ W34 Q) else (if wr ((-1) - r11) < 8 then ((0 ≤ wr ((-1) - r11) ∧ wr ((-1) - r11) < 8) ∧ d_Rewriter_build_j113 v0 v1 v2 v3 v5 (μ (v0 + 7) (wr ((-1) - r11)).toNat) μ W34 Q) else (d_Rewriter_build_j112 v0 v1 v2 v3 v5 μ W34 Q))) else (d_Term_add (v0 + 1) r11 μ (fun r17 μ18 => d_Rewriter_build_j147 v0 v1 v2 v3 (b2i r17) v5 μ18 W34 Q)))) else (d_Rewriter_build_j153 v0 v2 v3 v4 μ Q))
def d_Rewriter_build_l34 (v0 : Nat) (v1 : Nat) (v2 : Nat) (v3 : Int) (v4 : Int) (v5 : Int) (μ : Mem) (Q : Bool → Mem → Prop) : Prop := ∀ W : Int → Int → Mem → Prop, (∀ (v4 : Int) (v5 : Int) (μ : Mem), d_Rewriter_build_b34 v0 v1 v2 v3 v4 v5 μ W Q → W v4 v5 μ) → W v4 v5 μ
def d_Rewriter_build (v0 : Nat) (v1 : Nat) (v2 : Nat) (v3 : Int) (μ : Mem) (Q : Bool → Mem → Prop) : Prop := d_Rewriter_match v0 v1 v2 v3 μ (fun r1 μ2 => if r1 = true then (d_Term_clear (v0 + 1) μ2 (fun μ4 => d_Term_addPart (v0 + 1) v2 0 v3 μ4 (fun r5 μ6 => d_Rewriter_build_l34 v0 v1 v2 v3 (b2i r5) 0 μ6 Q))) else (Q false μ2))
theorem i_Rewriter_build_l34 {v0 : Nat} {v1 : Nat} {v2 : Nat} {v3 : Int} {Q : Bool → Mem → Prop} {Inv : Int → Int → Mem → Prop} (f : Int → Int → Mem → Nat) (hi : ∀ (v4 : Int) (v5 : Int) (μ : Mem), Inv v4 v5 μ → ∀ W : Int → Int → Mem → Prop, (∀ (v4' : Int) (v5' : Int) (μ' : Mem), Inv v4' v5' μ' → f v4' v5' μ' < f v4 v5 μ → W v4' v5' μ') → d_Rewriter_build_b34 v0 v1 v2 v3 v4 v5 μ W Q) : ∀ (v4 : Int) (v5 : Int) (μ : Mem), Inv v4 v5 μ → d_Rewriter_build_l34 v0 v1 v2 v3 v4 v5 μ Q := by
  intro v4 v5 μ hI W hW
  have key : ∀ (n : Nat) (v4 : Int) (v5 : Int) (μ : Mem), f v4 v5 μ = n → Inv v4 v5 μ → W v4 v5 μ := by
    intro n
    induction n using Nat.strongRecOn with
    | _ n ih =>
      intro v4 v5 μ hf hI
      exact hW _ _ _ (hi v4 v5 μ hI W fun v4' v5' μ' hI' hl => ih _ (by omega) v4' v5' μ' rfl hI')
  exact key _ v4 v5 μ rfl hI
def d_Rewriter_buildFirst (v0 : Nat) (v1 : Nat) (v2 : Nat) (v3 : Int) (μ : Mem) (Q : Bool → Mem → Prop) : Prop := d_Rewriter_firstRule v0 v1 v2 v3 μ (fun r1 μ2 => if r1 = (-1) then (Q false μ2) else (d_State_rule v1 r1 μ2 (fun r3 => d_Rewriter_build v0 r3 v2 v3 μ2 (fun r5 μ6 => if r5 = true then (Q true μ6) else (Q false μ6)))))
def d_Rewriter_step (v0 : Nat) (v1 : Nat) (v2 : Nat) (v3 : Int) (μ : Mem) (Q : Int → Mem → Prop) : Prop := d_Rewriter_redex v0 v1 v2 v3 μ (fun r1 μ2 => if r1 = (-1) then (Q (-1) μ2) else (d_Rewriter_buildFirst v0 v1 v2 r1 μ2 (fun r3 μ4 => if r3 = true then (Q r1 μ4) else (Q (-1) μ4))))
def d_Term_copyFrom_b15 (v0 : Nat) (v1 : Nat) (v2 : Int) (v3 : Int) (μ : Mem) (W15 : Int → Mem → Prop) (Q : Mem → Prop) : Prop := if v3 < v2 then (d_Term_get v1 v3 μ (fun r3 => (0 ≤ v3 ∧ v3 < (ln (v0 + 1) : Int)) ∧ W15 (wr (v3 + 1)) (mup μ (v0 + 1) v3.toNat r3))) else (Q (mup μ v0 1 v2))
def d_Term_copyFrom_l15 (v0 : Nat) (v1 : Nat) (v2 : Int) (v3 : Int) (μ : Mem) (Q : Mem → Prop) : Prop := ∀ W : Int → Mem → Prop, (∀ (v3 : Int) (μ : Mem), d_Term_copyFrom_b15 v0 v1 v2 v3 μ W Q → W v3 μ) → W v3 μ
def d_Term_copyFrom (v0 : Nat) (v1 : Nat) (μ : Mem) (Q : Mem → Prop) : Prop := d_Math_min (μ v1 1) (ln (v0 + 1) : Int) μ (fun r1 => d_Term_copyFrom_l15 v0 v1 r1 0 μ Q)
theorem i_Term_copyFrom_l15 {v0 : Nat} {v1 : Nat} {v2 : Int} {Q : Mem → Prop} {Inv : Int → Mem → Prop} (f : Int → Mem → Nat) (hi : ∀ (v3 : Int) (μ : Mem), Inv v3 μ → ∀ W : Int → Mem → Prop, (∀ (v3' : Int) (μ' : Mem), Inv v3' μ' → f v3' μ' < f v3 μ → W v3' μ') → d_Term_copyFrom_b15 v0 v1 v2 v3 μ W Q) : ∀ (v3 : Int) (μ : Mem), Inv v3 μ → d_Term_copyFrom_l15 v0 v1 v2 v3 μ Q := by
  intro v3 μ hI W hW
  have key : ∀ (n : Nat) (v3 : Int) (μ : Mem), f v3 μ = n → Inv v3 μ → W v3 μ := by
    intro n
    induction n using Nat.strongRecOn with
    | _ n ih =>
      intro v3 μ hf hI
      exact hW _ _ (hi v3 μ hI W fun v3' μ' hI' hl => ih _ (by omega) v3' μ' rfl hI')
  exact key _ v3 μ rfl hI
def d_Parser_readStep (μ : Mem) (Q : Bool → Mem → Prop) : Prop := d_Parser_next μ (fun μ2 => d_Parser_readDigit (μ2 77 1) μ2 (fun r3 μ4 => if r3 = true then (d_Parser_digit μ4 (fun r5 => d_State_term 77 r5 μ4 (fun r7 => d_Rewriter_step 130 77 r7 1 μ4 (fun r9 μ10 => if r9 = (-1) then (d_Parser_fail 4 μ10 (fun r11 μ12 => Q r11 μ12)) else (d_Term_copyFrom r7 131 μ10 (fun μ14 => d_Parser_next μ14 (fun μ16 => Q true μ16))))))) else (Q false μ4)))
def d_Parser_run_j194 (v2 : Int) (t0 : Int) (μ : Mem) (W60 : Int → Mem → Prop) (Q : Bool → Mem → Prop) : Prop := if t0 = 0 then (Q false μ) else (W60 (wr (v2 + 1)) μ)
def d_Parser_run_b60 (v2 : Int) (μ : Mem) (W60 : Int → Mem → Prop) (Q : Bool → Mem → Prop) : Prop := if 500 < v2 then (Q true μ) else (if μ 72 9 = 0 then (Q true μ) else (if μ 72 9 = 59 then (d_Parser_next μ (fun μ10 => d_Parser_isWord 1 μ10 (fun r11 => if r11 = true then (d_Parser_readSymbol μ10 (fun r13 μ14 => d_Parser_run_j194 v2 (b2i r13) μ14 W60 Q)) else (d_Parser_isWord 2 μ10 (fun r15 => if r15 = true then (d_Parser_readRule μ10 (fun r17 μ18 => d_Parser_run_j194 v2 (b2i r17) μ18 W60 Q)) else (d_Parser_isWord 3 μ10 (fun r19 => if r19 = true then (d_Parser_readPlainTerm μ10 (fun r21 μ22 => d_Parser_run_j194 v2 (b2i r21) μ22 W60 Q)) else (d_Parser_isWord 4 μ10 (fun r23 => if r23 = true then (d_Parser_readCopy μ10 (fun r25 μ26 => d_Parser_run_j194 v2 (b2i r25) μ26 W60 Q)) else (d_Parser_isWord 5 μ10 (fun r27 => if r27 = true then (d_Parser_readFlip μ10 (fun r29 μ30 => d_Parser_run_j194 v2 (b2i r29) μ30 W60 Q)) else (d_Parser_isWord 6 μ10 (fun r31 => if r31 = true then (d_Parser_readStep μ10 (fun r33 μ34 => d_Parser_run_j194 v2 (b2i r33) μ34 W60 Q)) else (d_Parser_fail 1 μ10 (fun r35 μ36 => d_Parser_run_j194 v2 (b2i r35) μ36 W60 Q))))))))))))))) else (d_Parser_fail 1 μ (fun r37 μ38 => Q r37 μ38))))
def d_Parser_run_l60 (v2 : Int) (μ : Mem) (Q : Bool → Mem → Prop) : Prop := ∀ W : Int → Mem → Prop, (∀ (v2 : Int) (μ : Mem), d_Parser_run_b60 v2 μ W Q → W v2 μ) → W v2 μ
def d_Parser_run (v1 : Int) (μ : Mem) (Q : Bool → Mem → Prop) : Prop := d_State_clear 77 (mup (mup (mup (mup (mup μ 72 8 v1) 72 11 0) 72 0 0) 72 1 (-1)) 73 0 0) (fun μ2 => d_Parser_next μ2 (fun μ4 => d_Parser_isWord 0 μ4 (fun r5 => if r5 = true then (d_Parser_next μ4 (fun μ8 => d_Parser_run_l60 0 μ8 Q)) else (d_Parser_fail 1 μ4 (fun r39 μ40 => Q r39 μ40)))))
theorem i_Parser_run_l60 {Q : Bool → Mem → Prop} {Inv : Int → Mem → Prop} (f : Int → Mem → Nat) (hi : ∀ (v2 : Int) (μ : Mem), Inv v2 μ → ∀ W : Int → Mem → Prop, (∀ (v2' : Int) (μ' : Mem), Inv v2' μ' → f v2' μ' < f v2 μ → W v2' μ') → d_Parser_run_b60 v2 μ W Q) : ∀ (v2 : Int) (μ : Mem), Inv v2 μ → d_Parser_run_l60 v2 μ Q := by
  intro v2 μ hI W hW
  have key : ∀ (n : Nat) (v2 : Int) (μ : Mem), f v2 μ = n → Inv v2 μ → W v2 μ := by
    intro n
    induction n using Nat.strongRecOn with
    | _ n ih =>
      intro v2 μ hf hI
      exact hW _ _ (hi v2 μ hI W fun v2' μ' hI' hl => ih _ (by omega) v2' μ' rfl hI')
  exact key _ v2 μ rfl hI
def d_Signature_copyFrom_b48 (v0 : Nat) (v1 : Nat) (v2 : Int) (μ : Mem) (W48 : Int → Mem → Prop) (Q : Mem → Prop) : Prop := if v2 < 48 then (if v2 < 48 then ((0 ≤ v2 ∧ v2 < 48) ∧ (0 ≤ v2 ∧ v2 < 48) ∧ W48 (wr (v2 + 1)) (mup μ (v0 + 3) v2.toNat (μ (v1 + 3) v2.toNat))) else (Q μ)) else (Q μ)
def d_Signature_copyFrom_l48 (v0 : Nat) (v1 : Nat) (v2 : Int) (μ : Mem) (Q : Mem → Prop) : Prop := ∀ W : Int → Mem → Prop, (∀ (v2 : Int) (μ : Mem), d_Signature_copyFrom_b48 v0 v1 v2 μ W Q → W v2 μ) → W v2 μ
def d_Signature_copyFrom_b10 (v0 : Nat) (v1 : Nat) (v2 : Int) (μ : Mem) (W10 : Int → Mem → Prop) (Q : Mem → Prop) : Prop := if v2 < 8 then ((0 ≤ v2 ∧ v2 < 8) ∧ (0 ≤ v2 ∧ v2 < 8) ∧ (0 ≤ v2 ∧ v2 < 8) ∧ (0 ≤ v2 ∧ v2 < 8) ∧ W10 (wr (v2 + 1)) (mup (mup μ (v0 + 1) v2.toNat (μ (v1 + 1) v2.toNat)) (v0 + 2) v2.toNat ((mup μ (v0 + 1) v2.toNat (μ (v1 + 1) v2.toNat)) (v1 + 2) v2.toNat))) else (d_Signature_copyFrom_l48 v0 v1 0 μ Q)
def d_Signature_copyFrom_l10 (v0 : Nat) (v1 : Nat) (v2 : Int) (μ : Mem) (Q : Mem → Prop) : Prop := ∀ W : Int → Mem → Prop, (∀ (v2 : Int) (μ : Mem), d_Signature_copyFrom_b10 v0 v1 v2 μ W Q → W v2 μ) → W v2 μ
def d_Signature_copyFrom (v0 : Nat) (v1 : Nat) (μ : Mem) (Q : Mem → Prop) : Prop := d_Signature_copyFrom_l10 v0 v1 0 (mup μ v0 0 (μ v1 0)) Q
theorem i_Signature_copyFrom_l48 {v0 : Nat} {v1 : Nat} {Q : Mem → Prop} {Inv : Int → Mem → Prop} (f : Int → Mem → Nat) (hi : ∀ (v2 : Int) (μ : Mem), Inv v2 μ → ∀ W : Int → Mem → Prop, (∀ (v2' : Int) (μ' : Mem), Inv v2' μ' → f v2' μ' < f v2 μ → W v2' μ') → d_Signature_copyFrom_b48 v0 v1 v2 μ W Q) : ∀ (v2 : Int) (μ : Mem), Inv v2 μ → d_Signature_copyFrom_l48 v0 v1 v2 μ Q := by
  intro v2 μ hI W hW
  have key : ∀ (n : Nat) (v2 : Int) (μ : Mem), f v2 μ = n → Inv v2 μ → W v2 μ := by
    intro n
    induction n using Nat.strongRecOn with
    | _ n ih =>
      intro v2 μ hf hI
      exact hW _ _ (hi v2 μ hI W fun v2' μ' hI' hl => ih _ (by omega) v2' μ' rfl hI')
  exact key _ v2 μ rfl hI
theorem i_Signature_copyFrom_l10 {v0 : Nat} {v1 : Nat} {Q : Mem → Prop} {Inv : Int → Mem → Prop} (f : Int → Mem → Nat) (hi : ∀ (v2 : Int) (μ : Mem), Inv v2 μ → ∀ W : Int → Mem → Prop, (∀ (v2' : Int) (μ' : Mem), Inv v2' μ' → f v2' μ' < f v2 μ → W v2' μ') → d_Signature_copyFrom_b10 v0 v1 v2 μ W Q) : ∀ (v2 : Int) (μ : Mem), Inv v2 μ → d_Signature_copyFrom_l10 v0 v1 v2 μ Q := by
  intro v2 μ hI W hW
  have key : ∀ (n : Nat) (v2 : Int) (μ : Mem), f v2 μ = n → Inv v2 μ → W v2 μ := by
    intro n
    induction n using Nat.strongRecOn with
    | _ n ih =>
      intro v2 μ hf hI
      exact hW _ _ (hi v2 μ hI W fun v2' μ' hI' hl => ih _ (by omega) v2' μ' rfl hI')
  exact key _ v2 μ rfl hI
def d_Rule_copyFrom (v0 : Nat) (v1 : Nat) (μ : Mem) (Q : Mem → Prop) : Prop := d_Term_copyFrom (dp (μ v0 0)) (dp (μ v1 0)) μ (fun μ2 => d_Term_copyFrom (dp (μ2 v0 1)) (dp (μ2 v1 1)) μ2 (fun μ4 => Q μ4))
def d_State_copyFrom_b47 (v0 : Nat) (v1 : Nat) (v2 : Int) (μ : Mem) (W47 : Int → Mem → Prop) (Q : Mem → Prop) : Prop := if v2 < μ v0 1 then (d_State_term v0 v2 μ (fun r7 => d_State_term v1 v2 μ (fun r9 => d_Term_copyFrom r7 r9 μ (fun μ12 => W47 (wr (v2 + 1)) μ12)))) else (Q μ)
def d_State_copyFrom_l47 (v0 : Nat) (v1 : Nat) (v2 : Int) (μ : Mem) (Q : Mem → Prop) : Prop := ∀ W : Int → Mem → Prop, (∀ (v2 : Int) (μ : Mem), d_State_copyFrom_b47 v0 v1 v2 μ W Q → W v2 μ) → W v2 μ
def d_State_copyFrom_b18 (v0 : Nat) (v1 : Nat) (v2 : Int) (μ : Mem) (W18 : Int → Mem → Prop) (Q : Mem → Prop) : Prop := if v2 < μ v0 0 then (d_State_rule v0 v2 μ (fun r1 => d_State_rule v1 v2 μ (fun r3 => d_Rule_copyFrom r1 r3 μ (fun μ6 => W18 (wr (v2 + 1)) μ6)))) else (d_State_copyFrom_l47 v0 v1 0 μ Q)
def d_State_copyFrom_l18 (v0 : Nat) (v1 : Nat) (v2 : Int) (μ : Mem) (Q : Mem → Prop) : Prop := ∀ W : Int → Mem → Prop, (∀ (v2 : Int) (μ : Mem), d_State_copyFrom_b18 v0 v1 v2 μ W Q → W v2 μ) → W v2 μ
def d_State_copyFrom (v0 : Nat) (v1 : Nat) (μ : Mem) (Q : Mem → Prop) : Prop := d_State_copyFrom_l18 v0 v1 0 (mup (mup μ v0 0 (μ v1 0)) v0 1 ((mup μ v0 0 (μ v1 0)) v1 1)) Q
theorem i_State_copyFrom_l47 {v0 : Nat} {v1 : Nat} {Q : Mem → Prop} {Inv : Int → Mem → Prop} (f : Int → Mem → Nat) (hi : ∀ (v2 : Int) (μ : Mem), Inv v2 μ → ∀ W : Int → Mem → Prop, (∀ (v2' : Int) (μ' : Mem), Inv v2' μ' → f v2' μ' < f v2 μ → W v2' μ') → d_State_copyFrom_b47 v0 v1 v2 μ W Q) : ∀ (v2 : Int) (μ : Mem), Inv v2 μ → d_State_copyFrom_l47 v0 v1 v2 μ Q := by
  intro v2 μ hI W hW
  have key : ∀ (n : Nat) (v2 : Int) (μ : Mem), f v2 μ = n → Inv v2 μ → W v2 μ := by
    intro n
    induction n using Nat.strongRecOn with
    | _ n ih =>
      intro v2 μ hf hI
      exact hW _ _ (hi v2 μ hI W fun v2' μ' hI' hl => ih _ (by omega) v2' μ' rfl hI')
  exact key _ v2 μ rfl hI
theorem i_State_copyFrom_l18 {v0 : Nat} {v1 : Nat} {Q : Mem → Prop} {Inv : Int → Mem → Prop} (f : Int → Mem → Nat) (hi : ∀ (v2 : Int) (μ : Mem), Inv v2 μ → ∀ W : Int → Mem → Prop, (∀ (v2' : Int) (μ' : Mem), Inv v2' μ' → f v2' μ' < f v2 μ → W v2' μ') → d_State_copyFrom_b18 v0 v1 v2 μ W Q) : ∀ (v2 : Int) (μ : Mem), Inv v2 μ → d_State_copyFrom_l18 v0 v1 v2 μ Q := by
  intro v2 μ hI W hW
  have key : ∀ (n : Nat) (v2 : Int) (μ : Mem), f v2 μ = n → Inv v2 μ → W v2 μ := by
    intro n
    induction n using Nat.strongRecOn with
    | _ n ih =>
      intro v2 μ hf hI
      exact hW _ _ (hi v2 μ hI W fun v2' μ' hI' hl => ih _ (by omega) v2' μ' rfl hI')
  exact key _ v2 μ rfl hI
def d_OB_adopt (v1 : Nat) (μ : Mem) (Q : Mem → Prop) : Prop := d_State_copyFrom 5 v1 μ (fun μ2 => Q (mup (mup μ2 247 0 0) 139 0 1))
def d_OB_parseSystem_j15 (μ : Mem) (Q : Int → Mem → Prop) (X : Nat → Mem → Prop) : Prop := X 1 (thr μ)
def d_OB_parseSystem (v1 : Int) (μ : Mem) (Q : Int → Mem → Prop) (X : Nat → Mem → Prop) : Prop := if v1 < 0 then (d_OB_parseSystem_j15 μ Q X) else (if μ 72 4 < v1 then (d_OB_parseSystem_j15 μ Q X) else (d_Parser_run v1 μ (fun r1 μ2 => if r1 = true then (d_Signature_copyFrom 1 73 (mup (mup μ2 72 4 0) 0 0 1) (fun μ4 => d_OB_adopt 77 μ4 (fun μ6 => Q ((mup (mup μ6 0 11 0) 0 12 0) 5 0) (mup (mup μ6 0 11 0) 0 12 0)))) else (X 2 (thr (mup μ2 72 4 0))))))
def d_OB_requireSystem (μ : Mem) (Q : Mem → Prop) (X : Nat → Mem → Prop) : Prop := if μ 0 0 = 0 then (X 0 (thr μ)) else (Q μ)
def d_OB_ruleCount (μ : Mem) (Q : Int → Mem → Prop) (X : Nat → Mem → Prop) : Prop := d_OB_requireSystem μ (fun μ2 => Q (μ2 5 0) μ2) X
def d_OB_termCount (μ : Mem) (Q : Int → Mem → Prop) (X : Nat → Mem → Prop) : Prop := d_OB_requireSystem μ (fun μ2 => Q (μ2 5 1) μ2) X
def d_OB_requireIndex_j9 (μ : Mem) (Q : Mem → Prop) (X : Nat → Mem → Prop) : Prop := X 1 (thr μ)
def d_OB_requireIndex (v1 : Int) (v2 : Int) (μ : Mem) (Q : Mem → Prop) (X : Nat → Mem → Prop) : Prop := if v1 < 0 then (d_OB_requireIndex_j9 μ Q X) else (if v1 < v2 then (Q μ) else (d_OB_requireIndex_j9 μ Q X))
def d_OB_requireTerm (v1 : Int) (μ : Mem) (Q : Nat → Mem → Prop) (X : Nat → Mem → Prop) : Prop := d_OB_requireSystem μ (fun μ2 => d_OB_requireIndex v1 (μ2 5 1) μ2 (fun μ4 => d_State_term 5 v1 μ4 (fun r5 => Q r5 μ4)) X) X
def d_OB_termSize (v1 : Int) (μ : Mem) (Q : Int → Mem → Prop) (X : Nat → Mem → Prop) : Prop := d_OB_requireTerm v1 μ (fun r1 μ2 => Q (μ2 r1 1) μ2) X
def d_OB_requireNode (v1 : Int) (v2 : Int) (μ : Mem) (Q : Nat → Mem → Prop) (X : Nat → Mem → Prop) : Prop := d_OB_requireTerm v1 μ (fun r1 μ2 => d_OB_requireIndex v2 (μ2 r1 1) μ2 (fun μ4 => Q r1 μ4) X) X
def d_OB_subtermSize (v1 : Int) (v2 : Int) (μ : Mem) (Q : Int → Mem → Prop) (X : Nat → Mem → Prop) : Prop := d_OB_requireNode v1 v2 μ (fun r1 μ2 => d_Term_end r1 v2 μ2 (fun r3 => Q (wr (r3 - v2)) μ2)) X
def d_OB_requireRule (v1 : Int) (μ : Mem) (Q : Nat → Mem → Prop) (X : Nat → Mem → Prop) : Prop := d_OB_requireSystem μ (fun μ2 => d_OB_requireIndex v1 (μ2 5 0) μ2 (fun μ4 => d_State_rule 5 v1 μ4 (fun r5 => Q r5 μ4)) X) X
def d_OB_matches (v1 : Int) (v2 : Int) (v3 : Int) (μ : Mem) (Q : Bool → Mem → Prop) (X : Nat → Mem → Prop) : Prop := d_OB_requireRule v1 μ (fun r1 μ2 => d_OB_requireNode v2 v3 μ2 (fun r3 μ4 => d_Rewriter_match 57 r1 r3 v3 μ4 (fun r5 μ6 => Q r5 μ6)) X) X
def d_OB_ruleAt (v1 : Int) (v2 : Int) (μ : Mem) (Q : Int → Mem → Prop) (X : Nat → Mem → Prop) : Prop := d_OB_requireNode v1 v2 μ (fun r1 μ2 => d_Rewriter_firstRule 57 5 r1 v2 μ2 (fun r3 μ4 => Q r3 μ4)) X
def d_Rewriter_countRedexes_j29 (v0 : Nat) (v1 : Nat) (v2 : Nat) (v3 : Int) (v4 : Int) (μ : Mem) (W5 : Int → Int → Mem → Prop) (Q : Int → Mem → Prop) : Prop := W5 v3 (wr (v4 + 1)) μ
def d_Rewriter_countRedexes_b5 (v0 : Nat) (v1 : Nat) (v2 : Nat) (v3 : Int) (v4 : Int) (μ : Mem) (W5 : Int → Int → Mem → Prop) (Q : Int → Mem → Prop) : Prop := if v4 < μ v2 1 then (d_Rewriter_firstRule v0 v1 v2 v4 μ (fun r1 μ2 => if r1 = (-1) then (d_Rewriter_countRedexes_j29 v0 v1 v2 v3 v4 μ2 W5 Q) else (d_Rewriter_countRedexes_j29 v0 v1 v2 (wr (v3 + 1)) v4 μ2 W5 Q))) else (Q v3 μ)
def d_Rewriter_countRedexes_l5 (v0 : Nat) (v1 : Nat) (v2 : Nat) (v3 : Int) (v4 : Int) (μ : Mem) (Q : Int → Mem → Prop) : Prop := ∀ W : Int → Int → Mem → Prop, (∀ (v3 : Int) (v4 : Int) (μ : Mem), d_Rewriter_countRedexes_b5 v0 v1 v2 v3 v4 μ W Q → W v3 v4 μ) → W v3 v4 μ
def d_Rewriter_countRedexes (v0 : Nat) (v1 : Nat) (v2 : Nat) (μ : Mem) (Q : Int → Mem → Prop) : Prop := d_Rewriter_countRedexes_l5 v0 v1 v2 0 0 μ Q
theorem i_Rewriter_countRedexes_l5 {v0 : Nat} {v1 : Nat} {v2 : Nat} {Q : Int → Mem → Prop} {Inv : Int → Int → Mem → Prop} (f : Int → Int → Mem → Nat) (hi : ∀ (v3 : Int) (v4 : Int) (μ : Mem), Inv v3 v4 μ → ∀ W : Int → Int → Mem → Prop, (∀ (v3' : Int) (v4' : Int) (μ' : Mem), Inv v3' v4' μ' → f v3' v4' μ' < f v3 v4 μ → W v3' v4' μ') → d_Rewriter_countRedexes_b5 v0 v1 v2 v3 v4 μ W Q) : ∀ (v3 : Int) (v4 : Int) (μ : Mem), Inv v3 v4 μ → d_Rewriter_countRedexes_l5 v0 v1 v2 v3 v4 μ Q := by
  intro v3 v4 μ hI W hW
  have key : ∀ (n : Nat) (v3 : Int) (v4 : Int) (μ : Mem), f v3 v4 μ = n → Inv v3 v4 μ → W v3 v4 μ := by
    intro n
    induction n using Nat.strongRecOn with
    | _ n ih =>
      intro v3 v4 μ hf hI
      exact hW _ _ _ (hi v3 v4 μ hI W fun v3' v4' μ' hI' hl => ih _ (by omega) v3' v4' μ' rfl hI')
  exact key _ v3 v4 μ rfl hI
def d_OB_redexCount (v1 : Int) (μ : Mem) (Q : Int → Mem → Prop) (X : Nat → Mem → Prop) : Prop := d_OB_requireTerm v1 μ (fun r1 μ2 => d_Rewriter_countRedexes 57 5 r1 μ2 (fun r3 μ4 => Q r3 μ4)) X
def d_OB_innermostRedex (v1 : Int) (μ : Mem) (Q : Int → Mem → Prop) (X : Nat → Mem → Prop) : Prop := d_OB_requireTerm v1 μ (fun r1 μ2 => d_Rewriter_redex 57 5 r1 1 μ2 (fun r3 μ4 => Q r3 μ4)) X
def d_OB_outermostRedex (v1 : Int) (μ : Mem) (Q : Int → Mem → Prop) (X : Nat → Mem → Prop) : Prop := d_OB_requireTerm v1 μ (fun r1 μ2 => d_Rewriter_redex 57 5 r1 0 μ2 (fun r3 μ4 => Q r3 μ4)) X
def d_OB_isNormalForm (v1 : Int) (μ : Mem) (Q : Bool → Mem → Prop) (X : Nat → Mem → Prop) : Prop := d_OB_requireTerm v1 μ (fun r1 μ2 => d_Rewriter_redex 57 5 r1 0 μ2 (fun r3 μ4 => if r3 = (-1) then (Q true μ4) else (Q false μ4))) X
def d_Rewriter_reduce_b11 (v0 : Nat) (v1 : Nat) (v3 : Int) (v4 : Int) (v5 : Int) (μ : Mem) (W11 : Int → Mem → Prop) (Q : Int → Mem → Prop) : Prop := if v4 < v5 then (Q (-1) μ) else (d_Rewriter_redex v0 v1 (v0 + 3) v3 μ (fun r3 μ4 => if r3 = (-1) then (Q v5 μ4) else (if v5 = v4 then (Q (-1) μ4) else (d_Rewriter_buildFirst v0 v1 (v0 + 3) r3 μ4 (fun r5 μ6 => if r5 = true then (d_Term_copyFrom (v0 + 3) (v0 + 1) μ6 (fun μ8 => W11 (wr (v5 + 1)) μ8)) else (Q (-1) μ6))))))
def d_Rewriter_reduce_l11 (v0 : Nat) (v1 : Nat) (v3 : Int) (v4 : Int) (v5 : Int) (μ : Mem) (Q : Int → Mem → Prop) : Prop := ∀ W : Int → Mem → Prop, (∀ (v5 : Int) (μ : Mem), d_Rewriter_reduce_b11 v0 v1 v3 v4 v5 μ W Q → W v5 μ) → W v5 μ
def d_Rewriter_reduce (v0 : Nat) (v1 : Nat) (v2 : Nat) (v3 : Int) (v4 : Int) (μ : Mem) (Q : Int → Mem → Prop) : Prop := d_Term_copyFrom (v0 + 3) v2 μ (fun μ2 => d_Rewriter_reduce_l11 v0 v1 v3 v4 0 μ2 Q)
theorem i_Rewriter_reduce_l11 {v0 : Nat} {v1 : Nat} {v3 : Int} {v4 : Int} {Q : Int → Mem → Prop} {Inv : Int → Mem → Prop} (f : Int → Mem → Nat) (hi : ∀ (v5 : Int) (μ : Mem), Inv v5 μ → ∀ W : Int → Mem → Prop, (∀ (v5' : Int) (μ' : Mem), Inv v5' μ' → f v5' μ' < f v5 μ → W v5' μ') → d_Rewriter_reduce_b11 v0 v1 v3 v4 v5 μ W Q) : ∀ (v5 : Int) (μ : Mem), Inv v5 μ → d_Rewriter_reduce_l11 v0 v1 v3 v4 v5 μ Q := by
  intro v5 μ hI W hW
  have key : ∀ (n : Nat) (v5 : Int) (μ : Mem), f v5 μ = n → Inv v5 μ → W v5 μ := by
    intro n
    induction n using Nat.strongRecOn with
    | _ n ih =>
      intro v5 μ hf hI
      exact hW _ _ (hi v5 μ hI W fun v5' μ' hI' hl => ih _ (by omega) v5' μ' rfl hI')
  exact key _ v5 μ rfl hI
def d_OB_stepsInnermost (v1 : Int) (μ : Mem) (Q : Int → Mem → Prop) (X : Nat → Mem → Prop) : Prop := d_OB_requireTerm v1 μ (fun r1 μ2 => d_Rewriter_reduce 57 5 r1 1 200 μ2 (fun r3 μ4 => Q r3 μ4)) X
def d_OB_stepsOutermost (v1 : Int) (μ : Mem) (Q : Int → Mem → Prop) (X : Nat → Mem → Prop) : Prop := d_OB_requireTerm v1 μ (fun r1 μ2 => d_Rewriter_reduce 57 5 r1 0 200 μ2 (fun r3 μ4 => Q r3 μ4)) X
def d_OB_normalFormSize (v1 : Int) (μ : Mem) (Q : Int → Mem → Prop) (X : Nat → Mem → Prop) : Prop := d_OB_requireTerm v1 μ (fun r1 μ2 => d_Rewriter_reduce 57 5 r1 1 200 μ2 (fun r3 μ4 => if r3 = (-1) then (Q (-1) μ4) else (Q (μ4 60 1) μ4))) X
def d_PairList_has (v1 : Int) (μ : Mem) (Q : Bool → Prop) : Prop := if v1 < 0 then (Q false) else (if v1 < 20 then (Q true) else (Q false))
def d_Unifier_clear (v0 : Nat) (μ : Mem) (Q : Mem → Prop) : Prop := d_Arrays_fill (v0 + 5) (-1) (mup μ v0 0 0) (fun μ2 => Q μ2)
def d_Unifier_shareVariable_j41 (v0 : Nat) (v1 : Int) (v2 : Int) (μ : Mem) (Q : Mem → Prop) : Prop := (0 ≤ v2 ∧ v2 < 16) ∧ (0 ≤ v1 ∧ v1 < 160) ∧ Q (mup μ (v0 + 2) v1.toNat (μ (v0 + 5) v2.toNat))
def d_Unifier_shareVariable (v0 : Nat) (v1 : Int) (v2 : Int) (μ : Mem) (Q : Mem → Prop) : Prop := if v2 < 0 then (Q μ) else (if v2 < 16 then (if v1 < 0 then (Q μ) else (if v1 < 160 then ((0 ≤ v2 ∧ v2 < 16) ∧ if μ (v0 + 5) v2.toNat = (-1) then ((0 ≤ v2 ∧ v2 < 16) ∧ d_Unifier_shareVariable_j41 v0 v1 v2 (mup μ (v0 + 5) v2.toNat v1) Q) else (d_Unifier_shareVariable_j41 v0 v1 v2 μ Q)) else (Q μ))) else (Q μ))
def d_Unifier_load_j110 (v0 : Nat) (v1 : Nat) (v2 : Int) (v3 : Int) (v4 : Int) (μ : Mem) (W8 : Int → Mem → Prop) (Q : Int → Mem → Prop) : Prop := W8 (wr (v4 + 1)) (mup μ v0 0 (wr ((μ v0 0) + 1)))
def d_Unifier_load_j68 (v0 : Nat) (v1 : Nat) (v2 : Int) (v3 : Int) (v4 : Int) (v5 : Int) (v6 : Int) (t0 : Nat) (t1 : Int) (t2 : Int) (μ : Mem) (W8 : Int → Mem → Prop) (Q : Int → Mem → Prop) : Prop := (0 ≤ t1 ∧ t1 < (ln t0 : Int)) ∧ d_Term_end v1 v4 (mup μ t0 t1.toNat t2) (fun r3 => (0 ≤ v6 ∧ v6 < 160) ∧ (0 ≤ v6 ∧ v6 < 160) ∧ if v5 < 0 then (d_Unifier_shareVariable v0 v6 (wr ((wr (v2 - 1)) - v5)) (mup (mup (mup μ t0 t1.toNat t2) (v0 + 3) v6.toNat (wr (v3 + r3))) (v0 + 2) v6.toNat v6) (fun μ6 => d_Unifier_load_j110 v0 v1 v2 v3 v4 μ6 W8 Q)) else (d_Unifier_load_j110 v0 v1 v2 v3 v4 (mup (mup (mup μ t0 t1.toNat t2) (v0 + 3) v6.toNat (wr (v3 + r3))) (v0 + 2) v6.toNat v6) W8 Q))
def d_Unifier_load_b8 (v0 : Nat) (v1 : Nat) (v2 : Int) (v3 : Int) (v4 : Int) (μ : Mem) (W8 : Int → Mem → Prop) (Q : Int → Mem → Prop) : Prop := if v4 < μ v1 1 then (if μ v0 0 < 0 then (Q v3 μ) else (if μ v0 0 < 160 then (d_Term_get v1 v4 μ (fun r1 => if r1 < 0 then (d_Unifier_load_j68 v0 v1 v2 v3 v4 r1 (μ v0 0) (v0 + 1) (μ v0 0) (wr (r1 - v2)) μ W8 Q) else (d_Unifier_load_j68 v0 v1 v2 v3 v4 r1 (μ v0 0) (v0 + 1) (μ v0 0) r1 μ W8 Q))) else (Q v3 μ))) else (Q v3 μ)
def d_Unifier_load_l8 (v0 : Nat) (v1 : Nat) (v2 : Int) (v3 : Int) (v4 : Int) (μ : Mem) (Q : Int → Mem → Prop) : Prop := ∀ W : Int → Mem → Prop, (∀ (v4 : Int) (μ : Mem), d_Unifier_load_b8 v0 v1 v2 v3 v4 μ W Q → W v4 μ) → W v4 μ
def d_Unifier_load (v0 : Nat) (v1 : Nat) (v2 : Int) (μ : Mem) (Q : Int → Mem → Prop) : Prop := d_Unifier_load_l8 v0 v1 v2 (μ v0 0) 0 μ Q
theorem i_Unifier_load_l8 {v0 : Nat} {v1 : Nat} {v2 : Int} {v3 : Int} {Q : Int → Mem → Prop} {Inv : Int → Mem → Prop} (f : Int → Mem → Nat) (hi : ∀ (v4 : Int) (μ : Mem), Inv v4 μ → ∀ W : Int → Mem → Prop, (∀ (v4' : Int) (μ' : Mem), Inv v4' μ' → f v4' μ' < f v4 μ → W v4' μ') → d_Unifier_load_b8 v0 v1 v2 v3 v4 μ W Q) : ∀ (v4 : Int) (μ : Mem), Inv v4 μ → d_Unifier_load_l8 v0 v1 v2 v3 v4 μ Q := by
  intro v4 μ hI W hW
  have key : ∀ (n : Nat) (v4 : Int) (μ : Mem), f v4 μ = n → Inv v4 μ → W v4 μ := by
    intro n
    induction n using Nat.strongRecOn with
    | _ n ih =>
      intro v4 μ hf hI
      exact hW _ _ (hi v4 μ hI W fun v4' μ' hI' hl => ih _ (by omega) v4' μ' rfl hI')
  exact key _ v4 μ rfl hI
def d_Unifier_push (v0 : Nat) (v1 : Int) (μ : Mem) (Q : Mem → Prop) : Prop := if μ v0 7 < 0 then (Q μ) else (if μ v0 7 < 962 then ((0 ≤ μ v0 7 ∧ μ v0 7 < 962) ∧ Q (mup (mup μ (v0 + 6) (μ v0 7).toNat v1) v0 7 (wr (((mup μ (v0 + 6) (μ v0 7).toNat v1) v0 7) + 1)))) else (Q μ))
def d_Unifier_pop (v0 : Nat) (μ : Mem) (Q : Int → Mem → Prop) : Prop := if 0 < μ v0 7 then (if 962 < μ v0 7 then (Q (-1) μ) else ((0 ≤ (mup μ v0 7 (wr ((μ v0 7) - 1))) v0 7 ∧ (mup μ v0 7 (wr ((μ v0 7) - 1))) v0 7 < 962) ∧ Q ((mup μ v0 7 (wr ((μ v0 7) - 1))) (v0 + 6) ((mup μ v0 7 (wr ((μ v0 7) - 1))) v0 7).toNat) (mup μ v0 7 (wr ((μ v0 7) - 1))))) else (Q (-1) μ)
def d_Unifier_root_b4 (v0 : Nat) (v2 : Int) (v3 : Int) (μ : Mem) (W4 : Int → Int → Prop) (Q : Int → Prop) : Prop := if v3 < 160 then (if v2 < 0 then (Q v2) else (if v2 < 160 then ((0 ≤ v2 ∧ v2 < 160) ∧ if μ (v0 + 2) v2.toNat = v2 then (Q v2) else ((0 ≤ v2 ∧ v2 < 160) ∧ W4 (μ (v0 + 2) v2.toNat) (wr (v3 + 1)))) else (Q v2))) else (Q v2)
def d_Unifier_root_l4 (v0 : Nat) (v2 : Int) (v3 : Int) (μ : Mem) (Q : Int → Prop) : Prop := ∀ W : Int → Int → Prop, (∀ (v2 : Int) (v3 : Int), d_Unifier_root_b4 v0 v2 v3 μ W Q → W v2 v3) → W v2 v3
def d_Unifier_root (v0 : Nat) (v1 : Int) (μ : Mem) (Q : Int → Prop) : Prop := d_Unifier_root_l4 v0 v1 0 μ Q
theorem i_Unifier_root_l4 {v0 : Nat} {μ : Mem} {Q : Int → Prop} {Inv : Int → Int → Prop} (f : Int → Int → Nat) (hi : ∀ (v2 : Int) (v3 : Int), Inv v2 v3 → ∀ W : Int → Int → Prop, (∀ (v2' : Int) (v3' : Int), Inv v2' v3' → f v2' v3' < f v2 v3 → W v2' v3') → d_Unifier_root_b4 v0 v2 v3 μ W Q) : ∀ (v2 : Int) (v3 : Int), Inv v2 v3 → d_Unifier_root_l4 v0 v2 v3 μ Q := by
  intro v2 v3 hI W hW
  have key : ∀ (n : Nat) (v2 : Int) (v3 : Int), f v2 v3 = n → Inv v2 v3 → W v2 v3 := by
    intro n
    induction n using Nat.strongRecOn with
    | _ n ih =>
      intro v2 v3 hf hI
      exact hW _ _ (hi v2 v3 hI W fun v2' v3' hI' hl => ih _ (by omega) v2' v3' rfl hI')
  exact key _ v2 v3 rfl hI
def d_Unifier_label (v0 : Nat) (v1 : Int) (μ : Mem) (Q : Int → Prop) : Prop := if v1 < 0 then (Q (-2147483648)) else (if v1 < 160 then ((0 ≤ v1 ∧ v1 < 160) ∧ Q (μ (v0 + 1) v1.toNat)) else (Q (-2147483648)))
def d_Unifier_hang (v0 : Nat) (v1 : Int) (v2 : Int) (μ : Mem) (Q : Mem → Prop) : Prop := if v1 < 0 then (Q μ) else (if v1 < 160 then ((0 ≤ v1 ∧ v1 < 160) ∧ Q (mup μ (v0 + 2) v1.toNat v2)) else (Q μ))
def d_Unifier_end (v0 : Nat) (v1 : Int) (μ : Mem) (Q : Int → Prop) : Prop := if v1 < 0 then (Q 160) else (if v1 < 160 then ((0 ≤ v1 ∧ v1 < 160) ∧ Q (μ (v0 + 3) v1.toNat)) else (Q 160))
def d_Unifier_pushArguments_b19 (v0 : Nat) (v3 : Int) (v4 : Int) (v5 : Int) (μ : Mem) (W19 : Int → Int → Int → Mem → Prop) (Q : Mem → Prop) : Prop := if 0 < v5 then (d_Unifier_push v0 v3 μ (fun μ6 => d_Unifier_push v0 v4 μ6 (fun μ8 => d_Unifier_end v0 v3 μ8 (fun r9 => d_Unifier_end v0 v4 μ8 (fun r11 => W19 r9 r11 (wr (v5 + (-1))) μ8))))) else (Q μ)
def d_Unifier_pushArguments_l19 (v0 : Nat) (v3 : Int) (v4 : Int) (v5 : Int) (μ : Mem) (Q : Mem → Prop) : Prop := ∀ W : Int → Int → Int → Mem → Prop, (∀ (v3 : Int) (v4 : Int) (v5 : Int) (μ : Mem), d_Unifier_pushArguments_b19 v0 v3 v4 v5 μ W Q → W v3 v4 v5 μ) → W v3 v4 v5 μ
def d_Unifier_pushArguments (v0 : Nat) (v1 : Int) (v2 : Int) (μ : Mem) (Q : Mem → Prop) : Prop := d_Unifier_label v0 v1 μ (fun r1 => d_Term_arityOf r1 μ (fun r3 => d_Unifier_pushArguments_l19 v0 (wr (v1 + 1)) (wr (v2 + 1)) r3 μ Q))
theorem i_Unifier_pushArguments_l19 {v0 : Nat} {Q : Mem → Prop} {Inv : Int → Int → Int → Mem → Prop} (f : Int → Int → Int → Mem → Nat) (hi : ∀ (v3 : Int) (v4 : Int) (v5 : Int) (μ : Mem), Inv v3 v4 v5 μ → ∀ W : Int → Int → Int → Mem → Prop, (∀ (v3' : Int) (v4' : Int) (v5' : Int) (μ' : Mem), Inv v3' v4' v5' μ' → f v3' v4' v5' μ' < f v3 v4 v5 μ → W v3' v4' v5' μ') → d_Unifier_pushArguments_b19 v0 v3 v4 v5 μ W Q) : ∀ (v3 : Int) (v4 : Int) (v5 : Int) (μ : Mem), Inv v3 v4 v5 μ → d_Unifier_pushArguments_l19 v0 v3 v4 v5 μ Q := by
  intro v3 v4 v5 μ hI W hW
  have key : ∀ (n : Nat) (v3 : Int) (v4 : Int) (v5 : Int) (μ : Mem), f v3 v4 v5 μ = n → Inv v3 v4 v5 μ → W v3 v4 v5 μ := by
    intro n
    induction n using Nat.strongRecOn with
    | _ n ih =>
      intro v3 v4 v5 μ hf hI
      exact hW _ _ _ _ (hi v3 v4 v5 μ hI W fun v3' v4' v5' μ' hI' hl => ih _ (by omega) v3' v4' v5' μ' rfl hI')
  exact key _ v3 v4 v5 μ rfl hI
def d_Unifier_merge_j136 (v0 : Nat) (v3 : Int) (μ : Mem) (W17 : Int → Mem → Prop) (Q : Bool → Mem → Prop) : Prop := W17 (wr (v3 + 1)) μ
def d_Unifier_merge_j118 (v0 : Nat) (v3 : Int) (v4 : Int) (v5 : Int) (v6 : Int) (v7 : Int) (μ : Mem) (W17 : Int → Mem → Prop) (Q : Bool → Mem → Prop) : Prop := if v6 < 0 then (d_Unifier_merge_j136 v0 v3 μ W17 Q) else (if v7 < 0 then (d_Unifier_merge_j136 v0 v3 μ W17 Q) else (d_Unifier_pushArguments v0 v4 v5 μ (fun μ20 => d_Unifier_merge_j136 v0 v3 μ20 W17 Q)))
def d_Unifier_merge_j94 (v0 : Nat) (v3 : Int) (v4 : Int) (v5 : Int) (v6 : Int) (v7 : Int) (μ : Mem) (W17 : Int → Mem → Prop) (Q : Bool → Mem → Prop) : Prop := if v6 < 0 then (d_Unifier_hang v0 v4 v5 μ (fun μ18 => d_Unifier_merge_j118 v0 v3 v4 v5 v6 v7 μ18 W17 Q)) else (d_Unifier_hang v0 v5 v4 μ (fun μ22 => d_Unifier_merge_j118 v0 v3 v4 v5 v6 v7 μ22 W17 Q))
def d_Unifier_merge_b17 (v0 : Nat) (v3 : Int) (μ : Mem) (W17 : Int → Mem → Prop) (Q : Bool → Mem → Prop) : Prop := if v3 < 962 then (if 1 < μ v0 7 then (d_Unifier_pop v0 μ (fun r5 μ6 => d_Unifier_root v0 r5 μ6 (fun r7 => d_Unifier_pop v0 μ6 (fun r9 μ10 => d_Unifier_root v0 r9 μ10 (fun r11 => if r7 = r11 then (d_Unifier_merge_j136 v0 v3 μ10 W17 Q) else (d_Unifier_label v0 r7 μ10 (fun r13 => d_Unifier_label v0 r11 μ10 (fun r15 => if r13 < 0 then (d_Unifier_merge_j94 v0 v3 r7 r11 r13 r15 μ10 W17 Q) else (if r15 < 0 then (d_Unifier_merge_j94 v0 v3 r7 r11 r13 r15 μ10 W17 Q) else (if r13 = r15 then (d_Unifier_merge_j94 v0 v3 r7 r11 r13 r15 μ10 W17 Q) else (Q false μ10))))))))))) else (Q true μ)) else (Q true μ)
def d_Unifier_merge_l17 (v0 : Nat) (v3 : Int) (μ : Mem) (Q : Bool → Mem → Prop) : Prop := ∀ W : Int → Mem → Prop, (∀ (v3 : Int) (μ : Mem), d_Unifier_merge_b17 v0 v3 μ W Q → W v3 μ) → W v3 μ
def d_Unifier_merge (v0 : Nat) (v1 : Int) (v2 : Int) (μ : Mem) (Q : Bool → Mem → Prop) : Prop := d_Unifier_push v0 v1 (mup μ v0 7 0) (fun μ2 => d_Unifier_push v0 v2 μ2 (fun μ4 => d_Unifier_merge_l17 v0 0 μ4 Q))
theorem i_Unifier_merge_l17 {v0 : Nat} {Q : Bool → Mem → Prop} {Inv : Int → Mem → Prop} (f : Int → Mem → Nat) (hi : ∀ (v3 : Int) (μ : Mem), Inv v3 μ → ∀ W : Int → Mem → Prop, (∀ (v3' : Int) (μ' : Mem), Inv v3' μ' → f v3' μ' < f v3 μ → W v3' μ') → d_Unifier_merge_b17 v0 v3 μ W Q) : ∀ (v3 : Int) (μ : Mem), Inv v3 μ → d_Unifier_merge_l17 v0 v3 μ Q := by
  intro v3 μ hI W hW
  have key : ∀ (n : Nat) (v3 : Int) (μ : Mem), f v3 μ = n → Inv v3 μ → W v3 μ := by
    intro n
    induction n using Nat.strongRecOn with
    | _ n ih =>
      intro v3 μ hf hI
      exact hW _ _ (hi v3 μ hI W fun v3' μ' hI' hl => ih _ (by omega) v3' μ' rfl hI')
  exact key _ v3 μ rfl hI
def d_Unifier_isSettled (v0 : Nat) (v1 : Int) (μ : Mem) (Q : Bool → Prop) : Prop := if v1 < 0 then (Q false) else (if v1 < 160 then ((0 ≤ v1 ∧ v1 < 160) ∧ if μ (v0 + 4) v1.toNat = 0 then (Q false) else (Q true)) else (Q false))
def d_Unifier_settles_b31 (v0 : Nat) (v3 : Int) (v4 : Int) (μ : Mem) (W31 : Int → Int → Prop) (Q : Bool → Prop) : Prop := if 0 < v4 then (d_Unifier_root v0 v3 μ (fun r7 => d_Unifier_isSettled v0 r7 μ (fun r9 => if r9 = true then (d_Unifier_end v0 v3 μ (fun r11 => W31 r11 (wr (v4 + (-1))))) else (Q false)))) else (Q true)
def d_Unifier_settles_l31 (v0 : Nat) (v3 : Int) (v4 : Int) (μ : Mem) (Q : Bool → Prop) : Prop := ∀ W : Int → Int → Prop, (∀ (v3 : Int) (v4 : Int), d_Unifier_settles_b31 v0 v3 v4 μ W Q → W v3 v4) → W v3 v4
def d_Unifier_settles (v0 : Nat) (v1 : Int) (μ : Mem) (Q : Bool → Prop) : Prop := d_Unifier_root v0 v1 μ (fun r1 => if r1 = v1 then (d_Unifier_label v0 v1 μ (fun r3 => d_Term_arityOf r3 μ (fun r5 => d_Unifier_settles_l31 v0 (wr (v1 + 1)) r5 μ Q))) else (d_Unifier_isSettled v0 r1 μ (fun r13 => Q r13)))
theorem i_Unifier_settles_l31 {v0 : Nat} {μ : Mem} {Q : Bool → Prop} {Inv : Int → Int → Prop} (f : Int → Int → Nat) (hi : ∀ (v3 : Int) (v4 : Int), Inv v3 v4 → ∀ W : Int → Int → Prop, (∀ (v3' : Int) (v4' : Int), Inv v3' v4' → f v3' v4' < f v3 v4 → W v3' v4') → d_Unifier_settles_b31 v0 v3 v4 μ W Q) : ∀ (v3 : Int) (v4 : Int), Inv v3 v4 → d_Unifier_settles_l31 v0 v3 v4 μ Q := by
  intro v3 v4 hI W hW
  have key : ∀ (n : Nat) (v3 : Int) (v4 : Int), f v3 v4 = n → Inv v3 v4 → W v3 v4 := by
    intro n
    induction n using Nat.strongRecOn with
    | _ n ih =>
      intro v3 v4 hf hI
      exact hW _ _ (hi v3 v4 hI W fun v3' v4' hI' hl => ih _ (by omega) v3' v4' rfl hI')
  exact key _ v3 v4 rfl hI
def d_Unifier_settle (v0 : Nat) (v1 : Int) (μ : Mem) (Q : Mem → Prop) : Prop := if v1 < 0 then (Q μ) else (if v1 < 160 then ((0 ≤ v1 ∧ v1 < 160) ∧ Q (mup μ (v0 + 4) v1.toNat 1)) else (Q μ))
def d_Unifier_isFinite_j99 (v1 : Int) (μ : Mem) (Q : Bool → Mem → Prop) : Prop := if v1 = 0 then (Q true μ) else (Q false μ)
def d_Unifier_isFinite_j87 (v0 : Nat) (v1 : Int) (v2 : Int) (v3 : Int) (v4 : Int) (μ : Mem) (W31 : Int → Int → Int → Mem → Prop) (W53 : Int → Int → Int → Mem → Prop) (Q : Bool → Mem → Prop) : Prop := W53 v1 v2 (wr (v4 + (-1))) μ
def d_Unifier_isFinite_b53 (v0 : Nat) (v3 : Int) (v1 : Int) (v2 : Int) (v4 : Int) (μ : Mem) (W31 : Int → Int → Int → Mem → Prop) (W53 : Int → Int → Int → Mem → Prop) (Q : Bool → Mem → Prop) : Prop := if v4 < 0 then (W31 v1 v2 (wr (v3 + 1)) μ) else (d_Unifier_isSettled v0 v4 μ (fun r1 => if r1 = true then (d_Unifier_isFinite_j87 v0 v1 v2 v3 v4 μ W31 W53 Q) else (d_Unifier_settles v0 v4 μ (fun r3 => if r3 = true then (d_Unifier_settle v0 v4 μ (fun μ6 => d_Unifier_isFinite_j87 v0 (wr (v1 + (-1))) 1 v3 v4 μ6 W31 W53 Q)) else (d_Unifier_isFinite_j87 v0 v1 v2 v3 v4 μ W31 W53 Q)))))
def d_Unifier_isFinite_l53 (v0 : Nat) (v3 : Int) (v1 : Int) (v2 : Int) (v4 : Int) (μ : Mem) (W31 : Int → Int → Int → Mem → Prop) (Q : Bool → Mem → Prop) : Prop := ∀ W : Int → Int → Int → Mem → Prop, (∀ (v1 : Int) (v2 : Int) (v4 : Int) (μ : Mem), d_Unifier_isFinite_b53 v0 v3 v1 v2 v4 μ W31 W Q → W v1 v2 v4 μ) → W v1 v2 v4 μ
def d_Unifier_isFinite_b31 (v0 : Nat) (v1 : Int) (v2 : Int) (v3 : Int) (μ : Mem) (W31 : Int → Int → Int → Mem → Prop) (Q : Bool → Mem → Prop) : Prop := if μ v0 0 < v3 then (d_Unifier_isFinite_j99 v1 μ Q) else (if v2 = 0 then (d_Unifier_isFinite_j99 v1 μ Q) else (d_Unifier_isFinite_l53 v0 v3 v1 0 (wr ((μ v0 0) - 1)) μ W31 Q))
def d_Unifier_isFinite_l31 (v0 : Nat) (v1 : Int) (v2 : Int) (v3 : Int) (μ : Mem) (Q : Bool → Mem → Prop) : Prop := ∀ W : Int → Int → Int → Mem → Prop, (∀ (v1 : Int) (v2 : Int) (v3 : Int) (μ : Mem), d_Unifier_isFinite_b31 v0 v1 v2 v3 μ W Q → W v1 v2 v3 μ) → W v1 v2 v3 μ
def d_Unifier_isFinite_b2 (v0 : Nat) (v1 : Int) (μ : Mem) (W2 : Int → Mem → Prop) (Q : Bool → Mem → Prop) : Prop := if v1 < 160 then ((0 ≤ v1 ∧ v1 < 160) ∧ W2 (wr (v1 + 1)) (mup μ (v0 + 4) v1.toNat 0)) else (d_Unifier_isFinite_l31 v0 (μ v0 0) 1 0 μ Q)
def d_Unifier_isFinite_l2 (v0 : Nat) (v1 : Int) (μ : Mem) (Q : Bool → Mem → Prop) : Prop := ∀ W : Int → Mem → Prop, (∀ (v1 : Int) (μ : Mem), d_Unifier_isFinite_b2 v0 v1 μ W Q → W v1 μ) → W v1 μ
def d_Unifier_isFinite (v0 : Nat) (μ : Mem) (Q : Bool → Mem → Prop) : Prop := d_Unifier_isFinite_l2 v0 0 μ Q
theorem i_Unifier_isFinite_l53 {v0 : Nat} {v3 : Int} {W31 : Int → Int → Int → Mem → Prop} {Q : Bool → Mem → Prop} {Inv : Int → Int → Int → Mem → Prop} (f : Int → Int → Int → Mem → Nat) (hi : ∀ (v1 : Int) (v2 : Int) (v4 : Int) (μ : Mem), Inv v1 v2 v4 μ → ∀ W : Int → Int → Int → Mem → Prop, (∀ (v1' : Int) (v2' : Int) (v4' : Int) (μ' : Mem), Inv v1' v2' v4' μ' → f v1' v2' v4' μ' < f v1 v2 v4 μ → W v1' v2' v4' μ') → d_Unifier_isFinite_b53 v0 v3 v1 v2 v4 μ W31 W Q) : ∀ (v1 : Int) (v2 : Int) (v4 : Int) (μ : Mem), Inv v1 v2 v4 μ → d_Unifier_isFinite_l53 v0 v3 v1 v2 v4 μ W31 Q := by
  intro v1 v2 v4 μ hI W hW
  have key : ∀ (n : Nat) (v1 : Int) (v2 : Int) (v4 : Int) (μ : Mem), f v1 v2 v4 μ = n → Inv v1 v2 v4 μ → W v1 v2 v4 μ := by
    intro n
    induction n using Nat.strongRecOn with
    | _ n ih =>
      intro v1 v2 v4 μ hf hI
      exact hW _ _ _ _ (hi v1 v2 v4 μ hI W fun v1' v2' v4' μ' hI' hl => ih _ (by omega) v1' v2' v4' μ' rfl hI')
  exact key _ v1 v2 v4 μ rfl hI
theorem i_Unifier_isFinite_l31 {v0 : Nat} {Q : Bool → Mem → Prop} {Inv : Int → Int → Int → Mem → Prop} (f : Int → Int → Int → Mem → Nat) (hi : ∀ (v1 : Int) (v2 : Int) (v3 : Int) (μ : Mem), Inv v1 v2 v3 μ → ∀ W : Int → Int → Int → Mem → Prop, (∀ (v1' : Int) (v2' : Int) (v3' : Int) (μ' : Mem), Inv v1' v2' v3' μ' → f v1' v2' v3' μ' < f v1 v2 v3 μ → W v1' v2' v3' μ') → d_Unifier_isFinite_b31 v0 v1 v2 v3 μ W Q) : ∀ (v1 : Int) (v2 : Int) (v3 : Int) (μ : Mem), Inv v1 v2 v3 μ → d_Unifier_isFinite_l31 v0 v1 v2 v3 μ Q := by
  intro v1 v2 v3 μ hI W hW
  have key : ∀ (n : Nat) (v1 : Int) (v2 : Int) (v3 : Int) (μ : Mem), f v1 v2 v3 μ = n → Inv v1 v2 v3 μ → W v1 v2 v3 μ := by
    intro n
    induction n using Nat.strongRecOn with
    | _ n ih =>
      intro v1 v2 v3 μ hf hI
      exact hW _ _ _ _ (hi v1 v2 v3 μ hI W fun v1' v2' v3' μ' hI' hl => ih _ (by omega) v1' v2' v3' μ' rfl hI')
  exact key _ v1 v2 v3 μ rfl hI
theorem i_Unifier_isFinite_l2 {v0 : Nat} {Q : Bool → Mem → Prop} {Inv : Int → Mem → Prop} (f : Int → Mem → Nat) (hi : ∀ (v1 : Int) (μ : Mem), Inv v1 μ → ∀ W : Int → Mem → Prop, (∀ (v1' : Int) (μ' : Mem), Inv v1' μ' → f v1' μ' < f v1 μ → W v1' μ') → d_Unifier_isFinite_b2 v0 v1 μ W Q) : ∀ (v1 : Int) (μ : Mem), Inv v1 μ → d_Unifier_isFinite_l2 v0 v1 μ Q := by
  intro v1 μ hI W hW
  have key : ∀ (n : Nat) (v1 : Int) (μ : Mem), f v1 μ = n → Inv v1 μ → W v1 μ := by
    intro n
    induction n using Nat.strongRecOn with
    | _ n ih =>
      intro v1 μ hf hI
      exact hW _ _ (hi v1 μ hI W fun v1' μ' hI' hl => ih _ (by omega) v1' μ' rfl hI')
  exact key _ v1 μ rfl hI
def d_Unifier_solve (v0 : Nat) (v1 : Int) (v2 : Int) (μ : Mem) (Q : Bool → Mem → Prop) : Prop := d_Unifier_merge v0 v1 v2 μ (fun r1 μ2 => if r1 = true then (d_Unifier_isFinite v0 μ2 (fun r3 μ4 => if r3 = true then (Q true μ4) else (Q false μ4))) else (Q false μ2))
def d_PairList_firstTerm_j21 (t0 : Nat) (μ : Mem) (Q : Nat → Prop) : Prop := Q t0
def d_PairList_firstTerm (v1 : Int) (μ : Mem) (Q : Nat → Prop) : Prop := d_PairList_has v1 μ (fun r1 => if r1 = true then ((0 ≤ v1 ∧ v1 < 20) ∧ d_PairList_firstTerm_j21 (159 + (5 + 4 * v1.toNat)) μ Q) else (d_PairList_firstTerm_j21 161 μ Q))
def d_PairList_secondTerm_j21 (t0 : Nat) (μ : Mem) (Q : Nat → Prop) : Prop := Q t0
def d_PairList_secondTerm (v1 : Int) (μ : Mem) (Q : Nat → Prop) : Prop := d_PairList_has v1 μ (fun r1 => if r1 = true then ((0 ≤ v1 ∧ v1 < 20) ∧ d_PairList_secondTerm_j21 (160 + (6 + 4 * v1.toNat)) μ Q) else (d_PairList_secondTerm_j21 161 μ Q))
def d_Unifier_pushReversed_j41 (v0 : Nat) (v1 : Int) (v2 : Int) (μ : Mem) (Q : Mem → Prop) : Prop := if 0 < v2 then (d_Unifier_push v0 (wr (v1 + 1)) μ (fun μ14 => Q μ14)) else (Q μ)
def d_Unifier_pushReversed_j31 (v0 : Nat) (v1 : Int) (v2 : Int) (v3 : Int) (μ : Mem) (Q : Mem → Prop) : Prop := if 1 < v2 then (d_Unifier_push v0 v3 μ (fun μ12 => d_Unifier_pushReversed_j41 v0 v1 v2 μ12 Q)) else (d_Unifier_pushReversed_j41 v0 v1 v2 μ Q)
def d_Unifier_pushReversed (v0 : Nat) (v1 : Int) (μ : Mem) (Q : Mem → Prop) : Prop := d_Unifier_label v0 v1 μ (fun r1 => d_Term_arityOf r1 μ (fun r3 => d_Unifier_end v0 (wr (v1 + 1)) μ (fun r5 => if 2 < r3 then (d_Unifier_end v0 r5 μ (fun r7 => d_Unifier_push v0 r7 μ (fun μ10 => d_Unifier_pushReversed_j31 v0 v1 r3 r5 μ10 Q))) else (d_Unifier_pushReversed_j31 v0 v1 r3 r5 μ Q))))
def d_Unifier_expand_j62 (v0 : Nat) (μ : Mem) (Q : Bool → Mem → Prop) : Prop := if μ v0 7 = 0 then (Q true μ) else (Q false μ)
def d_Unifier_expand_b12 (v0 : Nat) (v2 : Nat) (v3 : Int) (μ : Mem) (W12 : Int → Mem → Prop) (Q : Bool → Mem → Prop) : Prop := if 80 < v3 then (d_Unifier_expand_j62 v0 μ Q) else (if 0 < μ v0 7 then (d_Unifier_pop v0 μ (fun r3 μ4 => d_Unifier_root v0 r3 μ4 (fun r5 => d_Unifier_label v0 r5 μ4 (fun r7 => d_Term_add v2 r7 μ4 (fun r9 μ10 => if r9 = true then (d_Unifier_pushReversed v0 r5 μ10 (fun μ12 => W12 (wr (v3 + 1)) μ12)) else (Q false μ10)))))) else (d_Unifier_expand_j62 v0 μ Q))
def d_Unifier_expand_l12 (v0 : Nat) (v2 : Nat) (v3 : Int) (μ : Mem) (Q : Bool → Mem → Prop) : Prop := ∀ W : Int → Mem → Prop, (∀ (v3 : Int) (μ : Mem), d_Unifier_expand_b12 v0 v2 v3 μ W Q → W v3 μ) → W v3 μ
def d_Unifier_expand (v0 : Nat) (v1 : Int) (v2 : Nat) (μ : Mem) (Q : Bool → Mem → Prop) : Prop := d_Unifier_push v0 v1 (mup μ v0 7 0) (fun μ2 => d_Unifier_expand_l12 v0 v2 0 μ2 Q)
theorem i_Unifier_expand_l12 {v0 : Nat} {v2 : Nat} {Q : Bool → Mem → Prop} {Inv : Int → Mem → Prop} (f : Int → Mem → Nat) (hi : ∀ (v3 : Int) (μ : Mem), Inv v3 μ → ∀ W : Int → Mem → Prop, (∀ (v3' : Int) (μ' : Mem), Inv v3' μ' → f v3' μ' < f v3 μ → W v3' μ') → d_Unifier_expand_b12 v0 v2 v3 μ W Q) : ∀ (v3 : Int) (μ : Mem), Inv v3 μ → d_Unifier_expand_l12 v0 v2 v3 μ Q := by
  intro v3 μ hI W hW
  have key : ∀ (n : Nat) (v3 : Int) (μ : Mem), f v3 μ = n → Inv v3 μ → W v3 μ := by
    intro n
    induction n using Nat.strongRecOn with
    | _ n ih =>
      intro v3 μ hf hI
      exact hW _ _ (hi v3 μ hI W fun v3' μ' hI' hl => ih _ (by omega) v3' μ' rfl hI')
  exact key _ v3 μ rfl hI
def d_Term_variableOf (v0 : Int) (μ : Mem) (Q : Int → Prop) : Prop := if v0 < 0 then (Q (wr ((-1) - v0))) else (Q (-1))
def d_Term_set (v0 : Nat) (v1 : Int) (v2 : Int) (μ : Mem) (Q : Mem → Prop) : Prop := if v1 < 0 then (Q μ) else (if v1 < μ v0 1 then (if v1 < (ln (v0 + 1) : Int) then ((0 ≤ v1 ∧ v1 < (ln (v0 + 1) : Int)) ∧ Q (mup μ (v0 + 1) v1.toNat v2)) else (Q μ)) else (Q μ))
def d_PairList_nameVariables_j78 (v1 : Nat) (v3 : Int) (v4 : Int) (μ : Mem) (W5 : Int → Int → Mem → Prop) (Q : Int → Mem → Prop) : Prop := W5 v3 (wr (v4 + 1)) μ
def d_PairList_nameVariables_j62 (v1 : Nat) (v3 : Int) (v4 : Int) (v5 : Int) (μ : Mem) (W5 : Int → Int → Mem → Prop) (Q : Int → Mem → Prop) : Prop := (0 ≤ v5 ∧ v5 < 16) ∧ d_Term_variableNode (μ 163 v5.toNat) μ (fun r5 => d_Term_set v1 v4 r5 μ (fun μ8 => d_PairList_nameVariables_j78 v1 v3 v4 μ8 W5 Q))
def d_PairList_nameVariables_b5 (v1 : Nat) (v3 : Int) (v4 : Int) (μ : Mem) (W5 : Int → Int → Mem → Prop) (Q : Int → Mem → Prop) : Prop := if v4 < μ v1 1 then (d_Term_get v1 v4 μ (fun r1 => d_Term_variableOf r1 μ (fun r3 => if r3 < 0 then (d_PairList_nameVariables_j78 v1 v3 v4 μ W5 Q) else (if r3 < 16 then ((0 ≤ r3 ∧ r3 < 16) ∧ if μ 163 r3.toNat = (-1) then ((0 ≤ r3 ∧ r3 < 16) ∧ d_PairList_nameVariables_j62 v1 (wr (v3 + 1)) v4 r3 (mup μ 163 r3.toNat v3) W5 Q) else (d_PairList_nameVariables_j62 v1 v3 v4 r3 μ W5 Q)) else (d_PairList_nameVariables_j78 v1 v3 v4 μ W5 Q))))) else (Q v3 μ)
def d_PairList_nameVariables_l5 (v1 : Nat) (v3 : Int) (v4 : Int) (μ : Mem) (Q : Int → Mem → Prop) : Prop := ∀ W : Int → Int → Mem → Prop, (∀ (v3 : Int) (v4 : Int) (μ : Mem), d_PairList_nameVariables_b5 v1 v3 v4 μ W Q → W v3 v4 μ) → W v3 v4 μ
def d_PairList_nameVariables (v1 : Nat) (v2 : Int) (μ : Mem) (Q : Int → Mem → Prop) : Prop := d_PairList_nameVariables_l5 v1 v2 0 μ Q
theorem i_PairList_nameVariables_l5 {v1 : Nat} {Q : Int → Mem → Prop} {Inv : Int → Int → Mem → Prop} (f : Int → Int → Mem → Nat) (hi : ∀ (v3 : Int) (v4 : Int) (μ : Mem), Inv v3 v4 μ → ∀ W : Int → Int → Mem → Prop, (∀ (v3' : Int) (v4' : Int) (μ' : Mem), Inv v3' v4' μ' → f v3' v4' μ' < f v3 v4 μ → W v3' v4' μ') → d_PairList_nameVariables_b5 v1 v3 v4 μ W Q) : ∀ (v3 : Int) (v4 : Int) (μ : Mem), Inv v3 v4 μ → d_PairList_nameVariables_l5 v1 v3 v4 μ Q := by
  intro v3 v4 μ hI W hW
  have key : ∀ (n : Nat) (v3 : Int) (v4 : Int) (μ : Mem), f v3 v4 μ = n → Inv v3 v4 μ → W v3 v4 μ := by
    intro n
    induction n using Nat.strongRecOn with
    | _ n ih =>
      intro v3 v4 μ hf hI
      exact hW _ _ _ (hi v3 v4 μ hI W fun v3' v4' μ' hI' hl => ih _ (by omega) v3' v4' μ' rfl hI')
  exact key _ v3 v4 μ rfl hI
def d_PairList_buildPair_j234 (v8 : Nat) (v9 : Nat) (v10 : Int) (μ : Mem) (Q : Bool → Mem → Prop) : Prop := d_Arrays_fill 163 (-1) μ (fun μ24 => if v10 = 0 then (Q false μ24) else (d_PairList_nameVariables v8 0 μ24 (fun r25 μ26 => d_PairList_nameVariables v9 r25 μ26 (fun r27 μ28 => if r27 < 0 then (Q false μ28) else (Q true μ28)))))
def d_PairList_buildPair_j228 (v1 : Nat) (v3 : Int) (v4 : Int) (v7 : Int) (v8 : Nat) (v9 : Nat) (v10 : Int) (v11 : Int) (μ : Mem) (W129 : Int → Int → Mem → Prop) (Q : Bool → Mem → Prop) : Prop := W129 v10 (wr (v11 + 1)) μ
def d_PairList_buildPair_j226 (v1 : Nat) (v3 : Int) (v4 : Int) (v7 : Int) (v8 : Nat) (v9 : Nat) (v11 : Int) (t0 : Int) (μ : Mem) (W129 : Int → Int → Mem → Prop) (Q : Bool → Mem → Prop) : Prop := d_PairList_buildPair_j228 v1 v3 v4 v7 v8 v9 t0 v11 μ W129 Q
def d_PairList_buildPair_b129 (v1 : Nat) (v3 : Int) (v4 : Int) (v7 : Int) (v8 : Nat) (v9 : Nat) (v10 : Int) (v11 : Int) (μ : Mem) (W129 : Int → Int → Mem → Prop) (Q : Bool → Mem → Prop) : Prop := if v10 = 0 then (d_PairList_buildPair_j234 v8 v9 v10 μ Q) else (if v11 < μ (dp (μ v1 0)) 1 then (if v11 = v3 then (d_Unifier_expand 140 v7 v9 μ (fun r29 μ30 => d_Term_end (dp (μ30 v1 0)) v11 μ30 (fun r31 => d_Math_max v11 (wr (r31 - 1)) μ30 (fun r33 => d_PairList_buildPair_j228 v1 v3 v4 v7 v8 v9 (b2i r29) r33 μ30 W129 Q)))) else (d_Term_get (dp (μ v1 0)) v11 μ (fun r35 => if r35 < 0 then (d_Unifier_expand 140 (wr (v4 + v11)) v9 μ (fun r37 μ38 => d_PairList_buildPair_j226 v1 v3 v4 v7 v8 v9 v11 (b2i r37) μ38 W129 Q)) else (d_Term_add v9 r35 μ (fun r39 μ40 => d_PairList_buildPair_j226 v1 v3 v4 v7 v8 v9 v11 (b2i r39) μ40 W129 Q))))) else (d_PairList_buildPair_j234 v8 v9 v10 μ Q))
def d_PairList_buildPair_l129 (v1 : Nat) (v3 : Int) (v4 : Int) (v7 : Int) (v8 : Nat) (v9 : Nat) (v10 : Int) (v11 : Int) (μ : Mem) (Q : Bool → Mem → Prop) : Prop := ∀ W : Int → Int → Mem → Prop, (∀ (v10 : Int) (v11 : Int) (μ : Mem), d_PairList_buildPair_b129 v1 v3 v4 v7 v8 v9 v10 v11 μ W Q → W v10 v11 μ) → W v10 v11 μ
def d_PairList_buildPair (v1 : Nat) (v2 : Nat) (v3 : Int) (μ : Mem) (Q : Bool → Mem → Prop) : Prop := d_Unifier_clear 140 μ (fun μ2 => d_Unifier_load 140 (dp (μ2 v1 0)) 0 μ2 (fun r3 μ4 => d_Unifier_load 140 (dp (μ4 v2 0)) 8 μ4 (fun r5 μ6 => d_Unifier_load 140 (dp (μ6 v1 1)) 0 μ6 (fun r7 μ8 => d_Unifier_load 140 (dp (μ8 v2 1)) 8 μ8 (fun r9 μ10 => d_Unifier_solve 140 (wr (r3 + v3)) r5 μ10 (fun r11 μ12 => if r11 = true then (d_PairList_firstTerm (μ12 139 1) μ12 (fun r13 => d_PairList_secondTerm (μ12 139 1) μ12 (fun r15 => d_Term_clear r13 μ12 (fun μ18 => d_Term_clear r15 μ18 (fun μ20 => d_Unifier_expand 140 r7 r13 μ20 (fun r21 μ22 => d_PairList_buildPair_l129 v1 v3 r3 r9 r13 r15 (b2i r21) 0 μ22 Q)))))) else (Q false μ12)))))))
theorem i_PairList_buildPair_l129 {v1 : Nat} {v3 : Int} {v4 : Int} {v7 : Int} {v8 : Nat} {v9 : Nat} {Q : Bool → Mem → Prop} {Inv : Int → Int → Mem → Prop} (f : Int → Int → Mem → Nat) (hi : ∀ (v10 : Int) (v11 : Int) (μ : Mem), Inv v10 v11 μ → ∀ W : Int → Int → Mem → Prop, (∀ (v10' : Int) (v11' : Int) (μ' : Mem), Inv v10' v11' μ' → f v10' v11' μ' < f v10 v11 μ → W v10' v11' μ') → d_PairList_buildPair_b129 v1 v3 v4 v7 v8 v9 v10 v11 μ W Q) : ∀ (v10 : Int) (v11 : Int) (μ : Mem), Inv v10 v11 μ → d_PairList_buildPair_l129 v1 v3 v4 v7 v8 v9 v10 v11 μ Q := by
  intro v10 v11 μ hI W hW
  have key : ∀ (n : Nat) (v10 : Int) (v11 : Int) (μ : Mem), f v10 v11 μ = n → Inv v10 v11 μ → W v10 v11 μ := by
    intro n
    induction n using Nat.strongRecOn with
    | _ n ih =>
      intro v10 v11 μ hf hI
      exact hW _ _ _ (hi v10 v11 μ hI W fun v10' v11' μ' hI' hl => ih _ (by omega) v10' v11' μ' rfl hI')
  exact key _ v10 v11 μ rfl hI
def d_PairList_keep (v1 : Int) (v2 : Int) (v3 : Int) (μ : Mem) (Q : Mem → Prop) : Prop := d_PairList_has (μ 139 1) μ (fun r1 => if r1 = true then ((0 ≤ μ 139 1 ∧ μ 139 1 < 20) ∧ (0 ≤ (mup μ 155 (μ 139 1).toNat v1) 139 1 ∧ (mup μ 155 (μ 139 1).toNat v1) 139 1 < 20) ∧ (0 ≤ (mup (mup μ 155 (μ 139 1).toNat v1) 156 ((mup μ 155 (μ 139 1).toNat v1) 139 1).toNat v2) 139 1 ∧ (mup (mup μ 155 (μ 139 1).toNat v1) 156 ((mup μ 155 (μ 139 1).toNat v1) 139 1).toNat v2) 139 1 < 20) ∧ (0 ≤ (mup (mup (mup μ 155 (μ 139 1).toNat v1) 156 ((mup μ 155 (μ 139 1).toNat v1) 139 1).toNat v2) 157 ((mup (mup μ 155 (μ 139 1).toNat v1) 156 ((mup μ 155 (μ 139 1).toNat v1) 139 1).toNat v2) 139 1).toNat v3) 139 1 ∧ (mup (mup (mup μ 155 (μ 139 1).toNat v1) 156 ((mup μ 155 (μ 139 1).toNat v1) 139 1).toNat v2) 157 ((mup (mup μ 155 (μ 139 1).toNat v1) 156 ((mup μ 155 (μ 139 1).toNat v1) 139 1).toNat v2) 139 1).toNat v3) 139 1 < 20) ∧ Q (mup (mup (mup (mup (mup μ 155 (μ 139 1).toNat v1) 156 ((mup μ 155 (μ 139 1).toNat v1) 139 1).toNat v2) 157 ((mup (mup μ 155 (μ 139 1).toNat v1) 156 ((mup μ 155 (μ 139 1).toNat v1) 139 1).toNat v2) 139 1).toNat v3) 158 ((mup (mup (mup μ 155 (μ 139 1).toNat v1) 156 ((mup μ 155 (μ 139 1).toNat v1) 139 1).toNat v2) 157 ((mup (mup μ 155 (μ 139 1).toNat v1) 156 ((mup μ 155 (μ 139 1).toNat v1) 139 1).toNat v2) 139 1).toNat v3) 139 1).toNat 0) 139 1 (wr (((mup (mup (mup (mup μ 155 (μ 139 1).toNat v1) 156 ((mup μ 155 (μ 139 1).toNat v1) 139 1).toNat v2) 157 ((mup (mup μ 155 (μ 139 1).toNat v1) 156 ((mup μ 155 (μ 139 1).toNat v1) 139 1).toNat v2) 139 1).toNat v3) 158 ((mup (mup (mup μ 155 (μ 139 1).toNat v1) 156 ((mup μ 155 (μ 139 1).toNat v1) 139 1).toNat v2) 157 ((mup (mup μ 155 (μ 139 1).toNat v1) 156 ((mup μ 155 (μ 139 1).toNat v1) 139 1).toNat v2) 139 1).toNat v3) 139 1).toNat 0) 139 1) + 1)))) else (Q μ))
def d_PairList_refresh_j132 (v1 : Nat) (v2 : Int) (v3 : Nat) (v4 : Int) (v5 : Nat) (v6 : Int) (μ : Mem) (W20 : Int → Mem → Prop) (W37 : Int → Mem → Prop) (W67 : Int → Mem → Prop) (Q : Mem → Prop) : Prop := W67 (wr (v6 + 1)) μ
def d_PairList_refresh_b67 (v1 : Nat) (v2 : Int) (v3 : Nat) (v4 : Int) (v5 : Nat) (v6 : Int) (μ : Mem) (W20 : Int → Mem → Prop) (W37 : Int → Mem → Prop) (W67 : Int → Mem → Prop) (Q : Mem → Prop) : Prop := if v6 < μ (dp (μ v3 0)) 1 then (d_Term_get (dp (μ v3 0)) v6 μ (fun r5 => d_Term_get (dp (μ v5 0)) 0 μ (fun r7 => if r5 = r7 then (d_PairList_has (μ 139 1) μ (fun r9 => if r9 = true then (d_PairList_buildPair v3 v5 v6 μ (fun r11 μ12 => if r11 = true then (d_PairList_keep v2 v4 v6 μ12 (fun μ14 => d_PairList_refresh_j132 v1 v2 v3 v4 v5 v6 μ14 W20 W37 W67 Q)) else (d_PairList_refresh_j132 v1 v2 v3 v4 v5 v6 μ12 W20 W37 W67 Q))) else (d_PairList_refresh_j132 v1 v2 v3 v4 v5 v6 μ W20 W37 W67 Q))) else (d_PairList_refresh_j132 v1 v2 v3 v4 v5 v6 μ W20 W37 W67 Q)))) else (W37 (wr (v4 + 1)) μ)
def d_PairList_refresh_l67 (v1 : Nat) (v2 : Int) (v3 : Nat) (v4 : Int) (v5 : Nat) (v6 : Int) (μ : Mem) (W20 : Int → Mem → Prop) (W37 : Int → Mem → Prop) (Q : Mem → Prop) : Prop := ∀ W : Int → Mem → Prop, (∀ (v6 : Int) (μ : Mem), d_PairList_refresh_b67 v1 v2 v3 v4 v5 v6 μ W20 W37 W Q → W v6 μ) → W v6 μ
def d_PairList_refresh_j65 (v1 : Nat) (v2 : Int) (v3 : Nat) (v4 : Int) (v5 : Nat) (t0 : Int) (μ : Mem) (W20 : Int → Mem → Prop) (W37 : Int → Mem → Prop) (Q : Mem → Prop) : Prop := d_PairList_refresh_l67 v1 v2 v3 v4 v5 t0 μ W20 W37 Q
def d_PairList_refresh_b37 (v1 : Nat) (v2 : Int) (v3 : Nat) (v4 : Int) (μ : Mem) (W20 : Int → Mem → Prop) (W37 : Int → Mem → Prop) (Q : Mem → Prop) : Prop := if v4 < μ v1 0 then (d_State_rule v1 v4 μ (fun r3 => if v2 = v4 then (d_PairList_refresh_j65 v1 v2 v3 v4 r3 1 μ W20 W37 Q) else (d_PairList_refresh_j65 v1 v2 v3 v4 r3 0 μ W20 W37 Q))) else (W20 (wr (v2 + 1)) μ)
def d_PairList_refresh_l37 (v1 : Nat) (v2 : Int) (v3 : Nat) (v4 : Int) (μ : Mem) (W20 : Int → Mem → Prop) (Q : Mem → Prop) : Prop := ∀ W : Int → Mem → Prop, (∀ (v4 : Int) (μ : Mem), d_PairList_refresh_b37 v1 v2 v3 v4 μ W20 W Q → W v4 μ) → W v4 μ
def d_PairList_refresh_b20 (v1 : Nat) (v2 : Int) (μ : Mem) (W20 : Int → Mem → Prop) (Q : Mem → Prop) : Prop := if v2 < μ v1 0 then (d_State_rule v1 v2 μ (fun r1 => d_PairList_refresh_l37 v1 v2 r1 0 μ W20 Q)) else (Q μ)
def d_PairList_refresh_l20 (v1 : Nat) (v2 : Int) (μ : Mem) (Q : Mem → Prop) : Prop := ∀ W : Int → Mem → Prop, (∀ (v2 : Int) (μ : Mem), d_PairList_refresh_b20 v1 v2 μ W Q → W v2 μ) → W v2 μ
def d_PairList_refresh (v1 : Nat) (μ : Mem) (Q : Mem → Prop) : Prop := if μ 139 0 = 0 then (Q μ) else (d_PairList_refresh_l20 v1 0 (mup (mup μ 139 0 0) 139 1 0) Q)
theorem i_PairList_refresh_l67 {v1 : Nat} {v2 : Int} {v3 : Nat} {v4 : Int} {v5 : Nat} {W20 : Int → Mem → Prop} {W37 : Int → Mem → Prop} {Q : Mem → Prop} {Inv : Int → Mem → Prop} (f : Int → Mem → Nat) (hi : ∀ (v6 : Int) (μ : Mem), Inv v6 μ → ∀ W : Int → Mem → Prop, (∀ (v6' : Int) (μ' : Mem), Inv v6' μ' → f v6' μ' < f v6 μ → W v6' μ') → d_PairList_refresh_b67 v1 v2 v3 v4 v5 v6 μ W20 W37 W Q) : ∀ (v6 : Int) (μ : Mem), Inv v6 μ → d_PairList_refresh_l67 v1 v2 v3 v4 v5 v6 μ W20 W37 Q := by
  intro v6 μ hI W hW
  have key : ∀ (n : Nat) (v6 : Int) (μ : Mem), f v6 μ = n → Inv v6 μ → W v6 μ := by
    intro n
    induction n using Nat.strongRecOn with
    | _ n ih =>
      intro v6 μ hf hI
      exact hW _ _ (hi v6 μ hI W fun v6' μ' hI' hl => ih _ (by omega) v6' μ' rfl hI')
  exact key _ v6 μ rfl hI
theorem i_PairList_refresh_l37 {v1 : Nat} {v2 : Int} {v3 : Nat} {W20 : Int → Mem → Prop} {Q : Mem → Prop} {Inv : Int → Mem → Prop} (f : Int → Mem → Nat) (hi : ∀ (v4 : Int) (μ : Mem), Inv v4 μ → ∀ W : Int → Mem → Prop, (∀ (v4' : Int) (μ' : Mem), Inv v4' μ' → f v4' μ' < f v4 μ → W v4' μ') → d_PairList_refresh_b37 v1 v2 v3 v4 μ W20 W Q) : ∀ (v4 : Int) (μ : Mem), Inv v4 μ → d_PairList_refresh_l37 v1 v2 v3 v4 μ W20 Q := by
  intro v4 μ hI W hW
  have key : ∀ (n : Nat) (v4 : Int) (μ : Mem), f v4 μ = n → Inv v4 μ → W v4 μ := by
    intro n
    induction n using Nat.strongRecOn with
    | _ n ih =>
      intro v4 μ hf hI
      exact hW _ _ (hi v4 μ hI W fun v4' μ' hI' hl => ih _ (by omega) v4' μ' rfl hI')
  exact key _ v4 μ rfl hI
theorem i_PairList_refresh_l20 {v1 : Nat} {Q : Mem → Prop} {Inv : Int → Mem → Prop} (f : Int → Mem → Nat) (hi : ∀ (v2 : Int) (μ : Mem), Inv v2 μ → ∀ W : Int → Mem → Prop, (∀ (v2' : Int) (μ' : Mem), Inv v2' μ' → f v2' μ' < f v2 μ → W v2' μ') → d_PairList_refresh_b20 v1 v2 μ W Q) : ∀ (v2 : Int) (μ : Mem), Inv v2 μ → d_PairList_refresh_l20 v1 v2 μ Q := by
  intro v2 μ hI W hW
  have key : ∀ (n : Nat) (v2 : Int) (μ : Mem), f v2 μ = n → Inv v2 μ → W v2 μ := by
    intro n
    induction n using Nat.strongRecOn with
    | _ n ih =>
      intro v2 μ hf hI
      exact hW _ _ (hi v2 μ hI W fun v2' μ' hI' hl => ih _ (by omega) v2' μ' rfl hI')
  exact key _ v2 μ rfl hI
def d_OB_criticalPairCount (μ : Mem) (Q : Int → Mem → Prop) (X : Nat → Mem → Prop) : Prop := d_OB_requireSystem μ (fun μ2 => d_PairList_refresh 5 μ2 (fun μ4 => Q (μ4 139 1) μ4)) X
def d_Term_sameAs_b15 (v0 : Nat) (v1 : Nat) (v2 : Int) (μ : Mem) (W15 : Int → Prop) (Q : Bool → Prop) : Prop := if v2 < μ v0 1 then (d_Term_get v0 v2 μ (fun r1 => d_Term_get v1 v2 μ (fun r3 => if r1 = r3 then (W15 (wr (v2 + 1))) else (Q false)))) else (Q true)
def d_Term_sameAs_l15 (v0 : Nat) (v1 : Nat) (v2 : Int) (μ : Mem) (Q : Bool → Prop) : Prop := ∀ W : Int → Prop, (∀ (v2 : Int), d_Term_sameAs_b15 v0 v1 v2 μ W Q → W v2) → W v2
def d_Term_sameAs (v0 : Nat) (v1 : Nat) (μ : Mem) (Q : Bool → Prop) : Prop := if μ v0 1 = μ v1 1 then (d_Term_sameAs_l15 v0 v1 0 μ Q) else (Q false)
theorem i_Term_sameAs_l15 {v0 : Nat} {v1 : Nat} {μ : Mem} {Q : Bool → Prop} {Inv : Int → Prop} (f : Int → Nat) (hi : ∀ (v2 : Int), Inv v2 → ∀ W : Int → Prop, (∀ (v2' : Int), Inv v2' → f v2' < f v2 → W v2') → d_Term_sameAs_b15 v0 v1 v2 μ W Q) : ∀ (v2 : Int), Inv v2 → d_Term_sameAs_l15 v0 v1 v2 μ Q := by
  intro v2 hI W hW
  have key : ∀ (n : Nat) (v2 : Int), f v2 = n → Inv v2 → W v2 := by
    intro n
    induction n using Nat.strongRecOn with
    | _ n ih =>
      intro v2 hf hI
      exact hW _ (hi v2 hI W fun v2' hI' hl => ih _ (by omega) v2' rfl hI')
  exact key _ v2 rfl hI
def d_Rewriter_meet (v0 : Nat) (v1 : Nat) (v2 : Nat) (v3 : Nat) (v4 : Int) (μ : Mem) (Q : Bool → Mem → Prop) : Prop := d_Rewriter_reduce v0 v1 v2 1 v4 μ (fun r1 μ2 => if r1 = (-1) then (Q false μ2) else (d_Term_copyFrom (v0 + 5) (v0 + 3) μ2 (fun μ4 => d_Rewriter_reduce v0 v1 v3 1 v4 μ4 (fun r5 μ6 => if r5 = (-1) then (Q false μ6) else (d_Term_sameAs (v0 + 5) (v0 + 3) μ6 (fun r7 => if r7 = true then (Q true μ6) else (Q false μ6)))))))
def d_PairList_joins_j55 (v2 : Int) (μ : Mem) (Q : Bool → Mem → Prop) : Prop := (0 ≤ v2 ∧ v2 < 20) ∧ if μ 158 v2.toNat = 1 then (Q true μ) else (Q false μ)
def d_PairList_joins_j54 (v2 : Int) (t1 : Int) (t2 : Int) (μ : Mem) (Q : Bool → Mem → Prop) : Prop := (0 ≤ t1 ∧ t1 < 20) ∧ d_PairList_joins_j55 v2 (mup μ 158 t1.toNat t2) Q
def d_PairList_joins (v1 : Nat) (v2 : Int) (μ : Mem) (Q : Bool → Mem → Prop) : Prop := d_PairList_has v2 μ (fun r1 => if r1 = true then ((0 ≤ v2 ∧ v2 < 20) ∧ if μ 158 v2.toNat = 0 then (d_PairList_firstTerm v2 μ (fun r3 => d_PairList_secondTerm v2 μ (fun r5 => d_Rewriter_meet 147 v1 r3 r5 50 μ (fun r7 μ8 => if r7 = true then (d_PairList_joins_j54 v2 v2 1 μ8 Q) else (d_PairList_joins_j54 v2 v2 2 μ8 Q))))) else (d_PairList_joins_j55 v2 μ Q)) else (Q false μ))
def d_OB_unjoinedPairs_j48 (v1 : Int) (v2 : Int) (μ : Mem) (W19 : Int → Int → Mem → Prop) (Q : Int → Mem → Prop) (X : Nat → Mem → Prop) : Prop := W19 v1 (wr (v2 + 1)) μ
def d_OB_unjoinedPairs_b19 (v1 : Int) (v2 : Int) (μ : Mem) (W19 : Int → Int → Mem → Prop) (Q : Int → Mem → Prop) (X : Nat → Mem → Prop) : Prop := if v2 < μ 139 1 then (d_PairList_joins 5 v2 μ (fun r5 μ6 => if r5 = true then (d_OB_unjoinedPairs_j48 v1 v2 μ6 W19 Q X) else (d_OB_unjoinedPairs_j48 (wr (v1 + 1)) v2 μ6 W19 Q X))) else (Q v1 μ)
def d_OB_unjoinedPairs_l19 (v1 : Int) (v2 : Int) (μ : Mem) (Q : Int → Mem → Prop) (X : Nat → Mem → Prop) : Prop := ∀ W : Int → Int → Mem → Prop, (∀ (v1 : Int) (v2 : Int) (μ : Mem), d_OB_unjoinedPairs_b19 v1 v2 μ W Q X → W v1 v2 μ) → W v1 v2 μ
def d_OB_unjoinedPairs (μ : Mem) (Q : Int → Mem → Prop) (X : Nat → Mem → Prop) : Prop := d_OB_requireSystem μ (fun μ2 => d_PairList_refresh 5 μ2 (fun μ4 => d_OB_unjoinedPairs_l19 0 0 μ4 Q X)) X
theorem i_OB_unjoinedPairs_l19 {Q : Int → Mem → Prop} {X : Nat → Mem → Prop} {Inv : Int → Int → Mem → Prop} (f : Int → Int → Mem → Nat) (hi : ∀ (v1 : Int) (v2 : Int) (μ : Mem), Inv v1 v2 μ → ∀ W : Int → Int → Mem → Prop, (∀ (v1' : Int) (v2' : Int) (μ' : Mem), Inv v1' v2' μ' → f v1' v2' μ' < f v1 v2 μ → W v1' v2' μ') → d_OB_unjoinedPairs_b19 v1 v2 μ W Q X) : ∀ (v1 : Int) (v2 : Int) (μ : Mem), Inv v1 v2 μ → d_OB_unjoinedPairs_l19 v1 v2 μ Q X := by
  intro v1 v2 μ hI W hW
  have key : ∀ (n : Nat) (v1 : Int) (v2 : Int) (μ : Mem), f v1 v2 μ = n → Inv v1 v2 μ → W v1 v2 μ := by
    intro n
    induction n using Nat.strongRecOn with
    | _ n ih =>
      intro v1 v2 μ hf hI
      exact hW _ _ _ (hi v1 v2 μ hI W fun v1' v2' μ' hI' hl => ih _ (by omega) v1' v2' μ' rfl hI')
  exact key _ v1 v2 μ rfl hI
def d_History_at_j22 (μ : Mem) (Q : Nat → Prop) : Prop := False
def d_History_at (v1 : Int) (μ : Mem) (Q : Nat → Prop) : Prop := if v1 < 0 then (d_History_at_j22 μ Q) else (if v1 < 8 then ((0 ≤ v1 ∧ v1 < 8) ∧ Q (248 + (1 + 52 * v1.toNat))) else (d_History_at_j22 μ Q))
def d_History_keep_j22 (v1 : Nat) (t1 : Int) (μ : Mem) (Q : Mem → Prop) : Prop := d_Math_min (wr (((mup μ 247 1 t1) 247 0) + 1)) 8 (mup μ 247 1 t1) (fun r1 => d_History_at ((mup (mup μ 247 1 t1) 247 0 r1) 247 1) (mup (mup μ 247 1 t1) 247 0 r1) (fun r3 => d_State_copyFrom r3 v1 (mup (mup μ 247 1 t1) 247 0 r1) (fun μ6 => Q μ6)))
def d_History_keep (v1 : Nat) (μ : Mem) (Q : Mem → Prop) : Prop := if wr ((μ 247 1) + 1) < 8 then (d_History_keep_j22 v1 (wr ((μ 247 1) + 1)) μ Q) else (d_History_keep_j22 v1 0 μ Q)
def d_OB_remember (μ : Mem) (Q : Mem → Prop) : Prop := d_History_keep 5 μ (fun μ2 => Q (mup μ2 139 0 1))
def d_OB_takeStep (v1 : Nat) (v2 : Int) (μ : Mem) (Q : Int → Mem → Prop) (X : Nat → Mem → Prop) : Prop := d_Rewriter_step 57 5 v1 v2 μ (fun r1 μ2 => if r1 = (-1) then (X 2 (thr μ2)) else (d_OB_remember μ2 (fun μ4 => d_Term_copyFrom v1 58 μ4 (fun μ6 => Q r1 μ6))))
def d_OB_stepInnermost (v1 : Int) (μ : Mem) (Q : Int → Mem → Prop) (X : Nat → Mem → Prop) : Prop := d_OB_requireTerm v1 μ (fun r1 μ2 => d_OB_takeStep r1 1 μ2 (fun r3 μ4 => Q r3 μ4) X) X
def d_OB_stepOutermost (v1 : Int) (μ : Mem) (Q : Int → Mem → Prop) (X : Nat → Mem → Prop) : Prop := d_OB_requireTerm v1 μ (fun r1 μ2 => d_OB_takeStep r1 0 μ2 (fun r3 μ4 => Q r3 μ4) X) X
def d_OB_normalize (v1 : Int) (μ : Mem) (Q : Int → Mem → Prop) (X : Nat → Mem → Prop) : Prop := d_OB_requireTerm v1 μ (fun r1 μ2 => d_Rewriter_reduce 57 5 r1 1 200 μ2 (fun r3 μ4 => if r3 = (-1) then (X 2 (thr μ4)) else (d_OB_remember μ4 (fun μ6 => d_Term_copyFrom r1 60 μ6 (fun μ8 => Q r3 μ8))))) X
def d_OB_copySubterm (v1 : Int) (v2 : Int) (μ : Mem) (Q : Int → Mem → Prop) (X : Nat → Mem → Prop) : Prop := d_OB_requireNode v1 v2 μ (fun r1 μ2 => if μ2 5 1 < 6 then (d_OB_remember μ2 (fun μ4 => d_Term_end r1 v2 μ4 (fun r5 => d_State_addTerm 5 r1 v2 r5 μ4 (fun μ8 => Q (wr ((μ8 5 1) - 1)) μ8)))) else (X 2 (thr μ2))) X
def d_OB_replaceSubterm_j82 (v4 : Nat) (t0 : Int) (μ : Mem) (Q : Int → Mem → Prop) (X : Nat → Mem → Prop) : Prop := if t0 = 0 then (X 2 (thr μ)) else (d_OB_remember μ (fun μ16 => d_Term_copyFrom v4 769 μ16 (fun μ18 => Q (μ18 v4 1) μ18)))
def d_OB_replaceSubterm_j81 (v4 : Nat) (μ : Mem) (Q : Int → Mem → Prop) (X : Nat → Mem → Prop) : Prop := d_OB_replaceSubterm_j82 v4 0 μ Q X
def d_OB_replaceSubterm (v1 : Int) (v2 : Int) (v3 : Int) (μ : Mem) (Q : Int → Mem → Prop) (X : Nat → Mem → Prop) : Prop := d_OB_requireNode v1 v2 μ (fun r1 μ2 => d_OB_requireTerm v3 μ2 (fun r3 μ4 => d_Term_clear 769 μ4 (fun μ6 => d_Term_addPart 769 r1 0 v2 μ6 (fun r7 μ8 => if r7 = true then (d_Term_addPart 769 r3 0 (μ8 r3 1) μ8 (fun r9 μ10 => if r9 = true then (d_Term_end r1 v2 μ10 (fun r11 => d_Term_addPart 769 r1 r11 (μ10 r1 1) μ10 (fun r13 μ14 => if r13 = true then (d_OB_replaceSubterm_j82 r1 1 μ14 Q X) else (d_OB_replaceSubterm_j81 r1 μ14 Q X)))) else (d_OB_replaceSubterm_j81 r1 μ10 Q X))) else (d_OB_replaceSubterm_j81 r1 μ8 Q X)))) X) X
def d_Rule_exchange (v0 : Nat) (v1 : Nat) (μ : Mem) (Q : Mem → Prop) : Prop := Q (mup (mup (mup (mup μ v0 0 ((dp (μ v1 0)) : Int)) v0 1 ((dp ((mup μ v0 0 ((dp (μ v1 0)) : Int)) v1 1)) : Int)) v1 0 ((dp (μ v0 0)) : Int)) v1 1 ((dp (μ v0 1)) : Int))
def d_OB_swapRules_b29 (v5 : Int) (v6 : Int) (μ : Mem) (W29 : Int → Int → Mem → Prop) (Q : Int → Mem → Prop) (X : Nat → Mem → Prop) : Prop := if v6 < μ 5 1 then (d_State_term 5 v6 μ (fun r9 => d_Rewriter_countRedexes 57 5 r9 μ (fun r11 μ12 => W29 (wr (v5 + r11)) (wr (v6 + 1)) μ12))) else (Q v5 μ)
def d_OB_swapRules_l29 (v5 : Int) (v6 : Int) (μ : Mem) (Q : Int → Mem → Prop) (X : Nat → Mem → Prop) : Prop := ∀ W : Int → Int → Mem → Prop, (∀ (v5 : Int) (v6 : Int) (μ : Mem), d_OB_swapRules_b29 v5 v6 μ W Q X → W v5 v6 μ) → W v5 v6 μ
def d_OB_swapRules (v1 : Int) (v2 : Int) (μ : Mem) (Q : Int → Mem → Prop) (X : Nat → Mem → Prop) : Prop := d_OB_requireRule v1 μ (fun r1 μ2 => d_OB_requireRule v2 μ2 (fun r3 μ4 => d_OB_remember μ4 (fun μ6 => d_Rule_exchange r1 r3 μ6 (fun μ8 => d_OB_swapRules_l29 0 0 μ8 Q X))) X) X
theorem i_OB_swapRules_l29 {Q : Int → Mem → Prop} {X : Nat → Mem → Prop} {Inv : Int → Int → Mem → Prop} (f : Int → Int → Mem → Nat) (hi : ∀ (v5 : Int) (v6 : Int) (μ : Mem), Inv v5 v6 μ → ∀ W : Int → Int → Mem → Prop, (∀ (v5' : Int) (v6' : Int) (μ' : Mem), Inv v5' v6' μ' → f v5' v6' μ' < f v5 v6 μ → W v5' v6' μ') → d_OB_swapRules_b29 v5 v6 μ W Q X) : ∀ (v5 : Int) (v6 : Int) (μ : Mem), Inv v5 v6 μ → d_OB_swapRules_l29 v5 v6 μ Q X := by
  intro v5 v6 μ hI W hW
  have key : ∀ (n : Nat) (v5 : Int) (v6 : Int) (μ : Mem), f v5 v6 μ = n → Inv v5 v6 μ → W v5 v6 μ := by
    intro n
    induction n using Nat.strongRecOn with
    | _ n ih =>
      intro v5 v6 μ hf hI
      exact hW _ _ _ (hi v5 v6 μ hI W fun v5' v6' μ' hI' hl => ih _ (by omega) v5' v6' μ' rfl hI')
  exact key _ v5 v6 μ rfl hI
def d_State_dropTerm_b2 (v0 : Nat) (v2 : Int) (μ : Mem) (W2 : Int → Mem → Prop) (Q : Mem → Prop) : Prop := if wr (v2 + 1) < μ v0 1 then (d_State_term v0 v2 μ (fun r1 => d_State_term v0 (wr (v2 + 1)) μ (fun r3 => d_Term_copyFrom r1 r3 μ (fun μ6 => W2 (wr (v2 + 1)) μ6)))) else (Q (mup μ v0 1 (wr ((μ v0 1) - 1))))
def d_State_dropTerm_l2 (v0 : Nat) (v2 : Int) (μ : Mem) (Q : Mem → Prop) : Prop := ∀ W : Int → Mem → Prop, (∀ (v2 : Int) (μ : Mem), d_State_dropTerm_b2 v0 v2 μ W Q → W v2 μ) → W v2 μ
def d_State_dropTerm (v0 : Nat) (v1 : Int) (μ : Mem) (Q : Mem → Prop) : Prop := d_State_dropTerm_l2 v0 v1 μ Q
theorem i_State_dropTerm_l2 {v0 : Nat} {Q : Mem → Prop} {Inv : Int → Mem → Prop} (f : Int → Mem → Nat) (hi : ∀ (v2 : Int) (μ : Mem), Inv v2 μ → ∀ W : Int → Mem → Prop, (∀ (v2' : Int) (μ' : Mem), Inv v2' μ' → f v2' μ' < f v2 μ → W v2' μ') → d_State_dropTerm_b2 v0 v2 μ W Q) : ∀ (v2 : Int) (μ : Mem), Inv v2 μ → d_State_dropTerm_l2 v0 v2 μ Q := by
  intro v2 μ hI W hW
  have key : ∀ (n : Nat) (v2 : Int) (μ : Mem), f v2 μ = n → Inv v2 μ → W v2 μ := by
    intro n
    induction n using Nat.strongRecOn with
    | _ n ih =>
      intro v2 μ hf hI
      exact hW _ _ (hi v2 μ hI W fun v2' μ' hI' hl => ih _ (by omega) v2' μ' rfl hI')
  exact key _ v2 μ rfl hI
def d_OB_removeTerm (v1 : Int) (μ : Mem) (Q : Int → Mem → Prop) (X : Nat → Mem → Prop) : Prop := d_OB_requireTerm v1 μ (fun r1 μ2 => d_OB_remember μ2 (fun μ4 => d_State_dropTerm 5 v1 μ4 (fun μ6 => Q (μ6 5 1) μ6))) X
def d_History_takeBack_j54 (t1 : Int) (μ : Mem) (Q : Mem → Prop) : Prop := Q (mup μ 247 1 t1)
def d_History_takeBack (v1 : Nat) (μ : Mem) (Q : Mem → Prop) : Prop := d_History_at (μ 247 1) μ (fun r1 => if 0 < μ 247 0 then (d_State_copyFrom v1 r1 μ (fun μ4 => if 0 < (mup μ4 247 0 (wr ((μ4 247 0) - 1))) 247 1 then (d_History_takeBack_j54 (wr (((mup μ4 247 0 (wr ((μ4 247 0) - 1))) 247 1) - 1)) (mup μ4 247 0 (wr ((μ4 247 0) - 1))) Q) else (d_History_takeBack_j54 7 (mup μ4 247 0 (wr ((μ4 247 0) - 1))) Q))) else (Q μ))
def d_OB_undo (μ : Mem) (Q : Int → Mem → Prop) (X : Nat → Mem → Prop) : Prop := if 0 < μ 247 0 then (d_History_takeBack 5 μ (fun μ2 => Q ((mup μ2 139 0 1) 247 0) (mup μ2 139 0 1))) else (X 0 (thr μ))
def d_OB_undoCount (μ : Mem) (Q : Int → Prop) : Prop := Q (μ 247 0)
def d_OB_saveState (v1 : Int) (μ : Mem) (Q : Int → Mem → Prop) (X : Nat → Mem → Prop) : Prop := d_OB_requireSystem μ (fun μ2 => d_OB_requireIndex v1 2 μ2 (fun μ4 => if v1 = 0 then (d_State_copyFrom 665 5 μ4 (fun μ6 => Q ((mup μ6 0 11 1) 5 1) (mup μ6 0 11 1))) else (d_State_copyFrom 717 5 μ4 (fun μ8 => Q ((mup μ8 0 12 1) 5 1) (mup μ8 0 12 1)))) X) X
def d_OB_restoreState_j50 (t1 : Nat) (μ : Mem) (Q : Int → Mem → Prop) (X : Nat → Mem → Prop) : Prop := d_OB_adopt t1 μ (fun μ4 => Q (μ4 5 1) μ4)
def d_OB_restoreState_j21 (v1 : Int) (t0 : Int) (μ : Mem) (Q : Int → Mem → Prop) (X : Nat → Mem → Prop) : Prop := if t0 = 0 then (X 0 (thr μ)) else (if v1 = 0 then (d_OB_restoreState_j50 665 μ Q X) else (d_OB_restoreState_j50 717 μ Q X))
def d_OB_restoreState (v1 : Int) (μ : Mem) (Q : Int → Mem → Prop) (X : Nat → Mem → Prop) : Prop := d_OB_requireIndex v1 2 μ (fun μ2 => if v1 = 0 then (d_OB_restoreState_j21 v1 (μ2 0 11) μ2 Q X) else (d_OB_restoreState_j21 v1 (μ2 0 12) μ2 Q X)) X
def d_Parser_putFourBytes_j52 (v1 : Int) (v2 : Int) (μ : Mem) (W3 : Int → Mem → Prop) (Q : Mem → Prop) : Prop := W3 (wr (v2 + (-8))) μ
def d_Parser_putFourBytes_b3 (v1 : Int) (v2 : Int) (μ : Mem) (W3 : Int → Mem → Prop) (Q : Mem → Prop) : Prop := if v2 < 0 then (Q μ) else (if μ 72 4 < 0 then (d_Parser_putFourBytes_j52 v1 v2 μ W3 Q) else (if μ 72 4 < 500 then ((0 ≤ μ 72 4 ∧ μ 72 4 < 500) ∧ d_Parser_putFourBytes_j52 v1 v2 (mup (mup μ 129 (μ 72 4).toNat (jand (jushr v1 v2) 255)) 72 4 (wr (((mup μ 129 (μ 72 4).toNat (jand (jushr v1 v2) 255)) 72 4) + 1))) W3 Q) else (d_Parser_putFourBytes_j52 v1 v2 μ W3 Q)))
def d_Parser_putFourBytes_l3 (v1 : Int) (v2 : Int) (μ : Mem) (Q : Mem → Prop) : Prop := ∀ W : Int → Mem → Prop, (∀ (v2 : Int) (μ : Mem), d_Parser_putFourBytes_b3 v1 v2 μ W Q → W v2 μ) → W v2 μ
def d_Parser_putFourBytes (v1 : Int) (μ : Mem) (Q : Mem → Prop) : Prop := d_Parser_putFourBytes_l3 v1 24 μ Q
theorem i_Parser_putFourBytes_l3 {v1 : Int} {Q : Mem → Prop} {Inv : Int → Mem → Prop} (f : Int → Mem → Nat) (hi : ∀ (v2 : Int) (μ : Mem), Inv v2 μ → ∀ W : Int → Mem → Prop, (∀ (v2' : Int) (μ' : Mem), Inv v2' μ' → f v2' μ' < f v2 μ → W v2' μ') → d_Parser_putFourBytes_b3 v1 v2 μ W Q) : ∀ (v2 : Int) (μ : Mem), Inv v2 μ → d_Parser_putFourBytes_l3 v1 v2 μ Q := by
  intro v2 μ hI W hW
  have key : ∀ (n : Nat) (v2 : Int) (μ : Mem), f v2 μ = n → Inv v2 μ → W v2 μ := by
    intro n
    induction n using Nat.strongRecOn with
    | _ n ih =>
      intro v2 μ hf hI
      exact hW _ _ (hi v2 μ hI W fun v2' μ' hI' hl => ih _ (by omega) v2' μ' rfl hI')
  exact key _ v2 μ rfl hI
def d_OB_append (v1 : Int) (v2 : Int) (v3 : Int) (v4 : Int) (v5 : Int) (μ : Mem) (Q : Int → Mem → Prop) : Prop := if 480 < μ 72 4 then (Q (-1) μ) else (d_Parser_putFourBytes v1 μ (fun μ2 => d_Parser_putFourBytes v2 μ2 (fun μ4 => d_Parser_putFourBytes v3 μ4 (fun μ6 => d_Parser_putFourBytes v4 μ6 (fun μ8 => d_Parser_putFourBytes v5 μ8 (fun μ10 => Q (μ10 72 4) μ10))))))
def d_Unifier_unites (v0 : Nat) (v1 : Nat) (v2 : Nat) (μ : Mem) (Q : Bool → Mem → Prop) : Prop := d_Unifier_clear v0 μ (fun μ2 => d_Unifier_load v0 v1 0 μ2 (fun r3 μ4 => d_Unifier_load v0 v2 8 μ4 (fun r5 μ6 => d_Unifier_solve v0 r3 r5 μ6 (fun r7 μ8 => Q r7 μ8))))
def d_OB_unify (v1 : Int) (v2 : Int) (μ : Mem) (Q : Bool → Mem → Prop) (X : Nat → Mem → Prop) : Prop := d_OB_requireTerm v1 μ (fun r1 μ2 => d_OB_requireTerm v2 μ2 (fun r3 μ4 => d_Unifier_unites 65 r1 r3 μ4 (fun r5 μ6 => Q r5 μ6)) X) X
def d_OB_unifiedSize (v1 : Int) (v2 : Int) (μ : Mem) (Q : Int → Mem → Prop) (X : Nat → Mem → Prop) : Prop := d_OB_requireTerm v1 μ (fun r1 μ2 => d_OB_requireTerm v2 μ2 (fun r3 μ4 => d_Unifier_unites 65 r1 r3 μ4 (fun r5 μ6 => if r5 = true then (d_Term_clear 769 μ6 (fun μ8 => d_Unifier_expand 65 0 769 μ8 (fun r9 μ10 => if r9 = true then (Q (μ10 769 1) μ10) else (Q (-1) μ10)))) else (Q (-1) μ6))) X) X
def d_OB_areEqual (v1 : Int) (v2 : Int) (μ : Mem) (Q : Bool → Mem → Prop) (X : Nat → Mem → Prop) : Prop := d_OB_requireTerm v1 μ (fun r1 μ2 => d_OB_requireTerm v2 μ2 (fun r3 μ4 => d_Term_sameAs r1 r3 μ4 (fun r5 => Q r5 μ4)) X) X
def d_Term_symbolOf (v0 : Int) (μ : Mem) (Q : Int → Prop) : Prop := if v0 < 0 then (Q (-1)) else (Q (jshr v0 2))
def d_OB_symbolAt (v1 : Int) (v2 : Int) (μ : Mem) (Q : Int → Mem → Prop) (X : Nat → Mem → Prop) : Prop := d_OB_requireNode v1 v2 μ (fun r1 μ2 => d_Term_get r1 v2 μ2 (fun r3 => d_Term_symbolOf r3 μ2 (fun r5 => Q r5 μ2))) X
def d_OB_variableAt (v1 : Int) (v2 : Int) (μ : Mem) (Q : Int → Mem → Prop) (X : Nat → Mem → Prop) : Prop := d_OB_requireNode v1 v2 μ (fun r1 μ2 => d_Term_get r1 v2 μ2 (fun r3 => d_Term_variableOf r3 μ2 (fun r5 => Q r5 μ2))) X
def d_Output_addByte (v1 : Int) (μ : Mem) (Q : Mem → Prop) : Prop := if μ 244 0 < 0 then (Q μ) else (if μ 244 0 < 1600 then ((0 ≤ μ 244 0 ∧ μ 244 0 < 1600) ∧ Q (mup (mup μ 245 (μ 244 0).toNat v1) 244 0 (wr (((mup μ 245 (μ 244 0).toNat v1) 244 0) + 1)))) else (Q μ))
def d_Output_addName_b24 (v2 : Nat) (v3 : Int) (v4 : Int) (μ : Mem) (W24 : Int → Mem → Prop) (Q : Mem → Prop) : Prop := d_Signature_nameLength v2 v3 μ (fun r7 => if v4 < r7 then (d_Signature_letter v2 v3 v4 μ (fun r9 => d_Output_addByte r9 μ (fun μ12 => W24 (wr (v4 + 1)) μ12))) else (Q μ))
def d_Output_addName_l24 (v2 : Nat) (v3 : Int) (v4 : Int) (μ : Mem) (Q : Mem → Prop) : Prop := ∀ W : Int → Mem → Prop, (∀ (v4 : Int) (μ : Mem), d_Output_addName_b24 v2 v3 v4 μ W Q → W v4 μ) → W v4 μ
def d_Output_addName (v1 : Int) (v2 : Nat) (μ : Mem) (Q : Mem → Prop) : Prop := if v1 < 0 then (d_Term_variableOf v1 μ (fun r1 => d_Output_addByte (wr (65 + r1)) μ (fun μ4 => Q μ4))) else (d_Term_symbolOf v1 μ (fun r5 => d_Output_addName_l24 v2 r5 0 μ Q))
theorem i_Output_addName_l24 {v2 : Nat} {v3 : Int} {Q : Mem → Prop} {Inv : Int → Mem → Prop} (f : Int → Mem → Nat) (hi : ∀ (v4 : Int) (μ : Mem), Inv v4 μ → ∀ W : Int → Mem → Prop, (∀ (v4' : Int) (μ' : Mem), Inv v4' μ' → f v4' μ' < f v4 μ → W v4' μ') → d_Output_addName_b24 v2 v3 v4 μ W Q) : ∀ (v4 : Int) (μ : Mem), Inv v4 μ → d_Output_addName_l24 v2 v3 v4 μ Q := by
  intro v4 μ hI W hW
  have key : ∀ (n : Nat) (v4 : Int) (μ : Mem), f v4 μ = n → Inv v4 μ → W v4 μ := by
    intro n
    induction n using Nat.strongRecOn with
    | _ n ih =>
      intro v4 μ hf hI
      exact hW _ _ (hi v4 μ hI W fun v4' μ' hI' hl => ih _ (by omega) v4' μ' rfl hI')
  exact key _ v4 μ rfl hI
def d_Output_closeBrackets_b4 (v2 : Int) (μ : Mem) (W4 : Int → Mem → Prop) (Q : Int → Mem → Prop) : Prop := if v2 < 0 then (Q 0 μ) else (if v2 < 80 then ((0 ≤ v2 ∧ v2 < 80) ∧ (0 ≤ v2 ∧ v2 < 80) ∧ (0 ≤ v2 ∧ v2 < 80) ∧ if 0 < (mup μ 246 v2.toNat (wr ((μ 246 v2.toNat) - 1))) 246 v2.toNat then (d_Output_addByte 44 (mup μ 246 v2.toNat (wr ((μ 246 v2.toNat) - 1))) (fun μ2 => Q (wr (v2 + 1)) μ2)) else (d_Output_addByte 41 (mup μ 246 v2.toNat (wr ((μ 246 v2.toNat) - 1))) (fun μ4 => W4 (wr (v2 + (-1))) μ4))) else (Q 0 μ))
def d_Output_closeBrackets_l4 (v2 : Int) (μ : Mem) (Q : Int → Mem → Prop) : Prop := ∀ W : Int → Mem → Prop, (∀ (v2 : Int) (μ : Mem), d_Output_closeBrackets_b4 v2 μ W Q → W v2 μ) → W v2 μ
def d_Output_closeBrackets (v1 : Int) (μ : Mem) (Q : Int → Mem → Prop) : Prop := d_Output_closeBrackets_l4 (wr (v1 - 1)) μ Q
theorem i_Output_closeBrackets_l4 {Q : Int → Mem → Prop} {Inv : Int → Mem → Prop} (f : Int → Mem → Nat) (hi : ∀ (v2 : Int) (μ : Mem), Inv v2 μ → ∀ W : Int → Mem → Prop, (∀ (v2' : Int) (μ' : Mem), Inv v2' μ' → f v2' μ' < f v2 μ → W v2' μ') → d_Output_closeBrackets_b4 v2 μ W Q) : ∀ (v2 : Int) (μ : Mem), Inv v2 μ → d_Output_closeBrackets_l4 v2 μ Q := by
  intro v2 μ hI W hW
  have key : ∀ (n : Nat) (v2 : Int) (μ : Mem), f v2 μ = n → Inv v2 μ → W v2 μ := by
    intro n
    induction n using Nat.strongRecOn with
    | _ n ih =>
      intro v2 μ hf hI
      exact hW _ _ (hi v2 μ hI W fun v2' μ' hI' hl => ih _ (by omega) v2' μ' rfl hI')
  exact key _ v2 μ rfl hI
def d_Output_addTerm_j79 (v1 : Nat) (v2 : Nat) (v3 : Int) (v4 : Int) (μ : Mem) (W5 : Int → Int → Mem → Prop) (Q : Mem → Prop) : Prop := W5 v3 (wr (v4 + 1)) μ
def d_Output_addTerm_b5 (v1 : Nat) (v2 : Nat) (v3 : Int) (v4 : Int) (μ : Mem) (W5 : Int → Int → Mem → Prop) (Q : Mem → Prop) : Prop := if v4 < μ v1 1 then (d_Term_get v1 v4 μ (fun r1 => d_Output_addName r1 v2 μ (fun μ4 => d_Term_arityOf r1 μ4 (fun r5 => if r5 = 0 then (d_Output_closeBrackets v3 μ4 (fun r7 μ8 => d_Output_addTerm_j79 v1 v2 r7 v4 μ8 W5 Q)) else (if v3 < 0 then (d_Output_addTerm_j79 v1 v2 v3 v4 μ4 W5 Q) else (if v3 < 80 then (d_Output_addByte 40 μ4 (fun μ10 => d_Term_arityOf r1 μ10 (fun r11 => (0 ≤ v3 ∧ v3 < 80) ∧ d_Output_addTerm_j79 v1 v2 (wr (v3 + 1)) v4 (mup μ10 246 v3.toNat r11) W5 Q))) else (d_Output_addTerm_j79 v1 v2 v3 v4 μ4 W5 Q))))))) else (Q μ)
def d_Output_addTerm_l5 (v1 : Nat) (v2 : Nat) (v3 : Int) (v4 : Int) (μ : Mem) (Q : Mem → Prop) : Prop := ∀ W : Int → Int → Mem → Prop, (∀ (v3 : Int) (v4 : Int) (μ : Mem), d_Output_addTerm_b5 v1 v2 v3 v4 μ W Q → W v3 v4 μ) → W v3 v4 μ
def d_Output_addTerm (v1 : Nat) (v2 : Nat) (μ : Mem) (Q : Mem → Prop) : Prop := d_Output_addTerm_l5 v1 v2 0 0 μ Q
theorem i_Output_addTerm_l5 {v1 : Nat} {v2 : Nat} {Q : Mem → Prop} {Inv : Int → Int → Mem → Prop} (f : Int → Int → Mem → Nat) (hi : ∀ (v3 : Int) (v4 : Int) (μ : Mem), Inv v3 v4 μ → ∀ W : Int → Int → Mem → Prop, (∀ (v3' : Int) (v4' : Int) (μ' : Mem), Inv v3' v4' μ' → f v3' v4' μ' < f v3 v4 μ → W v3' v4' μ') → d_Output_addTerm_b5 v1 v2 v3 v4 μ W Q) : ∀ (v3 : Int) (v4 : Int) (μ : Mem), Inv v3 v4 μ → d_Output_addTerm_l5 v1 v2 v3 v4 μ Q := by
  intro v3 v4 μ hI W hW
  have key : ∀ (n : Nat) (v3 : Int) (v4 : Int) (μ : Mem), f v3 v4 μ = n → Inv v3 v4 μ → W v3 v4 μ := by
    intro n
    induction n using Nat.strongRecOn with
    | _ n ih =>
      intro v3 v4 μ hf hI
      exact hW _ _ _ (hi v3 v4 μ hI W fun v3' v4' μ' hI' hl => ih _ (by omega) v3' v4' μ' rfl hI')
  exact key _ v3 v4 μ rfl hI
def d_OB_writeRule (v1 : Int) (μ : Mem) (Q : Int → Mem → Prop) (X : Nat → Mem → Prop) : Prop := d_OB_requireRule v1 μ (fun r1 μ2 => d_Output_addTerm (dp ((mup μ2 244 0 0) r1 0)) 1 (mup μ2 244 0 0) (fun μ4 => d_Output_addByte 61 μ4 (fun μ6 => d_Output_addTerm (dp (μ6 r1 1)) 1 μ6 (fun μ8 => Q (μ8 244 0) μ8)))) X
end
section
/-! WHAT THE METHODS DO, as texts over numbers (written by wip/gen/dec.py), 1 -/
def d_Output_byteAt (v1 : Int) (μ : Mem) (Q : Int → Prop) : Prop := if v1 < 0 then (Q (-1)) else (if v1 < μ 244 0 then (if v1 < 1600 then ((0 ≤ v1 ∧ v1 < 1600) ∧ Q (μ 245 v1.toNat)) else (Q (-1))) else (Q (-1)))
def d_OB_outputByte (v1 : Int) (μ : Mem) (Q : Int → Mem → Prop) (X : Nat → Mem → Prop) : Prop := d_OB_requireIndex v1 (μ 244 0) μ (fun μ2 => d_Output_byteAt v1 μ2 (fun r3 => Q r3 μ2)) X
end
section
/-! THE LAW'S OWN CELLS: rules by which a printed method is read over the law's own cells and the class's memory together -/
abbrev LS : Type := JE2 × Mem
/-- the memory of the pure machine is this state; nothing was thrown -/
def R2 (s : LS) (M : JM) : Prop := Rl s.1 M s.2 ∧ s.2 772 0 = 0 ∧ s.1.2.1.1.length ≤ 900000
def dS (s : LS) : List (Nat × Nat) := s.1.2.1.1
def dV (s : LS) : Nat → Nat → JV := s.1.2.1.2
/-- the next cell's number -/
def dn (s : LS) : Nat := 772 + (dS s).length
def dh (s : LS) (i : Nat) : Option (Nat × Nat) := if 772 ≤ i then (dS s)[i - 772]? else none
def dlen (s : LS) (i : Nat) : Option Nat := if i = 1000000 then some s.1.1.1 else if i = 1000001 then some 0 else if 3000000 ≤ i ∧ i < 3000014 then some (jlit (i - 3000000)).length else match dh s i with
  | some (t, n) => if 100 ≤ t then some n else none
  | none => none
def up (s : LS) (i k : Nat) (v : JV) : LS := ((s.1.1, (s.1.2.1.1, fun a j => if a = i ∧ j = k then v else s.1.2.1.2 a j), s.1.2.2), s.2)
def mk (s : LS) (t n : Nat) (f : Nat → JV) : LS := ((s.1.1, (s.1.2.1.1 ++ [(t, n)], fun a j => if a = 772 + s.1.2.1.1.length then f j else s.1.2.1.2 a j), (s.1.2.2.1 + 1, s.1.2.2.2 + n)), s.2)
/-- all values of one cell -/
def upA (s : LS) (i : Nat) (f : Nat → JV) : LS := ((s.1.1, (s.1.2.1.1, fun a j => if a = i then f j else s.1.2.1.2 a j), s.1.2.2), s.2)
theorem rsl_l : rsl.length = 772 := rsl_len
section L27
variable {s : LS} {M : JM} {mi pc : Nat} {ls st : List JV} {P : JO → JM → Prop} {l a b w : Nat}
theorem R2_len (h : R2 s M) : M.1.length = dn s := by
  rw [h.1.1, List.length_append, List.length_map, rsl_l]
  rfl
theorem R2_lt (h : R2 s M) {i : Nat} {q : Nat × Nat} (hi : dh s i = some q) : jsh M i = some q ∧ 772 ≤ i ∧ i < 1000000 := by
  unfold dh at hi
  split at hi
  · rename_i h7
    have hl := (List.getElem?_eq_some_iff.mp hi).1
    have h9 := h.2.2
    unfold dS at hl hi
    refine ⟨?_, h7, by omega⟩
    unfold jsh
    rw [h.1.1, List.getElem?_append_right (by rw [List.length_map, rsl_l]; exact h7), List.length_map, rsl_l]
    exact hi
  · cases hi
theorem R2_get (h : R2 s M) {i k : Nat} (hi : 772 ≤ i) : jget M i k = dV s i k := h.1.2.2.2.2.1 i k hi
theorem R2_clean (h : R2 s M) : jclean M = true := h.1.2.2.2.2.2 h.2.1
theorem R2_scr (h : R2 s M) : jL M = s.1.1.1 ∧ jxs M = s.1.1.2 := by
  unfold jL jxs
  rw [h.1.2.2.2.1]
  exact ⟨rfl, rfl⟩
theorem ln_hi {a : Nat} (h : 772 ≤ a) : ln a = 0 := by
  unfold ln
  rw [List.getD_eq_getElem?_getD, List.getElem?_eq_none (by rw [rsl_l]; exact h)]
  rfl
theorem R2_upA (h : R2 s M) {i : Nat} {f : Nat → JV} (hi : 772 ≤ i) : R2 (upA s i f) (M.1, (fun a j => if a = i then f j else M.2.1 a j), M.2.2) := by
  obtain ⟨⟨h1, h2, h3, h4, h5, h6⟩, h7, h8⟩ := h
  refine ⟨⟨h1, fun a j hj => ?_, h3, h4, fun a j ha => ?_, h6⟩, h7, h8⟩
  · have : a ≠ i := by
      rintro rfl
      rw [ln_hi hi] at hj
      omega
    show (if a = i then f j else M.2.1 a j) = _
    rw [if_neg this]
    exact h2 a j hj
  · show (if a = i then f j else M.2.1 a j) = (if a = i then f j else s.1.2.1.2 a j)
    by_cases q : a = i
    · rw [if_pos q, if_pos q]
    · rw [if_neg q, if_neg q]
      exact h5 a j ha
theorem R2_up (h : R2 s M) {i k : Nat} {v : JV} (hi : 772 ≤ i) : R2 (up s i k v) (jset M i k v) := by
  obtain ⟨⟨h1, h2, h3, h4, h5, h6⟩, h7, h8⟩ := h
  refine ⟨⟨h1, fun a j hj => ?_, h3, h4, fun a j ha => ?_, h6⟩, h7, h8⟩
  · have : ¬ (a = i ∧ j = k) := by
      rintro ⟨rfl, rfl⟩
      rw [ln_hi hi] at hj
      omega
    show (if a = i ∧ j = k then v else M.2.1 a j) = _
    rw [if_neg this]
    exact h2 a j hj
  · show (if a = i ∧ j = k then v else M.2.1 a j) = (if a = i ∧ j = k then v else s.1.2.1.2 a j)
    by_cases q : a = i ∧ j = k
    · rw [if_pos q, if_pos q]
    · rw [if_neg q, if_neg q]
      exact h5 a j ha
theorem R2_mk (h : R2 s M) {t n : Nat} {f : Nat → JV} (hl : (dS s).length < 900000) : R2 (mk s t n f) (jpush M t n f) := by
  have hlen := R2_len h
  obtain ⟨⟨h1, h2, ⟨h3, h3', h3''⟩, h4, h5, h6⟩, h7, h8⟩ := h
  unfold dn at hlen
  refine ⟨⟨?_, fun a j hj => ?_, ⟨h3, ?_, ?_⟩, h4, fun a j ha => ?_, h6⟩, h7, ?_⟩
  · show M.1 ++ [(t, n)] = _
    rw [h1, List.append_assoc]
    rfl
  · have : a ≠ M.1.length := by
      rintro rfl
      rw [ln_hi (by omega)] at hj
      omega
    show (if a = M.1.length then f j else M.2.1 a j) = _
    rw [if_neg this]
    exact h2 a j hj
  · show M.2.2.1 + 1 = s.1.2.2.1 + 1 + _
    rw [h3']
    omega
  · show M.2.2.2.1 + n = s.1.2.2.2 + n + _
    rw [h3'']
    omega
  · show (if a = M.1.length then f j else M.2.1 a j) = (if a = 772 + s.1.2.1.1.length then f j else s.1.2.1.2 a j)
    rw [hlen]
    unfold dS
    by_cases q : a = 772 + s.1.2.1.1.length
    · rw [if_pos q, if_pos q]
    · rw [if_neg q, if_neg q]
      exact h5 a j ha
  · show (s.1.2.1.1 ++ [(t, n)]).length ≤ 900000
    rw [List.length_append]
    unfold dS at hl
    simp
    omega
/-! the words of the texts -/
def cN (v : JV) (A : Prop) (B : Nat → Prop) : Prop := match v with
  | .inr (.inr .null) => A
  | .inr (.inl i) => B i
  | _ => False
def cR (v : JV) (B : Nat → Prop) : Prop := match v with
  | .inr (.inl i) => B i
  | _ => False
def fI (s : LS) (i c k : Nat) (K : Int → Prop) : Prop := ∃ n z, dh s i = some (c, n) ∧ k < n ∧ dV s i k = .inl z ∧ K z
def fV (s : LS) (i c k : Nat) (K : JV → Prop) : Prop := ∃ n x, dh s i = some (c, n) ∧ k < n ∧ dV s i k = x ∧ jnl x = true ∧ K x
def fSv (s : LS) (i : Nat) (K : JV → Prop) : Prop := ((2000000 ≤ i ∧ i < 2000014) ∧ K (jR (i + 1000000))) ∨ fV s i 15 0 K
def fSc (s : LS) (i : Nat) (K : Int → Prop) : Prop := ((2000000 ≤ i ∧ i < 2000014) ∧ K 0) ∨ fI s i 15 1 K
def pF (s : LS) (i c k f : Nat) (v : JV) (K : LS → Prop) : Prop := ∃ n, dh s i = some (c, n) ∧ k < n ∧ jfit f v = true ∧ K (up s i k v)
def aL (s : LS) (i : Nat) (K : Int → Prop) : Prop := ∃ n : Nat, dlen s i = some n ∧ n < 2147483648 ∧ K n
def rI (s : LS) (i : Nat) (k : Int) (K : Int → Prop) : Prop := (i = 1000000 ∧ 0 ≤ k ∧ k < s.1.1.1 ∧ K (s.1.1.2 k.toNat)) ∨ ∃ n z, dh s i = some (100, n) ∧ 0 ≤ k ∧ k.toNat < n ∧ dV s i k.toNat = .inl z ∧ K z
def rB (s : LS) (i : Nat) (k : Int) (K : Int → Prop) : Prop := ((3000000 ≤ i ∧ i < 3000014) ∧ 0 ≤ k ∧ k.toNat < (jlit (i - 3000000)).length ∧ K ((jlit (i - 3000000)).getD k.toNat 0)) ∨ ∃ n z, dh s i = some (101, n) ∧ 0 ≤ k ∧ k.toNat < n ∧ dV s i k.toNat = .inl z ∧ K z
def rJ (s : LS) (i : Nat) (k : Int) (K : Int64 → Prop) : Prop := ∃ n x, dh s i = some (103, n) ∧ 0 ≤ k ∧ k.toNat < n ∧ dV s i k.toNat = jX (.long x) ∧ K x
def rV (s : LS) (i : Nat) (k : Int) (K : JV → Prop) : Prop := ∃ t n x, dh s i = some (t, n) ∧ 105 ≤ t ∧ 0 ≤ k ∧ k.toNat < n ∧ dV s i k.toNat = x ∧ jnl x = true ∧ K x
def wA (s : LS) (i t : Nat) (k : Int) (v : JV) (K : LS → Prop) : Prop := ∃ n, dh s i = some (t, n) ∧ 0 ≤ k ∧ k.toNat < n ∧ K (up s i k.toNat v)
/-- what a row of references may take -/
def okv (s : LS) (t : Nat) (v : JV) : Prop := match v with
  | .inr (.inl j) => ∃ tj nj, dh s j = some (tj, nj) ∧ ((t = 116 ∧ tj = 11) ∨ (t = 199 ∧ (tj = 11 ∨ tj = 116)))
  | .inr (.inr .null) => t = 116
  | _ => False
def wV (s : LS) (i : Nat) (k : Int) (v : JV) (K : LS → Prop) : Prop := ∃ t n, dh s i = some (t, n) ∧ 0 ≤ k ∧ k.toNat < n ∧ okv s t v ∧ K (up s i k.toNat v)
def nC (s : LS) (c : Nat) (K : Nat → LS → Prop) : Prop := (dS s).length < 900000 ∧ K (dn s) (mk s c (jfields c).length (jdef c))
def nA (s : LS) (t : Nat) (z : Int) (v : JV) (K : Nat → LS → Prop) : Prop := (dS s).length < 900000 ∧ 0 ≤ z ∧ z < 60000000 ∧ K (dn s) (mk s t z.toNat (fun _ => v))
def cT (s : LS) (v : JV) (t : Nat) (K : Prop) : Prop := (match v with
  | .inr (.inl i) => ∃ n, dh s i = some (t, n)
  | .inr (.inr .null) => True
  | _ => False) ∧ K
def cE (v w : JV) (A B : Prop) : Prop := jap v w = true ∧ if jeqr v w = true then A else B
/-- bytes of a row: a literal's, or a cell's -/
def bL (s : LS) (i : Nat) : Option Nat := if 3000000 ≤ i ∧ i < 3000014 then some (jlit (i - 3000000)).length else match dh s i with
  | some (t, n) => if t = 101 then some n else none
  | none => none
def bV (s : LS) (i k : Nat) : JV := if 3000000 ≤ i ∧ i < 3000014 then jI ((jlit (i - 3000000)).getD k 0) else dV s i k
def cpy (s : LS) (n dp dst sp src : Nat) : LS := upA s dst (fun j => if dp ≤ j ∧ j < dp + n then bV s src (sp + (j - dp)) else dV s dst j)
def aC (s : LS) (n dp sp : Int) (dst src : Nat) (K : LS → Prop) : Prop := ∃ x y, bL s src = some x ∧ dh s dst = some (101, y) ∧ src ≠ dst ∧ 0 ≤ n ∧ 0 ≤ sp ∧ 0 ≤ dp ∧ sp + n ≤ (x : Int) ∧ dp + n ≤ (y : Int) ∧ (∀ k, k < n.toNat → jby1 (bV s src (sp.toNat + k)) = true) ∧ K (cpy s n.toNat dp.toNat dst sp.toNat src)
def aK (s : LS) (i : Nat) (K : Nat → LS → Prop) : Prop := ∃ n, dh s i = some (101, n) ∧ n < 60000000 ∧ (dS s).length < 900000 ∧ (∀ k, k < n → jby1 (dV s i k) = true) ∧ K (dn s) (mk s 101 n (fun k => dV s i k))
def aF (s : LS) (i : Nat) (v : Int64) (K : LS → Prop) : Prop := ∃ n, dh s i = some (103, n) ∧ n < 60000000 ∧ K (upA s i (fun _ => jX (.long v)))
def aS (s : LS) (i j : Nat) (K : Prop) : Prop := dh s i = some (103, 60) ∧ dh s j = some (103, 60) ∧ i < j ∧ (∀ k, k < 60 → jleq (dV s i k) (dV s j k) = true) ∧ K
def P2 (QQ : Option JV → LS → Prop) : JO → JM → Prop := fun o M' => match o with
  | .inl v => ∃ s', R2 s' M' ∧ QQ v s'
  | .inr _ => False
def QI2 (Q : Int → LS → Prop) : Option JV → LS → Prop := fun v s => ∃ z : Int, v = some (.inl z) ∧ Q z s
def QV2 (Q : JV → LS → Prop) : Option JV → LS → Prop := fun v s => ∃ x : JV, v = some x ∧ jnl x = true ∧ Q x s
def QN2 (Q : LS → Prop) : Option JV → LS → Prop := fun v s => v = none ∧ Q s
/-! the rules -/
theorem jnl_c {v : JV} (h : jnl v = true) : (∃ i, v = jR i) ∨ v = jX .null := by
  rcases v with z | z | z
  · cases h
  · exact Or.inl ⟨z, rfl⟩
  · cases z <;> first | exact Or.inr rfl | cases h
theorem E_ald {i : Nat} {v : JV} (hc : jcode mi pc = some (.aload i, l, a, b, w)) (hl : jld ls i = v) (hv : jnl v = true) (h : JX mi (pc + 2) ls (v :: st) M P) : JX mi pc ls st M P := by
  refine L_go hc ?_ h
  show jld2 (jld ls i) st (pc + 2) ls M = _
  rw [hl]
  rcases jnl_c hv with ⟨j, rfl⟩ | rfl <;> rfl
theorem E_aldn {i : Fin 4} {v : JV} (hc : jcode mi pc = some (.aload_n i, l, a, b, w)) (hl : jld ls i = v) (hv : jnl v = true) (h : JX mi (pc + 1) ls (v :: st) M P) : JX mi pc ls st M P := by
  refine L_go hc ?_ h
  show jld2 (jld ls i) st (pc + 1) ls M = _
  rw [hl]
  rcases jnl_c hv with ⟨j, rfl⟩ | rfl <;> rfl
theorem E_ast {i : Nat} {v : JV} {ls1 : List JV} (hc : jcode mi pc = some (.astore i, l, a, b, w)) (hg : jc2 ((jU :: ls).getD i jU) = false) (hi : i < ls.length) (hv : jnl v = true) (hs : ls.set i v = ls1) (h : JX mi (pc + 2) ls1 st M P) : JX mi pc ls (v :: st) M P := by
  subst hs
  refine L_go hc ?_ h
  rcases jnl_c hv with ⟨j, rfl⟩ | rfl
  · show jNo (pc + 2) (jsto ls i (jR j)) st M = _
    rw [jsto_of hg hi]; rfl
  · show jNo (pc + 2) (jsto ls i (jX .null)) st M = _
    rw [jsto_of hg hi]; rfl
theorem E_astn {i : Fin 4} {v : JV} {ls1 : List JV} (hc : jcode mi pc = some (.astore_n i, l, a, b, w)) (hg : jc2 ((jU :: ls).getD i jU) = false) (hi : i < ls.length) (hv : jnl v = true) (hs : ls.set i v = ls1) (h : JX mi (pc + 1) ls1 st M P) : JX mi pc ls (v :: st) M P := by
  subst hs
  refine L_go hc ?_ h
  rcases jnl_c hv with ⟨j, rfl⟩ | rfl
  · show jNo (pc + 1) (jsto ls i (jR j)) st M = _
    rw [jsto_of hg hi]; rfl
  · show jNo (pc + 1) (jsto ls i (jX .null)) st M = _
    rw [jsto_of hg hi]; rfl
theorem jnl_c2 {v : JV} (h : jnl v = true) : jc2 v = false := by
  rcases jnl_c h with ⟨j, rfl⟩ | rfl <;> rfl
theorem E_dup {v : JV} (hc : jcode mi pc = some (.dup, l, a, b, w)) (hv : jnl v = true) (h : JX mi (pc + 1) ls (v :: v :: st) M P) : JX mi pc ls (v :: st) M P := by
  refine L_go hc ?_ h
  show (if jc2 v = false then jN (pc + 1) ls (v :: v :: st) M else none) = _
  rw [if_pos (jnl_c2 hv)]
  rfl
theorem E_pop {v : JV} (hc : jcode mi pc = some (.pop, l, a, b, w)) (hv : jnl v = true) (h : JX mi (pc + 1) ls st M P) : JX mi pc ls (v :: st) M P := by
  refine L_go hc ?_ h
  show (if jc2 v = false then jN (pc + 1) ls st M else none) = _
  rw [if_pos (jnl_c2 hv)]
  rfl
theorem E_dup2 {v x : JV} (hc : jcode mi pc = some (.dup2, l, a, b, w)) (hv : jc2 v = false) (hx : jc2 x = false) (h : JX mi (pc + 1) ls (v :: x :: v :: x :: st) M P) : JX mi pc ls (v :: x :: st) M P := L_go hc (if_pos ⟨hv, hx⟩) h
theorem E_dupx {v x : JV} (hc : jcode mi pc = some (.dup_x1, l, a, b, w)) (hv : jc2 v = false) (hx : jc2 x = false) (h : JX mi (pc + 1) ls (v :: x :: v :: st) M P) : JX mi pc ls (v :: x :: st) M P := L_go hc (if_pos ⟨hv, hx⟩) h
/-- null tests: null on the left -/
theorem E_ifn {off : Int} {v : JV} {A : Prop} {B : Nat → Prop} (hc : jcode mi pc = some (.ifnull off, l, a, b, w)) (h : cN v A B) (k1 : v = jX .null → A → JX mi a ls st M P) (k2 : ∀ i, v = jR i → B i → JX mi (pc + 3) ls st M P) : JX mi pc ls (v :: st) M P := by
  unfold cN at h
  split at h
  · exact L_go hc rfl (k1 rfl h)
  · exact L_go hc rfl (k2 _ rfl h)
  · exact h.elim
theorem E_ifnn {off : Int} {v : JV} {A : Prop} {B : Nat → Prop} (hc : jcode mi pc = some (.ifnonnull off, l, a, b, w)) (h : cN v A B) (k1 : v = jX .null → A → JX mi (pc + 3) ls st M P) (k2 : ∀ i, v = jR i → B i → JX mi a ls st M P) : JX mi pc ls (v :: st) M P := by
  unfold cN at h
  split at h
  · exact L_go hc rfl (k1 rfl h)
  · exact L_go hc rfl (k2 _ rfl h)
  · exact h.elim
theorem cR_of {v : JV} {B : Nat → Prop} (h : cR v B) : ∃ i, v = jR i ∧ B i := by
  unfold cR at h
  split at h
  · exact ⟨_, rfl, h⟩
  · exact h.elim
theorem E_fld {n i c k t : Nat} (hc : jcode mi pc = some (.getfield n, l, c, k, w)) (hM : R2 s M) (hd : dh s i = some (c, t)) (hk : k < t) (hc2 : c < 100) (h : JX mi (pc + 3) ls (dV s i k :: st) M P) : JX mi pc ls (.inr (.inl i) :: st) M P := by
  obtain ⟨h1, h2, h3⟩ := R2_lt hM hd
  refine L_go hc ?_ h
  show (if c = 15 ∧ 2000000 ≤ i ∧ i < 2000014 then _ else _) = _
  rw [if_neg (by omega), h1]
  show (if _ then _ else _) = _
  rw [if_pos ⟨h3, by rw [Nat.mod_eq_of_lt hc2], hk⟩, R2_get hM h2]
  rfl
theorem E_fI {n i c k : Nat} {K : Int → Prop} (hc : jcode mi pc = some (.getfield n, l, c, k, w)) (hM : R2 s M) (hc2 : c < 100) (h : fI s i c k K) (hk : ∀ z, K z → JX mi (pc + 3) ls (.inl z :: st) M P) : JX mi pc ls (.inr (.inl i) :: st) M P := by
  obtain ⟨t, z, h1, h2, h3, h4⟩ := h
  exact E_fld hc hM h1 h2 hc2 (by rw [h3]; exact hk z h4)
theorem E_fV {n i c k : Nat} {K : JV → Prop} (hc : jcode mi pc = some (.getfield n, l, c, k, w)) (hM : R2 s M) (hc2 : c < 100) (h : fV s i c k K) (hk : ∀ x, jnl x = true → K x → JX mi (pc + 3) ls (x :: st) M P) : JX mi pc ls (.inr (.inl i) :: st) M P := by
  obtain ⟨t, z, h1, h2, h3, h4, h5⟩ := h
  exact E_fld hc hM h1 h2 hc2 (by rw [h3]; exact hk z h4 h5)
theorem E_fSv {n i : Nat} {K : JV → Prop} (hc : jcode mi pc = some (.getfield n, l, 15, 0, w)) (hM : R2 s M) (h : fSv s i K) (hk : ∀ x, jnl x = true → K x → JX mi (pc + 3) ls (x :: st) M P) : JX mi pc ls (.inr (.inl i) :: st) M P := by
  rcases h with ⟨h1, h2⟩ | h
  · refine L_go hc ?_ (hk _ rfl h2)
    show (if 15 = 15 ∧ 2000000 ≤ i ∧ i < 2000014 then _ else _) = _
    rw [if_pos ⟨rfl, h1⟩]
    rfl
  · exact E_fV hc hM (by decide) h hk
theorem E_fSc {n i : Nat} {K : Int → Prop} (hc : jcode mi pc = some (.getfield n, l, 15, 1, w)) (hM : R2 s M) (h : fSc s i K) (hk : ∀ z, K z → JX mi (pc + 3) ls (.inl z :: st) M P) : JX mi pc ls (.inr (.inl i) :: st) M P := by
  rcases h with ⟨h1, h2⟩ | h
  · refine L_go hc ?_ (hk _ h2)
    show (if 15 = 15 ∧ 2000000 ≤ i ∧ i < 2000014 then _ else _) = _
    rw [if_pos ⟨rfl, h1⟩]
    rfl
  · exact E_fI hc hM (by decide) h hk
theorem E_pF {n i c k f t : Nat} {v : JV} {K : LS → Prop} (hc : jcode mi pc = some (.putfield n, l, t, k, w)) (hM : R2 s M) (ht : t % 100 = c ∧ t / 100 = f) (h : pF s i c k f v K) (hk : ∀ M' s', R2 s' M' → K s' → s' = up s i k v → JX mi (pc + 3) ls st M' P) : JX mi pc ls (v :: .inr (.inl i) :: st) M P := by
  obtain ⟨n9, h1, h2, h3, h4⟩ := h
  obtain ⟨g1, g2, g3⟩ := R2_lt hM h1
  refine L_goM hc ?_ (hk _ _ (R2_up hM g2) h4 rfl)
  show (match jsh M i with | some (t', n) => if i < 1000000 ∧ t' = t % 100 ∧ k < n ∧ jfit (t / 100) v = true then jN (pc + 3) ls st (jset M i k v) else none | none => none) = _
  rw [g1]
  show (if _ then _ else _) = _
  rw [if_pos ⟨g3, ht.1.symm, h2, by rw [ht.2]; exact h3⟩]
  rfl
theorem E_aL {i : Nat} {K : Int → Prop} (hc : jcode mi pc = some (.arraylength, l, a, b, w)) (hM : R2 s M) (h : aL s i K) (hk : ∀ z, K z → JX mi (pc + 1) ls (.inl z :: st) M P) : JX mi pc ls (.inr (.inl i) :: st) M P := by
  obtain ⟨n, h1, h2, h3⟩ := h
  have e : jlen M i = some n := by
    unfold dlen at h1
    unfold jlen
    split at h1
    · rename_i q
      subst q
      rw [if_neg (by omega), if_pos rfl, (R2_scr hM).1]
      exact h1
    · rename_i q
      split at h1
      · rename_i q2
        subst q2
        rw [if_neg (by omega), if_neg (by omega), if_pos rfl]
        exact h1
      · split at h1
        · rename_i q2 q3
          rw [if_neg (by omega), if_neg (by omega), if_neg (by omega), if_pos q3]
          exact h1
        · split at h1
          · rename_i t n9 hd
            obtain ⟨g1, g2, g3⟩ := R2_lt hM hd
            rw [if_pos g3, g1]
            exact h1
          · cases h1
  refine L_go hc ?_ (hk _ h3)
  show (match jlen M i with | some n => if n < 2147483648 then jN (pc + 1) ls (jI n :: st) M else none | none => none) = _
  rw [e]
  show (if _ then _ else _) = _
  rw [if_pos h2]
  rfl
theorem E_rd {i t n pc1 : Nat} {k : Int} (hM : R2 s M) (hd : dh s i = some (t, n)) (h0 : 0 ≤ k) (h1 : k.toNat < n) : jread t i k pc1 ls st M = some (.inl (pc1, ls, dV s i k.toNat :: st, M)) := by
  obtain ⟨g1, g2, g3⟩ := R2_lt hM hd
  unfold jread
  rw [g1]
  show (if _ then _ else _) = _
  rw [if_pos ⟨g3, rfl, h0, h1⟩, R2_get hM g2]
  rfl
theorem E_wr {i t n pc1 : Nat} {k : Int} {v : JV} (hM : R2 s M) (hd : dh s i = some (t, n)) (h0 : 0 ≤ k) (h1 : k.toNat < n) : jwrite t i k v pc1 ls st M = some (.inl (pc1, ls, st, jset M i k.toNat v)) := by
  obtain ⟨g1, g2, g3⟩ := R2_lt hM hd
  unfold jwrite
  rw [g1]
  show (if _ then _ else _) = _
  rw [if_pos ⟨g3, rfl, h0, h1⟩]
  rfl
theorem R2_tag (hM : R2 s M) {i t n : Nat} (hd : dh s i = some (t, n)) : jtag M i = t := by
  obtain ⟨g1, g2, g3⟩ := R2_lt hM hd
  unfold jtag
  rw [if_pos g3, g1]
  rfl
theorem E_rI {i : Nat} {k : Int} {K : Int → Prop} (hc : jcode mi pc = some (.iaload, l, a, b, w)) (hM : R2 s M) (h : rI s i k K) (hk : ∀ z, K z → JX mi (pc + 1) ls (.inl z :: st) M P) : JX mi pc ls (.inl k :: .inr (.inl i) :: st) M P := by
  rcases h with ⟨h1, h2, h3, h4⟩ | ⟨n, z, h1, h2, h3, h4, h5⟩
  · refine L_go hc ?_ (hk _ h4)
    show (if i = 1000000 then (if 0 ≤ k ∧ k < (jL M : Int) then jN (pc + 1) ls (jI (jxs M k.toNat) :: st) M else none) else _) = _
    rw [if_pos h1, (R2_scr hM).1, (R2_scr hM).2, if_pos ⟨h2, h3⟩]
    rfl
  · obtain ⟨g1, g2, g3⟩ := R2_lt hM h1
    refine L_go hc ?_ (hk _ h5)
    show (if i = 1000000 then _ else _) = _
    rw [if_neg (by omega), E_rd hM h1 h2 h3, h4]
theorem E_rB {i : Nat} {k : Int} {K : Int → Prop} (hc : jcode mi pc = some (.baload, l, a, b, w)) (hM : R2 s M) (h : rB s i k K) (hk : ∀ z, K z → JX mi (pc + 1) ls (.inl z :: st) M P) : JX mi pc ls (.inl k :: .inr (.inl i) :: st) M P := by
  rcases h with ⟨h1, h2, h3, h4⟩ | ⟨n, z, h1, h2, h3, h4, h5⟩
  · refine L_go hc ?_ (hk _ h4)
    show (if 3000000 ≤ i ∧ i < 3000014 then (if 0 ≤ k ∧ k.toNat < (jlit (i - 3000000)).length then jN (pc + 1) ls (jI ((jlit (i - 3000000)).getD k.toNat 0) :: st) M else none) else _) = _
    rw [if_pos h1, if_pos ⟨h2, h3⟩]
    rfl
  · obtain ⟨g1, g2, g3⟩ := R2_lt hM h1
    refine L_go hc ?_ (hk _ h5)
    show (if 3000000 ≤ i ∧ i < 3000014 then _ else _) = _
    rw [if_neg (by omega), R2_tag hM h1, if_pos rfl, E_rd hM h1 h2 h3, h4]
theorem E_rJ {i : Nat} {k : Int} {K : Int64 → Prop} (hc : jcode mi pc = some (.laload, l, a, b, w)) (hM : R2 s M) (h : rJ s i k K) (hk : ∀ z, K z → JX mi (pc + 1) ls (jX (.long z) :: st) M P) : JX mi pc ls (.inl k :: .inr (.inl i) :: st) M P := by
  obtain ⟨n, z, h1, h2, h3, h4, h5⟩ := h
  refine L_go hc ?_ (hk _ h5)
  show jread 103 i k (pc + 1) ls st M = _
  rw [E_rd hM h1 h2 h3, h4]
theorem E_rV {i : Nat} {k : Int} {K : JV → Prop} (hc : jcode mi pc = some (.aaload, l, a, b, w)) (hM : R2 s M) (h : rV s i k K) (hk : ∀ x, jnl x = true → K x → JX mi (pc + 1) ls (x :: st) M P) : JX mi pc ls (.inl k :: .inr (.inl i) :: st) M P := by
  obtain ⟨t, n, x, h1, h0, h2, h3, h4, h5, h6⟩ := h
  refine L_go hc ?_ (hk _ h5 h6)
  show (if 105 ≤ jtag M i then jread (jtag M i) i k (pc + 1) ls st M else none) = _
  rw [R2_tag hM h1, if_pos h0, E_rd hM h1 h2 h3, h4]
theorem E_wI {i : Nat} {k z : Int} {K : LS → Prop} (hc : jcode mi pc = some (.iastore, l, a, b, w)) (hM : R2 s M) (h : wA s i 100 k (.inl z) K) (hk : ∀ M' s', R2 s' M' → K s' → JX mi (pc + 1) ls st M' P) : JX mi pc ls (.inl z :: .inl k :: .inr (.inl i) :: st) M P := by
  obtain ⟨n, h1, h2, h3, h4⟩ := h
  obtain ⟨g1, g2, g3⟩ := R2_lt hM h1
  exact L_goM hc (E_wr hM h1 h2 h3) (hk _ _ (R2_up hM g2) h4)
theorem E_wB {i : Nat} {k z : Int} {K : LS → Prop} (hc : jcode mi pc = some (.bastore, l, a, b, w)) (hM : R2 s M) (h : wA s i 101 k (.inl (jb8 z)) K) (hk : ∀ M' s', R2 s' M' → K s' → JX mi (pc + 1) ls st M' P) : JX mi pc ls (.inl z :: .inl k :: .inr (.inl i) :: st) M P := by
  obtain ⟨n, h1, h2, h3, h4⟩ := h
  obtain ⟨g1, g2, g3⟩ := R2_lt hM h1
  refine L_goM hc ?_ (hk _ _ (R2_up hM g2) h4)
  show (if jtag M i = 101 then _ else _) = _
  rw [R2_tag hM h1, if_pos rfl]
  exact E_wr hM h1 h2 h3
theorem E_wJ {i : Nat} {k : Int} {z : Int64} {K : LS → Prop} (hc : jcode mi pc = some (.lastore, l, a, b, w)) (hM : R2 s M) (h : wA s i 103 k (jX (.long z)) K) (hk : ∀ M' s', R2 s' M' → K s' → JX mi (pc + 1) ls st M' P) : JX mi pc ls (jX (.long z) :: .inl k :: .inr (.inl i) :: st) M P := by
  obtain ⟨n, h1, h2, h3, h4⟩ := h
  obtain ⟨g1, g2, g3⟩ := R2_lt hM h1
  exact L_goM hc (E_wr hM h1 h2 h3) (hk _ _ (R2_up hM g2) h4)
theorem E_wV {i : Nat} {k : Int} {v : JV} {K : LS → Prop} (hc : jcode mi pc = some (.aastore, l, a, b, w)) (hM : R2 s M) (h : wV s i k v K) (hk : ∀ M' s', R2 s' M' → K s' → JX mi (pc + 1) ls st M' P) : JX mi pc ls (v :: .inl k :: .inr (.inl i) :: st) M P := by
  obtain ⟨t, n, h1, h2, h3, h4, h5⟩ := h
  obtain ⟨g1, g2, g3⟩ := R2_lt hM h1
  have ht := R2_tag hM h1
  refine L_goM hc ?_ (hk _ _ (R2_up hM g2) h5)
  unfold okv at h4
  split at h4
  · rename_i j
    obtain ⟨tj, nj, q1, q2⟩ := h4
    obtain ⟨f1, f2, f3⟩ := R2_lt hM q1
    have hj := R2_tag hM q1
    show (if (jtag M i = 105 + jtag M j ∧ jtag M j < 13) ∨ (jtag M i = 199 ∧ j < 1000000 ∧ (jtag M j = 11 ∨ jtag M j = 116)) then jwrite (jtag M i) i k (.inr (.inl j)) (pc + 1) ls st M else none) = _
    rw [ht, hj, if_pos (by omega)]
    exact E_wr hM h1 h2 h3
  · subst h4
    show (if jtag M i = 116 then jwrite 116 i k (jX .null) (pc + 1) ls st M else none) = _
    rw [ht, if_pos rfl]
    exact E_wr hM h1 h2 h3
  · exact h4.elim
theorem E_nC {n c : Nat} {K : Nat → LS → Prop} (hc : jcode mi pc = some (.new n, l, c, b, w)) (hM : R2 s M) (hc2 : c < 100) (h : nC s c K) (hk : ∀ (i : Nat) M' s', R2 s' M' → K i s' → JX mi (pc + 3) ls (.inr (.inl i) :: st) M' P) : JX mi pc ls st M P := by
  obtain ⟨h1, h2⟩ := h
  have hl := R2_len hM
  unfold dn dS at hl
  have h9 := hM.2.2
  refine L_goM hc ?_ (hk _ _ _ (R2_mk hM h1) h2)
  show (if c < 100 then (if jclean M = true ∧ M.1.length < 1000000 then jN (pc + 3) ls (jR M.1.length :: st) (jpush M c (jfields c).length (jdef c)) else none) else _) = _
  rw [if_pos hc2, if_pos ⟨R2_clean hM, by omega⟩, R2_len hM]
  rfl
theorem E_nA {n : ArrayType} {t : Nat} {z : Int} {K : Nat → LS → Prop} (hc : jcode mi pc = some (.newarray n, l, t, b, w)) (hM : R2 s M) (h : nA s t z (if t = 103 then jX (.long 0) else if t = 104 then jX (.double 0) else jI 0) K) (hk : ∀ (i : Nat) M' s', R2 s' M' → K i s' → JX mi (pc + 2) ls (.inr (.inl i) :: st) M' P) : JX mi pc ls (.inl z :: st) M P := by
  obtain ⟨h1, h2, h3, h4⟩ := h
  have hl := R2_len hM
  unfold dn dS at hl
  have h9 := hM.2.2
  refine L_goM hc ?_ (hk _ _ _ (R2_mk hM h1) h4)
  show (if jclean M = true ∧ M.1.length < 1000000 ∧ 0 ≤ z ∧ z < 60000000 then jN (pc + 2) ls (jR M.1.length :: st) (jpush M t z.toNat (fun _ => if t = 103 then jX (.long 0) else if t = 104 then jX (.double 0) else jI 0)) else none) = _
  rw [if_pos ⟨R2_clean hM, by omega, h2, h3⟩, R2_len hM]
  rfl
theorem E_nN {n t : Nat} {z : Int} {K : Nat → LS → Prop} (hc : jcode mi pc = some (.anewarray n, l, t, b, w)) (hM : R2 s M) (h : nA s t z (jX .null) K) (hk : ∀ (i : Nat) M' s', R2 s' M' → K i s' → JX mi (pc + 3) ls (.inr (.inl i) :: st) M' P) : JX mi pc ls (.inl z :: st) M P := by
  obtain ⟨h1, h2, h3, h4⟩ := h
  have hl := R2_len hM
  unfold dn dS at hl
  have h9 := hM.2.2
  refine L_goM hc ?_ (hk _ _ _ (R2_mk hM h1) h4)
  show (if jclean M = true ∧ M.1.length < 1000000 ∧ 0 ≤ z ∧ z < 60000000 then jN (pc + 3) ls (jR M.1.length :: st) (jpush M t z.toNat (fun _ => jX .null)) else none) = _
  rw [if_pos ⟨R2_clean hM, by omega, h2, h3⟩, R2_len hM]
  rfl
theorem E_cT {n t : Nat} {v : JV} {K : Prop} (hc : jcode mi pc = some (.checkcast n, l, t, b, w)) (hM : R2 s M) (h : cT s v t K) (hk : K → JX mi (pc + 3) ls (v :: st) M P) : JX mi pc ls (v :: st) M P := by
  obtain ⟨h1, h2⟩ := h
  split at h1
  · rename_i i
    obtain ⟨n9, h3⟩ := h1
    obtain ⟨f1, f2, f3⟩ := R2_lt hM h3
    refine L_go hc ?_ (hk h2)
    show (if jtag M i = t ∧ i < 1000000 then _ else _) = _
    rw [if_pos ⟨R2_tag hM h3, f3⟩]
    rfl
  · exact L_go hc rfl (hk h2)
  · exact h1.elim
theorem E_cE {off : Int} {v x : JV} {A B : Prop} (hc : jcode mi pc = some (.if_acmp .eq off, l, a, b, w)) (hv : jnl v = true) (hx : jnl x = true) (h : cE x v A B) (k1 : A → JX mi a ls st M P) (k2 : B → JX mi (pc + 3) ls st M P) : JX mi pc ls (v :: x :: st) M P := by
  obtain ⟨h1, h2⟩ := h
  have e : jstep (.if_acmp .eq off, l, a, b, w) pc ls (v :: x :: st) M = jbr (jeqr x v) a (pc + 3) ls st M := by
    show (if jnl v = true ∧ jnl x = true ∧ jap x v = true then jbr (jeqr x v) a (pc + 3) ls st M else none) = _
    rw [if_pos ⟨hv, hx, h1⟩]
  exact L_br hc e rfl h2 k1 k2
theorem E_cNE {off : Int} {v x : JV} {A B : Prop} (hc : jcode mi pc = some (.if_acmp .ne off, l, a, b, w)) (hv : jnl v = true) (hx : jnl x = true) (h : cE x v A B) (k1 : A → JX mi (pc + 3) ls st M P) (k2 : B → JX mi a ls st M P) : JX mi pc ls (v :: x :: st) M P := by
  obtain ⟨h1, h2⟩ := h
  have e : jstep (.if_acmp .ne off, l, a, b, w) pc ls (v :: x :: st) M = jbr (!jeqr x v) a (pc + 3) ls st M := by
    show (if jnl v = true ∧ jnl x = true ∧ jap x v = true then jbr (!jeqr x v) a (pc + 3) ls st M else none) = _
    rw [if_pos ⟨hv, hx, h1⟩]
  refine L_nb (C := jeqr x v = true) hc e ?_ h2 k1 k2
  cases jeqr x v <;> simp
theorem E_div {x y : Int} (hc : jcode mi pc = some (.idiv, l, a, b, w)) (hy : 0 < y ∧ y < 2147483648) (h : JX mi (pc + 1) ls (.inl (jdiv x y) :: st) M P) : JX mi pc ls (.inl y :: .inl x :: st) M P := L_go hc (if_pos hy) h
theorem E_rem {x y : Int} (hc : jcode mi pc = some (.irem, l, a, b, w)) (hy : 0 < y ∧ y < 2147483648) (h : JX mi (pc + 1) ls (.inl (jrem x y) :: st) M P) : JX mi pc ls (.inl y :: .inl x :: st) M P := L_go hc (if_pos hy) h
theorem bL_of (hM : R2 s M) {i n : Nat} (h : bL s i = some n) : jbytes M i = some n ∧ ∀ k, jsrc M i k = bV s i k := by
  unfold bL at h
  unfold jbytes jsrc bV
  by_cases q : 3000000 ≤ i ∧ i < 3000014
  · rw [if_pos q] at h ⊢
    exact ⟨h, fun k => by rw [if_pos q, if_pos q]⟩
  · rw [if_neg q] at h ⊢
    split at h
    · rename_i t n9 hd
      split at h
      · rename_i ht
        obtain ⟨f1, f2, f3⟩ := R2_lt hM hd
        refine ⟨?_, fun k => by rw [if_neg q, if_neg q]; exact R2_get hM f2⟩
        rw [f1]
        show (if _ then _ else _) = _
        rw [if_pos ⟨f3, ht⟩]
        exact h
      · cases h
    · cases h
theorem E_aC {n : Nat} {z dp sp : Int} {dst src : Nat} {K : LS → Prop} (hc : jcode mi pc = some (.invokestatic n, l, 8001, b, w)) (hM : R2 s M) (hr : st.length ≤ 3) (hr2 : (st.all fun v => !jc2 v) = true) (h : aC s z dp sp dst src K) (hk : ∀ M' s', R2 s' M' → K s' → JX mi (pc + 3) ls st M' P) : JX mi pc ls (.inl z :: .inl dp :: .inr (.inl dst) :: .inl sp :: .inr (.inl src) :: st) M P := by
  obtain ⟨x, y, h1, h2, h3, h4, h5, h6, h7, h8, h9, h10⟩ := h
  obtain ⟨f1, f2, f3⟩ := R2_lt hM h2
  obtain ⟨b1, b2⟩ := bL_of hM h1
  have hR : R2 (cpy s z.toNat dp.toNat dst sp.toNat src) (jcopied M src sp.toNat dst dp.toNat z.toNat) := by
    rw [jcopied_eq]
    have := R2_upA hM (i := dst) (f := fun j => if dp.toNat ≤ j ∧ j < dp.toNat + z.toNat then bV s src (sp.toNat + (j - dp.toNat)) else dV s dst j) f2
    have e : (fun (a : Nat) (j : Nat) => if a = dst then (if dp.toNat ≤ j ∧ j < dp.toNat + z.toNat then jsrc M src (sp.toNat + (j - dp.toNat)) else jget M dst j) else M.2.1 a j) = (fun a j => if a = dst then (fun j => if dp.toNat ≤ j ∧ j < dp.toNat + z.toNat then bV s src (sp.toNat + (j - dp.toNat)) else dV s dst j) j else M.2.1 a j) := by
      funext a j
      by_cases q : a = dst
      · rw [if_pos q, if_pos q]
        dsimp only
        rw [b2, R2_get hM f2]
      · rw [if_neg q, if_neg q]
    rw [e]
    exact this
  refine L_goM hc ?_ (hk _ _ hR h10)
  show jcopy pc ls _ M = _
  unfold jcopy
  dsimp only
  rw [b1, f1]
  dsimp only
  rw [if_pos ⟨f3, rfl, h3, h4, h5, h6, h7, h8, hr, hr2, List.all_eq_true.mpr fun k hk => by rw [b2]; exact h9 k (List.mem_range.mp hk)⟩]
  rfl
theorem E_aK {n i : Nat} {K : Nat → LS → Prop} (hc : jcode mi pc = some (.invokevirtual n, l, 8002, b, w)) (hM : R2 s M) (hr : st.length ≤ 3) (hr2 : (st.all fun v => !jc2 v) = true) (h : aK s i K) (hk : ∀ (i : Nat) M' s', R2 s' M' → K i s' → JX mi (pc + 3) ls (.inr (.inl i) :: st) M' P) : JX mi pc ls (.inr (.inl i) :: st) M P := by
  obtain ⟨n9, h1, h2, h3, h4, h5⟩ := h
  obtain ⟨f1, f2, f3⟩ := R2_lt hM h1
  have hl := R2_len hM
  unfold dn dS at hl
  have h9 := hM.2.2
  have hR : R2 (mk s 101 n9 (fun k => dV s i k)) (jpush M 101 n9 (fun k => jget M i k)) := by
    have e : (fun k => jget M i k) = fun k => dV s i k := funext fun k => R2_get hM f2
    rw [e]
    exact R2_mk hM h3
  refine L_goM hc ?_ (hk _ _ _ hR h5)
  show jclone pc ls _ M = _
  unfold jclone
  dsimp only
  rw [f1]
  dsimp only
  rw [if_pos ⟨f3, rfl, h2, R2_clean hM, by omega, hr, hr2, List.all_eq_true.mpr fun k hk => by rw [R2_get hM f2]; exact h4 k (List.mem_range.mp hk)⟩, R2_len hM]
  rfl
theorem E_aF {n i : Nat} {v : Int64} {K : LS → Prop} (hc : jcode mi pc = some (.invokestatic n, l, 8003, b, w)) (hM : R2 s M) (h : aF s i v K) (hk : ∀ M' s', R2 s' M' → K s' → JX mi (pc + 3) ls [] M' P) : JX mi pc ls [jX (.long v), .inr (.inl i)] M P := by
  obtain ⟨n9, h1, h2, h3⟩ := h
  obtain ⟨f1, f2, f3⟩ := R2_lt hM h1
  refine L_goM hc ?_ (hk _ _ (R2_upA hM f2) h3)
  show jfill pc ls _ M = _
  unfold jfill
  dsimp only
  rw [f1]
  dsimp only
  rw [if_pos ⟨f3, rfl, h2, rfl⟩]
  rfl
theorem E_aS {n i j : Nat} {K : Prop} (hc : jcode mi pc = some (.invokestatic n, l, 8004, b, w)) (hM : R2 s M) (h : aS s i j K) (hk : K → JX mi (pc + 3) ls [.inl 1] M P) : JX mi pc ls [.inr (.inl j), .inr (.inl i)] M P := by
  obtain ⟨h1, h2, h3, h4, h5⟩ := h
  obtain ⟨f1, f2, f3⟩ := R2_lt hM h1
  obtain ⟨g1, g2, g3⟩ := R2_lt hM h2
  refine L_go hc ?_ (hk h5)
  show jsame pc ls _ M = _
  unfold jsame
  dsimp only
  rw [if_pos ⟨f1, g1, h3, g3, rfl, List.all_eq_true.mpr fun k hk => by rw [R2_get hM f2, R2_get hM g2]; exact h4 k (List.mem_range.mp hk)⟩]
  rfl
/-- returns -/
theorem E_retV {v : JV} (hc : jcode mi pc = some (.areturn, l, a, b, w)) (hv : jnl v = true) (h : P (.inl (some v)) M) : JX mi pc ls [v] M P := by
  refine L_end hc ?_ h
  rcases jnl_c hv with ⟨j, rfl⟩ | rfl <;> rfl
theorem E_retZ {z : Int} (hc : jcode mi pc = some (.ireturn, l, 1, b, w)) (hz : bz z) (h : P (.inl (some (.inl z))) M) : JX mi pc ls [.inl z] M P := L_retB hc hz h
theorem E_retB {z : Int} (hc : jcode mi pc = some (.ireturn, l, 2, b, w)) (hz : -128 ≤ z ∧ z ≤ 127) (h : P (.inl (some (.inl z))) M) : JX mi pc ls [.inl z] M P := by
  refine L_end hc ?_ h
  show (if jret 2 z = true then _ else _) = _
  rw [if_pos (decide_eq_true hz)]
  rfl
theorem E_retC {z : Int} (hc : jcode mi pc = some (.ireturn, l, 3, b, w)) (hz : 0 ≤ z ∧ z ≤ 65535) (h : P (.inl (some (.inl z))) M) : JX mi pc ls [.inl z] M P := by
  refine L_end hc ?_ h
  show (if jret 3 z = true then _ else _) = _
  rw [if_pos (decide_eq_true hz)]
  rfl
/-- calls of the law's own and the library's methods -/
theorem E_cI {x : JI} {y : Nat} {as st1 : List JV} {Q : Int → LS → Prop} {pc1 : Nat} (hc : jcode mi pc = some x) (hs : jstep x pc ls st M = some (.inr (.inl (y, as, st1)))) (hp : pc + jrl x = pc1) (hy : JX y 0 (jargs y as) [] M (P2 (QI2 Q))) (hk : ∀ z M' s', R2 s' M' → Q z s' → JX mi pc1 ls (.inl z :: st1) M' P) : JX mi pc ls st M P := by
  subst hp
  refine JX_call hc hs hy (fun v M1 ho => ?_) fun k M1 ho => ho.elim
  obtain ⟨s', h1, z, rfl, h2⟩ := ho
  exact hk z M1 s' h1 h2
theorem E_cV {x : JI} {y : Nat} {as st1 : List JV} {Q : JV → LS → Prop} {pc1 : Nat} (hc : jcode mi pc = some x) (hs : jstep x pc ls st M = some (.inr (.inl (y, as, st1)))) (hp : pc + jrl x = pc1) (hy : JX y 0 (jargs y as) [] M (P2 (QV2 Q))) (hk : ∀ z M' s', R2 s' M' → jnl z = true → Q z s' → JX mi pc1 ls (z :: st1) M' P) : JX mi pc ls st M P := by
  subst hp
  refine JX_call hc hs hy (fun v M1 ho => ?_) fun k M1 ho => ho.elim
  obtain ⟨s', h1, z, rfl, h3, h2⟩ := ho
  exact hk z M1 s' h1 h3 h2
theorem E_cN {x : JI} {y : Nat} {as st1 : List JV} {Q : LS → Prop} {pc1 : Nat} (hc : jcode mi pc = some x) (hs : jstep x pc ls st M = some (.inr (.inl (y, as, st1)))) (hp : pc + jrl x = pc1) (hy : JX y 0 (jargs y as) [] M (P2 (QN2 Q))) (hk : ∀ M' s', R2 s' M' → Q s' → JX mi pc1 ls st1 M' P) : JX mi pc ls st M P := by
  subst hp
  refine JX_call hc hs hy (fun v M1 ho => ?_) fun k M1 ho => ho.elim
  obtain ⟨s', h1, rfl, h2⟩ := ho
  exact hk M1 s' h1 h2
/-- calls of the class: nothing is thrown -/
theorem E_oI {x : JI} {y : Nat} {as st1 : List JV} {K : Int → LS → Prop} {X : Nat → Mem → Prop} (hc : jcode mi pc = some x) (hs : jstep x pc ls st M = some (.inr (.inl (y, as, st1)))) (hp : jrl x = 3) (hM : R2 s M) (hy : JX y 0 (jargs y as) [] M (PO s.1 (QI (fun z μ => μ 772 0 = 0 ∧ K z (s.1, μ))) X)) (hX : ∀ k μ, X k μ → False) (hk : ∀ z M' s', R2 s' M' → K z s' → JX mi (pc + 3) ls (.inl z :: st1) M' P) : JX mi pc ls st M P := by
  refine JX_call hc hs hy (fun v M1 ho => ?_) fun k M1 ho => ?_
  · obtain ⟨μ', h1, z, rfl, h2, h3⟩ := ho
    rw [hp]
    exact hk z M1 (s.1, μ') ⟨h1, h2, hM.2.2⟩ h3
  · obtain ⟨μ', h1, h2⟩ := ho
    exact (hX _ _ h2).elim
theorem E_oB {x : JI} {y : Nat} {as st1 : List JV} {K : Bool → LS → Prop} {X : Nat → Mem → Prop} (hc : jcode mi pc = some x) (hs : jstep x pc ls st M = some (.inr (.inl (y, as, st1)))) (hp : jrl x = 3) (hM : R2 s M) (hy : JX y 0 (jargs y as) [] M (PO s.1 (QB (fun z μ => μ 772 0 = 0 ∧ K z (s.1, μ))) X)) (hX : ∀ k μ, X k μ → False) (hk : ∀ z M' s', R2 s' M' → K z s' → JX mi (pc + 3) ls (.inl (b2i z) :: st1) M' P) : JX mi pc ls st M P := by
  refine JX_call hc hs hy (fun v M1 ho => ?_) fun k M1 ho => ?_
  · obtain ⟨μ', h1, z, rfl, h2, h3⟩ := ho
    rw [hp]
    exact hk z M1 (s.1, μ') ⟨h1, h2, hM.2.2⟩ h3
  · obtain ⟨μ', h1, h2⟩ := ho
    exact (hX _ _ h2).elim
theorem E_opI {x : JI} {y : Nat} {as st1 : List JV} {K : Int → Prop} {X : Nat → Mem → Prop} (hc : jcode mi pc = some x) (hs : jstep x pc ls st M = some (.inr (.inl (y, as, st1)))) (hp : jrl x = 3) (hM : R2 s M) (hy : JX y 0 (jargs y as) [] M (PO s.1 (pQI s.2 K) X)) (hX : ∀ k μ, X k μ → False) (hk : ∀ z M', R2 s M' → K z → JX mi (pc + 3) ls (.inl z :: st1) M' P) : JX mi pc ls st M P := by
  refine JX_call hc hs hy (fun v M1 ho => ?_) fun k M1 ho => ?_
  · obtain ⟨μ', h1, h4, z, rfl, h3⟩ := ho
    rw [hp]
    subst h4
    exact hk z M1 ⟨h1, hM.2⟩ h3
  · obtain ⟨μ', h1, h2⟩ := ho
    exact (hX _ _ h2).elim
theorem E_opB {x : JI} {y : Nat} {as st1 : List JV} {K : Bool → Prop} {X : Nat → Mem → Prop} (hc : jcode mi pc = some x) (hs : jstep x pc ls st M = some (.inr (.inl (y, as, st1)))) (hp : jrl x = 3) (hM : R2 s M) (hy : JX y 0 (jargs y as) [] M (PO s.1 (pQB s.2 K) X)) (hX : ∀ k μ, X k μ → False) (hk : ∀ z M', R2 s M' → K z → JX mi (pc + 3) ls (.inl (b2i z) :: st1) M' P) : JX mi pc ls st M P := by
  refine JX_call hc hs hy (fun v M1 ho => ?_) fun k M1 ho => ?_
  · obtain ⟨μ', h1, h4, z, rfl, h3⟩ := ho
    rw [hp]
    subst h4
    exact hk z M1 ⟨h1, hM.2⟩ h3
  · obtain ⟨μ', h1, h2⟩ := ho
    exact (hX _ _ h2).elim
theorem E_oR {x : JI} {y t : Nat} {as st1 : List JV} {K : Nat → LS → Prop} {X : Nat → Mem → Prop} (hc : jcode mi pc = some x) (hs : jstep x pc ls st M = some (.inr (.inl (y, as, st1)))) (hp : jrl x = 3) (hM : R2 s M) (hy : JX y 0 (jargs y as) [] M (PO s.1 (QR t (fun z μ => μ 772 0 = 0 ∧ K z (s.1, μ))) X)) (hX : ∀ k μ, X k μ → False) (hk : ∀ z M' s', R2 s' M' → K z s' → JX mi (pc + 3) ls (.inr (.inl z) :: st1) M' P) : JX mi pc ls st M P := by
  refine JX_call hc hs hy (fun v M1 ho => ?_) fun k M1 ho => ?_
  · obtain ⟨μ', h1, z, rfl, -, h2, h3⟩ := ho
    rw [hp]
    exact hk z M1 (s.1, μ') ⟨h1, h2, hM.2.2⟩ h3
  · obtain ⟨μ', h1, h2⟩ := ho
    exact (hX _ _ h2).elim
theorem R2_ob (hM : R2 s M) : jtag M 0 = 10 := by
  have := Rl_tag hM.1 (i := 0) (t := 10) (by decide +kernel) (by decide)
  rw [this]
  decide
end L27
end
