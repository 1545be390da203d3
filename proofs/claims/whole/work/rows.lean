section
-- ===== PART A: goes FIRST, ahead of the names: the tables' words, and 'selects' of the private methods out of them =====
/-- a private method of a class that the tables say can be made, by its rows of tables_1 -/
def lw_okq (q : MethodName × Nat) : Prop := (q.1.cls ≠ "java/lang/invoke/MethodHandle" ∧ q.1.cls ≠ "java/lang/invoke/VarHandle") ∧ Cond.instantiable q.1.cls q.2 ∈ tables_1 ∧ Cond.privateMethod q.1 ∈ tables_1 ∧ Cond.instanceMethod q.1 ∈ tables_1
theorem lw_p0 : lw_okq (⟨"BatchShare", "addBytes", "(I)V"⟩, 12) := ⟨⟨by decide +kernel, by decide +kernel⟩, List.mem_of_getElem? (i := 23) (by decide +kernel), List.mem_of_getElem? (i := 374) (by decide +kernel), List.mem_of_getElem? (i := 375) (by decide +kernel)⟩
theorem lw_p1 : lw_okq (⟨"BatchShare$Reader", "open", "(I)V"⟩, 5) := ⟨⟨by decide +kernel, by decide +kernel⟩, List.mem_of_getElem? (i := 31) (by decide +kernel), List.mem_of_getElem? (i := 390) (by decide +kernel), List.mem_of_getElem? (i := 391) (by decide +kernel)⟩
theorem lw_p2 : lw_okq (⟨"BatchShare$Reader", "readClause", "(ILBatchShare$State;)V"⟩, 5) := ⟨⟨by decide +kernel, by decide +kernel⟩, List.mem_of_getElem? (i := 31) (by decide +kernel), List.mem_of_getElem? (i := 405) (by decide +kernel), List.mem_of_getElem? (i := 406) (by decide +kernel)⟩
theorem lw_p3 : lw_okq (⟨"BatchShare$Reader", "place", "()I"⟩, 5) := ⟨⟨by decide +kernel, by decide +kernel⟩, List.mem_of_getElem? (i := 31) (by decide +kernel), List.mem_of_getElem? (i := 409) (by decide +kernel), List.mem_of_getElem? (i := 410) (by decide +kernel)⟩
theorem lw_p4 : lw_okq (⟨"BatchShare$Reader", "takeWord", "(Ljava/lang/String;)Z"⟩, 5) := ⟨⟨by decide +kernel, by decide +kernel⟩, List.mem_of_getElem? (i := 31) (by decide +kernel), List.mem_of_getElem? (i := 414) (by decide +kernel), List.mem_of_getElem? (i := 415) (by decide +kernel)⟩
theorem lw_p5 : lw_okq (⟨"BatchShare$Reader", "wordLength", "()I"⟩, 5) := ⟨⟨by decide +kernel, by decide +kernel⟩, List.mem_of_getElem? (i := 31) (by decide +kernel), List.mem_of_getElem? (i := 418) (by decide +kernel), List.mem_of_getElem? (i := 419) (by decide +kernel)⟩
theorem lw_p6 : lw_okq (⟨"BatchShare$Reader", "fail", "(II)V"⟩, 5) := ⟨⟨by decide +kernel, by decide +kernel⟩, List.mem_of_getElem? (i := 31) (by decide +kernel), List.mem_of_getElem? (i := 470) (by decide +kernel), List.mem_of_getElem? (i := 471) (by decide +kernel)⟩
theorem lw_p7 : lw_okq (⟨"BatchShare$Reader", "takeNumber", "(I)I"⟩, 5) := ⟨⟨by decide +kernel, by decide +kernel⟩, List.mem_of_getElem? (i := 31) (by decide +kernel), List.mem_of_getElem? (i := 474) (by decide +kernel), List.mem_of_getElem? (i := 475) (by decide +kernel)⟩
theorem lw_p8 : lw_okq (⟨"BatchShare$Reader", "readRow", "(LBatchShare$Table;IZ)V"⟩, 5) := ⟨⟨by decide +kernel, by decide +kernel⟩, List.mem_of_getElem? (i := 31) (by decide +kernel), List.mem_of_getElem? (i := 479) (by decide +kernel), List.mem_of_getElem? (i := 480) (by decide +kernel)⟩
theorem lw_p9 : lw_okq (⟨"BatchShare$Reader", "takeByte", "(C)Z"⟩, 5) := ⟨⟨by decide +kernel, by decide +kernel⟩, List.mem_of_getElem? (i := 31) (by decide +kernel), List.mem_of_getElem? (i := 505) (by decide +kernel), List.mem_of_getElem? (i := 506) (by decide +kernel)⟩
theorem lw_p10 : lw_okq (⟨"BatchShare$Reader", "close", "()V"⟩, 5) := ⟨⟨by decide +kernel, by decide +kernel⟩, List.mem_of_getElem? (i := 31) (by decide +kernel), List.mem_of_getElem? (i := 509) (by decide +kernel), List.mem_of_getElem? (i := 510) (by decide +kernel)⟩
theorem lw_p11 : lw_okq (⟨"BatchShare$Reader", "readSource", "(LBatchShare$Query;)V"⟩, 5) := ⟨⟨by decide +kernel, by decide +kernel⟩, List.mem_of_getElem? (i := 31) (by decide +kernel), List.mem_of_getElem? (i := 552) (by decide +kernel), List.mem_of_getElem? (i := 553) (by decide +kernel)⟩
theorem lw_p12 : lw_okq (⟨"BatchShare$Reader", "takeCol", "(II)I"⟩, 5) := ⟨⟨by decide +kernel, by decide +kernel⟩, List.mem_of_getElem? (i := 31) (by decide +kernel), List.mem_of_getElem? (i := 585) (by decide +kernel), List.mem_of_getElem? (i := 586) (by decide +kernel)⟩
theorem lw_p13 : lw_okq (⟨"BatchShare$Reader", "readTests", "(LBatchShare$Query;)V"⟩, 5) := ⟨⟨by decide +kernel, by decide +kernel⟩, List.mem_of_getElem? (i := 31) (by decide +kernel), List.mem_of_getElem? (i := 590) (by decide +kernel), List.mem_of_getElem? (i := 591) (by decide +kernel)⟩
theorem lw_p14 : lw_okq (⟨"BatchShare$Reader", "readTest", "(LBatchShare$Query;)V"⟩, 5) := ⟨⟨by decide +kernel, by decide +kernel⟩, List.mem_of_getElem? (i := 31) (by decide +kernel), List.mem_of_getElem? (i := 594) (by decide +kernel), List.mem_of_getElem? (i := 595) (by decide +kernel)⟩
theorem lw_p15 : lw_okq (⟨"BatchShare$Reader", "takeSigns", "()I"⟩, 5) := ⟨⟨by decide +kernel, by decide +kernel⟩, List.mem_of_getElem? (i := 31) (by decide +kernel), List.mem_of_getElem? (i := 600) (by decide +kernel), List.mem_of_getElem? (i := 601) (by decide +kernel)⟩
def lw_privs_1 : List (MethodName × Nat) := [(⟨"BatchShare", "addBytes", "(I)V"⟩, 12), (⟨"BatchShare$Reader", "open", "(I)V"⟩, 5), (⟨"BatchShare$Reader", "readClause", "(ILBatchShare$State;)V"⟩, 5), (⟨"BatchShare$Reader", "place", "()I"⟩, 5), (⟨"BatchShare$Reader", "takeWord", "(Ljava/lang/String;)Z"⟩, 5), (⟨"BatchShare$Reader", "wordLength", "()I"⟩, 5), (⟨"BatchShare$Reader", "fail", "(II)V"⟩, 5), (⟨"BatchShare$Reader", "takeNumber", "(I)I"⟩, 5), (⟨"BatchShare$Reader", "readRow", "(LBatchShare$Table;IZ)V"⟩, 5), (⟨"BatchShare$Reader", "takeByte", "(C)Z"⟩, 5), (⟨"BatchShare$Reader", "close", "()V"⟩, 5), (⟨"BatchShare$Reader", "readSource", "(LBatchShare$Query;)V"⟩, 5), (⟨"BatchShare$Reader", "takeCol", "(II)I"⟩, 5), (⟨"BatchShare$Reader", "readTests", "(LBatchShare$Query;)V"⟩, 5), (⟨"BatchShare$Reader", "readTest", "(LBatchShare$Query;)V"⟩, 5), (⟨"BatchShare$Reader", "takeSigns", "()I"⟩, 5)]
theorem lw_r1 : ∀ q ∈ lw_privs_1, lw_okq q := List.forall_mem_cons.mpr ⟨lw_p0, List.forall_mem_cons.mpr ⟨lw_p1, List.forall_mem_cons.mpr ⟨lw_p2, List.forall_mem_cons.mpr ⟨lw_p3, List.forall_mem_cons.mpr ⟨lw_p4, List.forall_mem_cons.mpr ⟨lw_p5, List.forall_mem_cons.mpr ⟨lw_p6, List.forall_mem_cons.mpr ⟨lw_p7, List.forall_mem_cons.mpr ⟨lw_p8, List.forall_mem_cons.mpr ⟨lw_p9, List.forall_mem_cons.mpr ⟨lw_p10, List.forall_mem_cons.mpr ⟨lw_p11, List.forall_mem_cons.mpr ⟨lw_p12, List.forall_mem_cons.mpr ⟨lw_p13, List.forall_mem_cons.mpr ⟨lw_p14, List.forall_mem_cons.mpr ⟨lw_p15, fun _ h => absurd h List.not_mem_nil⟩⟩⟩⟩⟩⟩⟩⟩⟩⟩⟩⟩⟩⟩⟩⟩
theorem lw_p16 : lw_okq (⟨"BatchShare$Reader", "readShown", "(LBatchShare$Query;)V"⟩, 5) := ⟨⟨by decide +kernel, by decide +kernel⟩, List.mem_of_getElem? (i := 31) (by decide +kernel), List.mem_of_getElem? (i := 614) (by decide +kernel), List.mem_of_getElem? (i := 615) (by decide +kernel)⟩
theorem lw_p17 : lw_okq (⟨"BatchShare$Query", "shapePart", "(LBatchShare$Part;I)V"⟩, 3) := ⟨⟨by decide +kernel, by decide +kernel⟩, List.mem_of_getElem? (i := 310) (by decide +kernel), List.mem_of_getElem? (i := 625) (by decide +kernel), List.mem_of_getElem? (i := 626) (by decide +kernel)⟩
theorem lw_p18 : lw_okq (⟨"BatchShare", "hasCell", "(III)Z"⟩, 12) := ⟨⟨by decide +kernel, by decide +kernel⟩, List.mem_of_getElem? (i := 23) (by decide +kernel), List.mem_of_getElem? (i := 637) (by decide +kernel), List.mem_of_getElem? (i := 638) (by decide +kernel)⟩
theorem lw_p19 : lw_okq (⟨"BatchShare", "hasRow", "(II)Z"⟩, 12) := ⟨⟨by decide +kernel, by decide +kernel⟩, List.mem_of_getElem? (i := 23) (by decide +kernel), List.mem_of_getElem? (i := 641) (by decide +kernel), List.mem_of_getElem? (i := 642) (by decide +kernel)⟩
theorem lw_p20 : lw_okq (⟨"BatchShare", "hasQuery", "(I)Z"⟩, 12) := ⟨⟨by decide +kernel, by decide +kernel⟩, List.mem_of_getElem? (i := 23) (by decide +kernel), List.mem_of_getElem? (i := 658) (by decide +kernel), List.mem_of_getElem? (i := 659) (by decide +kernel)⟩
theorem lw_p21 : lw_okq (⟨"BatchShare$Choices", "addUnlike", "(LBatchShare$Part;)V"⟩, 5) := ⟨⟨by decide +kernel, by decide +kernel⟩, List.mem_of_getElem? (i := 245) (by decide +kernel), List.mem_of_getElem? (i := 757) (by decide +kernel), List.mem_of_getElem? (i := 758) (by decide +kernel)⟩
theorem lw_p22 : lw_okq (⟨"BatchShare$Choices", "addWideOnes", "(I)V"⟩, 5) := ⟨⟨by decide +kernel, by decide +kernel⟩, List.mem_of_getElem? (i := 245) (by decide +kernel), List.mem_of_getElem? (i := 766) (by decide +kernel), List.mem_of_getElem? (i := 767) (by decide +kernel)⟩
theorem lw_p23 : lw_okq (⟨"BatchShare", "lookAtChoices", "()V"⟩, 12) := ⟨⟨by decide +kernel, by decide +kernel⟩, List.mem_of_getElem? (i := 23) (by decide +kernel), List.mem_of_getElem? (i := 806) (by decide +kernel), List.mem_of_getElem? (i := 807) (by decide +kernel)⟩
theorem lw_p24 : lw_okq (⟨"BatchShare$Chooser", "batchBesides", "(I)I"⟩, 7) := ⟨⟨by decide +kernel, by decide +kernel⟩, List.mem_of_getElem? (i := 276) (by decide +kernel), List.mem_of_getElem? (i := 826) (by decide +kernel), List.mem_of_getElem? (i := 827) (by decide +kernel)⟩
theorem lw_p25 : lw_okq (⟨"BatchShare$Chooser", "addToTrial", "(I)V"⟩, 7) := ⟨⟨by decide +kernel, by decide +kernel⟩, List.mem_of_getElem? (i := 276) (by decide +kernel), List.mem_of_getElem? (i := 830) (by decide +kernel), List.mem_of_getElem? (i := 831) (by decide +kernel)⟩
theorem lw_p26 : lw_okq (⟨"BatchShare$Chooser", "takeNothing", "()V"⟩, 7) := ⟨⟨by decide +kernel, by decide +kernel⟩, List.mem_of_getElem? (i := 276) (by decide +kernel), List.mem_of_getElem? (i := 851) (by decide +kernel), List.mem_of_getElem? (i := 852) (by decide +kernel)⟩
theorem lw_p27 : lw_okq (⟨"BatchShare$Chooser", "greediest", "(II)I"⟩, 7) := ⟨⟨by decide +kernel, by decide +kernel⟩, List.mem_of_getElem? (i := 276) (by decide +kernel), List.mem_of_getElem? (i := 857) (by decide +kernel), List.mem_of_getElem? (i := 858) (by decide +kernel)⟩
theorem lw_p28 : lw_okq (⟨"BatchShare$Chooser", "takeBestPair", "(III)V"⟩, 7) := ⟨⟨by decide +kernel, by decide +kernel⟩, List.mem_of_getElem? (i := 276) (by decide +kernel), List.mem_of_getElem? (i := 869) (by decide +kernel), List.mem_of_getElem? (i := 870) (by decide +kernel)⟩
theorem lw_p29 : lw_okq (⟨"BatchShare$World", "add", "(LBatchShare$State;)V"⟩, 5) := ⟨⟨by decide +kernel, by decide +kernel⟩, List.mem_of_getElem? (i := 56) (by decide +kernel), List.mem_of_getElem? (i := 885) (by decide +kernel), List.mem_of_getElem? (i := 886) (by decide +kernel)⟩
theorem lw_p30 : lw_okq (⟨"BatchShare$State", "lacksRoom", "(I)Z"⟩, 7) := ⟨⟨by decide +kernel, by decide +kernel⟩, List.mem_of_getElem? (i := 62) (by decide +kernel), List.mem_of_getElem? (i := 940) (by decide +kernel), List.mem_of_getElem? (i := 941) (by decide +kernel)⟩
theorem lw_p31 : lw_okq (⟨"BatchShare", "hasKept", "(I)Z"⟩, 12) := ⟨⟨by decide +kernel, by decide +kernel⟩, List.mem_of_getElem? (i := 23) (by decide +kernel), List.mem_of_getElem? (i := 958) (by decide +kernel), List.mem_of_getElem? (i := 959) (by decide +kernel)⟩
def lw_privs_2 : List (MethodName × Nat) := [(⟨"BatchShare$Reader", "readShown", "(LBatchShare$Query;)V"⟩, 5), (⟨"BatchShare$Query", "shapePart", "(LBatchShare$Part;I)V"⟩, 3), (⟨"BatchShare", "hasCell", "(III)Z"⟩, 12), (⟨"BatchShare", "hasRow", "(II)Z"⟩, 12), (⟨"BatchShare", "hasQuery", "(I)Z"⟩, 12), (⟨"BatchShare$Choices", "addUnlike", "(LBatchShare$Part;)V"⟩, 5), (⟨"BatchShare$Choices", "addWideOnes", "(I)V"⟩, 5), (⟨"BatchShare", "lookAtChoices", "()V"⟩, 12), (⟨"BatchShare$Chooser", "batchBesides", "(I)I"⟩, 7), (⟨"BatchShare$Chooser", "addToTrial", "(I)V"⟩, 7), (⟨"BatchShare$Chooser", "takeNothing", "()V"⟩, 7), (⟨"BatchShare$Chooser", "greediest", "(II)I"⟩, 7), (⟨"BatchShare$Chooser", "takeBestPair", "(III)V"⟩, 7), (⟨"BatchShare$World", "add", "(LBatchShare$State;)V"⟩, 5), (⟨"BatchShare$State", "lacksRoom", "(I)Z"⟩, 7), (⟨"BatchShare", "hasKept", "(I)Z"⟩, 12)]
theorem lw_r2 : ∀ q ∈ lw_privs_2, lw_okq q := List.forall_mem_cons.mpr ⟨lw_p16, List.forall_mem_cons.mpr ⟨lw_p17, List.forall_mem_cons.mpr ⟨lw_p18, List.forall_mem_cons.mpr ⟨lw_p19, List.forall_mem_cons.mpr ⟨lw_p20, List.forall_mem_cons.mpr ⟨lw_p21, List.forall_mem_cons.mpr ⟨lw_p22, List.forall_mem_cons.mpr ⟨lw_p23, List.forall_mem_cons.mpr ⟨lw_p24, List.forall_mem_cons.mpr ⟨lw_p25, List.forall_mem_cons.mpr ⟨lw_p26, List.forall_mem_cons.mpr ⟨lw_p27, List.forall_mem_cons.mpr ⟨lw_p28, List.forall_mem_cons.mpr ⟨lw_p29, List.forall_mem_cons.mpr ⟨lw_p30, List.forall_mem_cons.mpr ⟨lw_p31, fun _ h => absurd h List.not_mem_nil⟩⟩⟩⟩⟩⟩⟩⟩⟩⟩⟩⟩⟩⟩⟩⟩
theorem lw_p32 : lw_okq (⟨"BatchShare$Pricer", "useServing", "(LBatchShare$Shelf;I)V"⟩, 6) := ⟨⟨by decide +kernel, by decide +kernel⟩, List.mem_of_getElem? (i := 219) (by decide +kernel), List.mem_of_getElem? (i := 981) (by decide +kernel), List.mem_of_getElem? (i := 982) (by decide +kernel)⟩
theorem lw_p33 : lw_okq (⟨"BatchShare", "marksOf", "(II)I"⟩, 12) := ⟨⟨by decide +kernel, by decide +kernel⟩, List.mem_of_getElem? (i := 23) (by decide +kernel), List.mem_of_getElem? (i := 1014) (by decide +kernel), List.mem_of_getElem? (i := 1015) (by decide +kernel)⟩
theorem lw_p34 : lw_okq (⟨"BatchShare", "isLive", "(I)Z"⟩, 12) := ⟨⟨by decide +kernel, by decide +kernel⟩, List.mem_of_getElem? (i := 23) (by decide +kernel), List.mem_of_getElem? (i := 1018) (by decide +kernel), List.mem_of_getElem? (i := 1019) (by decide +kernel)⟩
theorem lw_p35 : lw_okq (⟨"BatchShare", "queriesWith", "(I)I"⟩, 12) := ⟨⟨by decide +kernel, by decide +kernel⟩, List.mem_of_getElem? (i := 23) (by decide +kernel), List.mem_of_getElem? (i := 1028) (by decide +kernel), List.mem_of_getElem? (i := 1029) (by decide +kernel)⟩
theorem lw_p36 : lw_okq (⟨"BatchShare", "queriesJoining", "(II)I"⟩, 12) := ⟨⟨by decide +kernel, by decide +kernel⟩, List.mem_of_getElem? (i := 23) (by decide +kernel), List.mem_of_getElem? (i := 1032) (by decide +kernel), List.mem_of_getElem? (i := 1033) (by decide +kernel)⟩
theorem lw_p37 : lw_okq (⟨"BatchShare", "markedRows", "(II)I"⟩, 12) := ⟨⟨by decide +kernel, by decide +kernel⟩, List.mem_of_getElem? (i := 23) (by decide +kernel), List.mem_of_getElem? (i := 1040) (by decide +kernel), List.mem_of_getElem? (i := 1041) (by decide +kernel)⟩
theorem lw_p38 : lw_okq (⟨"BatchShare", "driftOnce", "(I)V"⟩, 12) := ⟨⟨by decide +kernel, by decide +kernel⟩, List.mem_of_getElem? (i := 23) (by decide +kernel), List.mem_of_getElem? (i := 1055) (by decide +kernel), List.mem_of_getElem? (i := 1056) (by decide +kernel)⟩
theorem lw_p39 : lw_okq (⟨"BatchShareModel", "put4", "(I)V"⟩, 50) := ⟨⟨by decide +kernel, by decide +kernel⟩, List.mem_of_getElem? (i := 1092) (by decide +kernel), List.mem_of_getElem? (i := 1253) (by decide +kernel), List.mem_of_getElem? (i := 1254) (by decide +kernel)⟩
theorem lw_p40 : lw_okq (⟨"BatchShareModel", "baseClause", "(I)V"⟩, 50) := ⟨⟨by decide +kernel, by decide +kernel⟩, List.mem_of_getElem? (i := 1092) (by decide +kernel), List.mem_of_getElem? (i := 1265) (by decide +kernel), List.mem_of_getElem? (i := 1266) (by decide +kernel)⟩
theorem lw_p41 : lw_okq (⟨"BatchShareModel", "sign", "()I"⟩, 50) := ⟨⟨by decide +kernel, by decide +kernel⟩, List.mem_of_getElem? (i := 1092) (by decide +kernel), List.mem_of_getElem? (i := 1269) (by decide +kernel), List.mem_of_getElem? (i := 1270) (by decide +kernel)⟩
theorem lw_p42 : lw_okq (⟨"BatchShareModel", "stood", "(Ljava/lang/String;)Z"⟩, 50) := ⟨⟨by decide +kernel, by decide +kernel⟩, List.mem_of_getElem? (i := 1092) (by decide +kernel), List.mem_of_getElem? (i := 1274) (by decide +kernel), List.mem_of_getElem? (i := 1275) (by decide +kernel)⟩
theorem lw_p43 : lw_okq (⟨"BatchShareModel", "fails", "(II)V"⟩, 50) := ⟨⟨by decide +kernel, by decide +kernel⟩, List.mem_of_getElem? (i := 1092) (by decide +kernel), List.mem_of_getElem? (i := 1287) (by decide +kernel), List.mem_of_getElem? (i := 1288) (by decide +kernel)⟩
theorem lw_p44 : lw_okq (⟨"BatchShareModel", "amount", "(II)I"⟩, 50) := ⟨⟨by decide +kernel, by decide +kernel⟩, List.mem_of_getElem? (i := 1092) (by decide +kernel), List.mem_of_getElem? (i := 1291) (by decide +kernel), List.mem_of_getElem? (i := 1292) (by decide +kernel)⟩
theorem lw_p45 : lw_okq (⟨"BatchShareModel", "isDigit", "()Z"⟩, 50) := ⟨⟨by decide +kernel, by decide +kernel⟩, List.mem_of_getElem? (i := 1092) (by decide +kernel), List.mem_of_getElem? (i := 1295) (by decide +kernel), List.mem_of_getElem? (i := 1296) (by decide +kernel)⟩
theorem lw_p46 : lw_okq (⟨"BatchShareModel", "rowPart", "(Z)V"⟩, 50) := ⟨⟨by decide +kernel, by decide +kernel⟩, List.mem_of_getElem? (i := 1092) (by decide +kernel), List.mem_of_getElem? (i := 1301) (by decide +kernel), List.mem_of_getElem? (i := 1302) (by decide +kernel)⟩
theorem lw_p47 : lw_okq (⟨"BatchShareModel", "isMore", "()Z"⟩, 50) := ⟨⟨by decide +kernel, by decide +kernel⟩, List.mem_of_getElem? (i := 1092) (by decide +kernel), List.mem_of_getElem? (i := 1305) (by decide +kernel), List.mem_of_getElem? (i := 1306) (by decide +kernel)⟩
def lw_privs_3 : List (MethodName × Nat) := [(⟨"BatchShare$Pricer", "useServing", "(LBatchShare$Shelf;I)V"⟩, 6), (⟨"BatchShare", "marksOf", "(II)I"⟩, 12), (⟨"BatchShare", "isLive", "(I)Z"⟩, 12), (⟨"BatchShare", "queriesWith", "(I)I"⟩, 12), (⟨"BatchShare", "queriesJoining", "(II)I"⟩, 12), (⟨"BatchShare", "markedRows", "(II)I"⟩, 12), (⟨"BatchShare", "driftOnce", "(I)V"⟩, 12), (⟨"BatchShareModel", "put4", "(I)V"⟩, 50), (⟨"BatchShareModel", "baseClause", "(I)V"⟩, 50), (⟨"BatchShareModel", "sign", "()I"⟩, 50), (⟨"BatchShareModel", "stood", "(Ljava/lang/String;)Z"⟩, 50), (⟨"BatchShareModel", "fails", "(II)V"⟩, 50), (⟨"BatchShareModel", "amount", "(II)I"⟩, 50), (⟨"BatchShareModel", "isDigit", "()Z"⟩, 50), (⟨"BatchShareModel", "rowPart", "(Z)V"⟩, 50), (⟨"BatchShareModel", "isMore", "()Z"⟩, 50)]
theorem lw_r3 : ∀ q ∈ lw_privs_3, lw_okq q := List.forall_mem_cons.mpr ⟨lw_p32, List.forall_mem_cons.mpr ⟨lw_p33, List.forall_mem_cons.mpr ⟨lw_p34, List.forall_mem_cons.mpr ⟨lw_p35, List.forall_mem_cons.mpr ⟨lw_p36, List.forall_mem_cons.mpr ⟨lw_p37, List.forall_mem_cons.mpr ⟨lw_p38, List.forall_mem_cons.mpr ⟨lw_p39, List.forall_mem_cons.mpr ⟨lw_p40, List.forall_mem_cons.mpr ⟨lw_p41, List.forall_mem_cons.mpr ⟨lw_p42, List.forall_mem_cons.mpr ⟨lw_p43, List.forall_mem_cons.mpr ⟨lw_p44, List.forall_mem_cons.mpr ⟨lw_p45, List.forall_mem_cons.mpr ⟨lw_p46, List.forall_mem_cons.mpr ⟨lw_p47, fun _ h => absurd h List.not_mem_nil⟩⟩⟩⟩⟩⟩⟩⟩⟩⟩⟩⟩⟩⟩⟩⟩
theorem lw_p48 : lw_okq (⟨"BatchShareModel", "sourcePart", "()V"⟩, 50) := ⟨⟨by decide +kernel, by decide +kernel⟩, List.mem_of_getElem? (i := 1092) (by decide +kernel), List.mem_of_getElem? (i := 1316) (by decide +kernel), List.mem_of_getElem? (i := 1317) (by decide +kernel)⟩
theorem lw_p49 : lw_okq (⟨"BatchShareModel", "takes", "(Ljava/lang/String;)Z"⟩, 50) := ⟨⟨by decide +kernel, by decide +kernel⟩, List.mem_of_getElem? (i := 1092) (by decide +kernel), List.mem_of_getElem? (i := 1320) (by decide +kernel), List.mem_of_getElem? (i := 1321) (by decide +kernel)⟩
theorem lw_p50 : lw_okq (⟨"BatchShareModel", "column", "(ZZ)I"⟩, 50) := ⟨⟨by decide +kernel, by decide +kernel⟩, List.mem_of_getElem? (i := 1092) (by decide +kernel), List.mem_of_getElem? (i := 1325) (by decide +kernel), List.mem_of_getElem? (i := 1326) (by decide +kernel)⟩
theorem lw_p51 : lw_okq (⟨"BatchShareModel", "showsAll", "()V"⟩, 50) := ⟨⟨by decide +kernel, by decide +kernel⟩, List.mem_of_getElem? (i := 1092) (by decide +kernel), List.mem_of_getElem? (i := 1330) (by decide +kernel), List.mem_of_getElem? (i := 1331) (by decide +kernel)⟩
theorem lw_p52 : lw_okq (⟨"BatchShareModel", "stepsPart", "()V"⟩, 50) := ⟨⟨by decide +kernel, by decide +kernel⟩, List.mem_of_getElem? (i := 1092) (by decide +kernel), List.mem_of_getElem? (i := 1337) (by decide +kernel), List.mem_of_getElem? (i := 1338) (by decide +kernel)⟩
theorem lw_p53 : lw_okq (⟨"BatchShareModel", "testsPart", "()V"⟩, 50) := ⟨⟨by decide +kernel, by decide +kernel⟩, List.mem_of_getElem? (i := 1092) (by decide +kernel), List.mem_of_getElem? (i := 1342) (by decide +kernel), List.mem_of_getElem? (i := 1343) (by decide +kernel)⟩
theorem lw_p54 : lw_okq (⟨"BatchShareModel", "testPart", "()V"⟩, 50) := ⟨⟨by decide +kernel, by decide +kernel⟩, List.mem_of_getElem? (i := 1092) (by decide +kernel), List.mem_of_getElem? (i := 1346) (by decide +kernel), List.mem_of_getElem? (i := 1347) (by decide +kernel)⟩
theorem lw_p55 : lw_okq (⟨"BatchShareModel", "columnOf", "()I"⟩, 50) := ⟨⟨by decide +kernel, by decide +kernel⟩, List.mem_of_getElem? (i := 1092) (by decide +kernel), List.mem_of_getElem? (i := 1350) (by decide +kernel), List.mem_of_getElem? (i := 1351) (by decide +kernel)⟩
theorem lw_p56 : lw_okq (⟨"BatchShareModel", "bounds", "(III)V"⟩, 50) := ⟨⟨by decide +kernel, by decide +kernel⟩, List.mem_of_getElem? (i := 1092) (by decide +kernel), List.mem_of_getElem? (i := 1354) (by decide +kernel), List.mem_of_getElem? (i := 1355) (by decide +kernel)⟩
theorem lw_p57 : lw_okq (⟨"BatchShareModel", "showPart", "()V"⟩, 50) := ⟨⟨by decide +kernel, by decide +kernel⟩, List.mem_of_getElem? (i := 1092) (by decide +kernel), List.mem_of_getElem? (i := 1360) (by decide +kernel), List.mem_of_getElem? (i := 1361) (by decide +kernel)⟩
theorem lw_p58 : lw_okq (⟨"BatchShareModel", "voids", "()V"⟩, 50) := ⟨⟨by decide +kernel, by decide +kernel⟩, List.mem_of_getElem? (i := 1092) (by decide +kernel), List.mem_of_getElem? (i := 1364) (by decide +kernel), List.mem_of_getElem? (i := 1365) (by decide +kernel)⟩
theorem lw_p59 : lw_okq (⟨"BatchShareModel", "isRow", "(II)Z"⟩, 50) := ⟨⟨by decide +kernel, by decide +kernel⟩, List.mem_of_getElem? (i := 1092) (by decide +kernel), List.mem_of_getElem? (i := 1372) (by decide +kernel), List.mem_of_getElem? (i := 1373) (by decide +kernel)⟩
theorem lw_p60 : lw_okq (⟨"BatchShareModel", "manyOf", "(I)I"⟩, 50) := ⟨⟨by decide +kernel, by decide +kernel⟩, List.mem_of_getElem? (i := 1092) (by decide +kernel), List.mem_of_getElem? (i := 1376) (by decide +kernel), List.mem_of_getElem? (i := 1377) (by decide +kernel)⟩
theorem lw_p61 : lw_okq (⟨"BatchShareModel", "numberAt", "(II)I"⟩, 50) := ⟨⟨by decide +kernel, by decide +kernel⟩, List.mem_of_getElem? (i := 1092) (by decide +kernel), List.mem_of_getElem? (i := 1383) (by decide +kernel), List.mem_of_getElem? (i := 1384) (by decide +kernel)⟩
theorem lw_p62 : lw_okq (⟨"BatchShareModel", "isQuery", "(I)Z"⟩, 50) := ⟨⟨by decide +kernel, by decide +kernel⟩, List.mem_of_getElem? (i := 1092) (by decide +kernel), List.mem_of_getElem? (i := 1391) (by decide +kernel), List.mem_of_getElem? (i := 1392) (by decide +kernel)⟩
theorem lw_p63 : lw_okq (⟨"BatchShareModel", "boundOf", "(II)I"⟩, 50) := ⟨⟨by decide +kernel, by decide +kernel⟩, List.mem_of_getElem? (i := 1092) (by decide +kernel), List.mem_of_getElem? (i := 1396) (by decide +kernel), List.mem_of_getElem? (i := 1397) (by decide +kernel)⟩
def lw_privs_4 : List (MethodName × Nat) := [(⟨"BatchShareModel", "sourcePart", "()V"⟩, 50), (⟨"BatchShareModel", "takes", "(Ljava/lang/String;)Z"⟩, 50), (⟨"BatchShareModel", "column", "(ZZ)I"⟩, 50), (⟨"BatchShareModel", "showsAll", "()V"⟩, 50), (⟨"BatchShareModel", "stepsPart", "()V"⟩, 50), (⟨"BatchShareModel", "testsPart", "()V"⟩, 50), (⟨"BatchShareModel", "testPart", "()V"⟩, 50), (⟨"BatchShareModel", "columnOf", "()I"⟩, 50), (⟨"BatchShareModel", "bounds", "(III)V"⟩, 50), (⟨"BatchShareModel", "showPart", "()V"⟩, 50), (⟨"BatchShareModel", "voids", "()V"⟩, 50), (⟨"BatchShareModel", "isRow", "(II)Z"⟩, 50), (⟨"BatchShareModel", "manyOf", "(I)I"⟩, 50), (⟨"BatchShareModel", "numberAt", "(II)I"⟩, 50), (⟨"BatchShareModel", "isQuery", "(I)Z"⟩, 50), (⟨"BatchShareModel", "boundOf", "(II)I"⟩, 50)]
theorem lw_r4 : ∀ q ∈ lw_privs_4, lw_okq q := List.forall_mem_cons.mpr ⟨lw_p48, List.forall_mem_cons.mpr ⟨lw_p49, List.forall_mem_cons.mpr ⟨lw_p50, List.forall_mem_cons.mpr ⟨lw_p51, List.forall_mem_cons.mpr ⟨lw_p52, List.forall_mem_cons.mpr ⟨lw_p53, List.forall_mem_cons.mpr ⟨lw_p54, List.forall_mem_cons.mpr ⟨lw_p55, List.forall_mem_cons.mpr ⟨lw_p56, List.forall_mem_cons.mpr ⟨lw_p57, List.forall_mem_cons.mpr ⟨lw_p58, List.forall_mem_cons.mpr ⟨lw_p59, List.forall_mem_cons.mpr ⟨lw_p60, List.forall_mem_cons.mpr ⟨lw_p61, List.forall_mem_cons.mpr ⟨lw_p62, List.forall_mem_cons.mpr ⟨lw_p63, fun _ h => absurd h List.not_mem_nil⟩⟩⟩⟩⟩⟩⟩⟩⟩⟩⟩⟩⟩⟩⟩⟩
theorem lw_p64 : lw_okq (⟨"BatchShareModel", "isVoid", "(I)Z"⟩, 50) := ⟨⟨by decide +kernel, by decide +kernel⟩, List.mem_of_getElem? (i := 1092) (by decide +kernel), List.mem_of_getElem? (i := 1400) (by decide +kernel), List.mem_of_getElem? (i := 1401) (by decide +kernel)⟩
theorem lw_p65 : lw_okq (⟨"BatchShareModel", "areAlike", "(II)Z"⟩, 50) := ⟨⟨by decide +kernel, by decide +kernel⟩, List.mem_of_getElem? (i := 1092) (by decide +kernel), List.mem_of_getElem? (i := 1420) (by decide +kernel), List.mem_of_getElem? (i := 1421) (by decide +kernel)⟩
theorem lw_p66 : lw_okq (⟨"BatchShareModel", "answersTo", "(II)I"⟩, 50) := ⟨⟨by decide +kernel, by decide +kernel⟩, List.mem_of_getElem? (i := 1092) (by decide +kernel), List.mem_of_getElem? (i := 1429) (by decide +kernel), List.mem_of_getElem? (i := 1430) (by decide +kernel)⟩
theorem lw_p67 : lw_okq (⟨"BatchShareModel", "isAnswer", "(III)Z"⟩, 50) := ⟨⟨by decide +kernel, by decide +kernel⟩, List.mem_of_getElem? (i := 1092) (by decide +kernel), List.mem_of_getElem? (i := 1433) (by decide +kernel), List.mem_of_getElem? (i := 1434) (by decide +kernel)⟩
theorem lw_p68 : lw_okq (⟨"BatchShareModel", "isIn", "(III)Z"⟩, 50) := ⟨⟨by decide +kernel, by decide +kernel⟩, List.mem_of_getElem? (i := 1092) (by decide +kernel), List.mem_of_getElem? (i := 1437) (by decide +kernel), List.mem_of_getElem? (i := 1438) (by decide +kernel)⟩
theorem lw_p69 : lw_okq (⟨"BatchShareModel", "laysCandidates", "()V"⟩, 50) := ⟨⟨by decide +kernel, by decide +kernel⟩, List.mem_of_getElem? (i := 1092) (by decide +kernel), List.mem_of_getElem? (i := 1445) (by decide +kernel), List.mem_of_getElem? (i := 1446) (by decide +kernel)⟩
theorem lw_p70 : lw_okq (⟨"BatchShareModel", "isOn", "(I)Z"⟩, 50) := ⟨⟨by decide +kernel, by decide +kernel⟩, List.mem_of_getElem? (i := 1092) (by decide +kernel), List.mem_of_getElem? (i := 1449) (by decide +kernel), List.mem_of_getElem? (i := 1450) (by decide +kernel)⟩
theorem lw_p71 : lw_okq (⟨"BatchShareModel", "hasKind", "(II)Z"⟩, 50) := ⟨⟨by decide +kernel, by decide +kernel⟩, List.mem_of_getElem? (i := 1092) (by decide +kernel), List.mem_of_getElem? (i := 1453) (by decide +kernel), List.mem_of_getElem? (i := 1454) (by decide +kernel)⟩
theorem lw_p72 : lw_okq (⟨"BatchShareModel", "laysPart", "(II)V"⟩, 50) := ⟨⟨by decide +kernel, by decide +kernel⟩, List.mem_of_getElem? (i := 1092) (by decide +kernel), List.mem_of_getElem? (i := 1457) (by decide +kernel), List.mem_of_getElem? (i := 1458) (by decide +kernel)⟩
theorem lw_p73 : lw_okq (⟨"BatchShareModel", "addsPart", "()V"⟩, 50) := ⟨⟨by decide +kernel, by decide +kernel⟩, List.mem_of_getElem? (i := 1092) (by decide +kernel), List.mem_of_getElem? (i := 1461) (by decide +kernel), List.mem_of_getElem? (i := 1462) (by decide +kernel)⟩
theorem lw_p74 : lw_okq (⟨"BatchShareModel", "rowsNow", "([II)I"⟩, 50) := ⟨⟨by decide +kernel, by decide +kernel⟩, List.mem_of_getElem? (i := 1092) (by decide +kernel), List.mem_of_getElem? (i := 1468) (by decide +kernel), List.mem_of_getElem? (i := 1469) (by decide +kernel)⟩
theorem lw_p75 : lw_okq (⟨"BatchShareModel", "rowsIn", "([III)I"⟩, 50) := ⟨⟨by decide +kernel, by decide +kernel⟩, List.mem_of_getElem? (i := 1092) (by decide +kernel), List.mem_of_getElem? (i := 1472) (by decide +kernel), List.mem_of_getElem? (i := 1473) (by decide +kernel)⟩
theorem lw_p76 : lw_okq (⟨"BatchShareModel", "isInPart", "([IIII)Z"⟩, 50) := ⟨⟨by decide +kernel, by decide +kernel⟩, List.mem_of_getElem? (i := 1092) (by decide +kernel), List.mem_of_getElem? (i := 1476) (by decide +kernel), List.mem_of_getElem? (i := 1477) (by decide +kernel)⟩
theorem lw_p77 : lw_okq (⟨"BatchShareModel", "makeNow", "([II)I"⟩, 50) := ⟨⟨by decide +kernel, by decide +kernel⟩, List.mem_of_getElem? (i := 1092) (by decide +kernel), List.mem_of_getElem? (i := 1480) (by decide +kernel), List.mem_of_getElem? (i := 1481) (by decide +kernel)⟩
theorem lw_p78 : lw_okq (⟨"BatchShareModel", "laysWide", "(II)V"⟩, 50) := ⟨⟨by decide +kernel, by decide +kernel⟩, List.mem_of_getElem? (i := 1092) (by decide +kernel), List.mem_of_getElem? (i := 1487) (by decide +kernel), List.mem_of_getElem? (i := 1488) (by decide +kernel)⟩
theorem lw_p79 : lw_okq (⟨"BatchShareModel", "isCandidate", "(I)Z"⟩, 50) := ⟨⟨by decide +kernel, by decide +kernel⟩, List.mem_of_getElem? (i := 1092) (by decide +kernel), List.mem_of_getElem? (i := 1495) (by decide +kernel), List.mem_of_getElem? (i := 1496) (by decide +kernel)⟩
def lw_privs_5 : List (MethodName × Nat) := [(⟨"BatchShareModel", "isVoid", "(I)Z"⟩, 50), (⟨"BatchShareModel", "areAlike", "(II)Z"⟩, 50), (⟨"BatchShareModel", "answersTo", "(II)I"⟩, 50), (⟨"BatchShareModel", "isAnswer", "(III)Z"⟩, 50), (⟨"BatchShareModel", "isIn", "(III)Z"⟩, 50), (⟨"BatchShareModel", "laysCandidates", "()V"⟩, 50), (⟨"BatchShareModel", "isOn", "(I)Z"⟩, 50), (⟨"BatchShareModel", "hasKind", "(II)Z"⟩, 50), (⟨"BatchShareModel", "laysPart", "(II)V"⟩, 50), (⟨"BatchShareModel", "addsPart", "()V"⟩, 50), (⟨"BatchShareModel", "rowsNow", "([II)I"⟩, 50), (⟨"BatchShareModel", "rowsIn", "([III)I"⟩, 50), (⟨"BatchShareModel", "isInPart", "([IIII)Z"⟩, 50), (⟨"BatchShareModel", "makeNow", "([II)I"⟩, 50), (⟨"BatchShareModel", "laysWide", "(II)V"⟩, 50), (⟨"BatchShareModel", "isCandidate", "(I)Z"⟩, 50)]
theorem lw_r5 : ∀ q ∈ lw_privs_5, lw_okq q := List.forall_mem_cons.mpr ⟨lw_p64, List.forall_mem_cons.mpr ⟨lw_p65, List.forall_mem_cons.mpr ⟨lw_p66, List.forall_mem_cons.mpr ⟨lw_p67, List.forall_mem_cons.mpr ⟨lw_p68, List.forall_mem_cons.mpr ⟨lw_p69, List.forall_mem_cons.mpr ⟨lw_p70, List.forall_mem_cons.mpr ⟨lw_p71, List.forall_mem_cons.mpr ⟨lw_p72, List.forall_mem_cons.mpr ⟨lw_p73, List.forall_mem_cons.mpr ⟨lw_p74, List.forall_mem_cons.mpr ⟨lw_p75, List.forall_mem_cons.mpr ⟨lw_p76, List.forall_mem_cons.mpr ⟨lw_p77, List.forall_mem_cons.mpr ⟨lw_p78, List.forall_mem_cons.mpr ⟨lw_p79, fun _ h => absurd h List.not_mem_nil⟩⟩⟩⟩⟩⟩⟩⟩⟩⟩⟩⟩⟩⟩⟩⟩
theorem lw_p80 : lw_okq (⟨"BatchShareModel", "laysAll", "()V"⟩, 50) := ⟨⟨by decide +kernel, by decide +kernel⟩, List.mem_of_getElem? (i := 1092) (by decide +kernel), List.mem_of_getElem? (i := 1504) (by decide +kernel), List.mem_of_getElem? (i := 1505) (by decide +kernel)⟩
theorem lw_p81 : lw_okq (⟨"BatchShareModel", "takesKept", "()V"⟩, 50) := ⟨⟨by decide +kernel, by decide +kernel⟩, List.mem_of_getElem? (i := 1092) (by decide +kernel), List.mem_of_getElem? (i := 1508) (by decide +kernel), List.mem_of_getElem? (i := 1509) (by decide +kernel)⟩
theorem lw_p82 : lw_okq (⟨"BatchShareModel", "batchNow", "()I"⟩, 50) := ⟨⟨by decide +kernel, by decide +kernel⟩, List.mem_of_getElem? (i := 1092) (by decide +kernel), List.mem_of_getElem? (i := 1515) (by decide +kernel), List.mem_of_getElem? (i := 1516) (by decide +kernel)⟩
theorem lw_p83 : lw_okq (⟨"BatchShareModel", "costNow", "(I)I"⟩, 50) := ⟨⟨by decide +kernel, by decide +kernel⟩, List.mem_of_getElem? (i := 1092) (by decide +kernel), List.mem_of_getElem? (i := 1519) (by decide +kernel), List.mem_of_getElem? (i := 1520) (by decide +kernel)⟩
theorem lw_p84 : lw_okq (⟨"BatchShareModel", "costOf", "(II)I"⟩, 50) := ⟨⟨by decide +kernel, by decide +kernel⟩, List.mem_of_getElem? (i := 1092) (by decide +kernel), List.mem_of_getElem? (i := 1523) (by decide +kernel), List.mem_of_getElem? (i := 1524) (by decide +kernel)⟩
theorem lw_p85 : lw_okq (⟨"BatchShareModel", "serverOf", "(II)I"⟩, 50) := ⟨⟨by decide +kernel, by decide +kernel⟩, List.mem_of_getElem? (i := 1092) (by decide +kernel), List.mem_of_getElem? (i := 1527) (by decide +kernel), List.mem_of_getElem? (i := 1528) (by decide +kernel)⟩
theorem lw_p86 : lw_okq (⟨"BatchShareModel", "bestFor", "(II)I"⟩, 50) := ⟨⟨by decide +kernel, by decide +kernel⟩, List.mem_of_getElem? (i := 1092) (by decide +kernel), List.mem_of_getElem? (i := 1531) (by decide +kernel), List.mem_of_getElem? (i := 1532) (by decide +kernel)⟩
theorem lw_p87 : lw_okq (⟨"BatchShareModel", "joinedBy", "(I)I"⟩, 50) := ⟨⟨by decide +kernel, by decide +kernel⟩, List.mem_of_getElem? (i := 1092) (by decide +kernel), List.mem_of_getElem? (i := 1538) (by decide +kernel), List.mem_of_getElem? (i := 1539) (by decide +kernel)⟩
theorem lw_p88 : lw_okq (⟨"BatchShareModel", "apart", "(I)I"⟩, 50) := ⟨⟨by decide +kernel, by decide +kernel⟩, List.mem_of_getElem? (i := 1092) (by decide +kernel), List.mem_of_getElem? (i := 1542) (by decide +kernel), List.mem_of_getElem? (i := 1543) (by decide +kernel)⟩
theorem lw_p89 : lw_okq (⟨"BatchShareModel", "takesNone", "()V"⟩, 50) := ⟨⟨by decide +kernel, by decide +kernel⟩, List.mem_of_getElem? (i := 1092) (by decide +kernel), List.mem_of_getElem? (i := 1550) (by decide +kernel), List.mem_of_getElem? (i := 1551) (by decide +kernel)⟩
theorem lw_p90 : lw_okq (⟨"BatchShareModel", "isAsked", "(I)Z"⟩, 50) := ⟨⟨by decide +kernel, by decide +kernel⟩, List.mem_of_getElem? (i := 1092) (by decide +kernel), List.mem_of_getElem? (i := 1558) (by decide +kernel), List.mem_of_getElem? (i := 1559) (by decide +kernel)⟩
theorem lw_p91 : lw_okq (⟨"BatchShareModel", "servedBy", "(II)I"⟩, 50) := ⟨⟨by decide +kernel, by decide +kernel⟩, List.mem_of_getElem? (i := 1092) (by decide +kernel), List.mem_of_getElem? (i := 1566) (by decide +kernel), List.mem_of_getElem? (i := 1567) (by decide +kernel)⟩
theorem lw_p92 : lw_okq (⟨"BatchShareModel", "takesOne", "(I)V"⟩, 50) := ⟨⟨by decide +kernel, by decide +kernel⟩, List.mem_of_getElem? (i := 1092) (by decide +kernel), List.mem_of_getElem? (i := 1574) (by decide +kernel), List.mem_of_getElem? (i := 1575) (by decide +kernel)⟩
theorem lw_p93 : lw_okq (⟨"BatchShareModel", "laysGreedy", "()V"⟩, 50) := ⟨⟨by decide +kernel, by decide +kernel⟩, List.mem_of_getElem? (i := 1092) (by decide +kernel), List.mem_of_getElem? (i := 1583) (by decide +kernel), List.mem_of_getElem? (i := 1584) (by decide +kernel)⟩
theorem lw_p94 : lw_okq (⟨"BatchShareModel", "greediest", "()I"⟩, 50) := ⟨⟨by decide +kernel, by decide +kernel⟩, List.mem_of_getElem? (i := 1092) (by decide +kernel), List.mem_of_getElem? (i := 1587) (by decide +kernel), List.mem_of_getElem? (i := 1588) (by decide +kernel)⟩
theorem lw_p95 : lw_okq (⟨"BatchShareModel", "rowsOfOne", "(I)I"⟩, 50) := ⟨⟨by decide +kernel, by decide +kernel⟩, List.mem_of_getElem? (i := 1092) (by decide +kernel), List.mem_of_getElem? (i := 1591) (by decide +kernel), List.mem_of_getElem? (i := 1592) (by decide +kernel)⟩
def lw_privs_6 : List (MethodName × Nat) := [(⟨"BatchShareModel", "laysAll", "()V"⟩, 50), (⟨"BatchShareModel", "takesKept", "()V"⟩, 50), (⟨"BatchShareModel", "batchNow", "()I"⟩, 50), (⟨"BatchShareModel", "costNow", "(I)I"⟩, 50), (⟨"BatchShareModel", "costOf", "(II)I"⟩, 50), (⟨"BatchShareModel", "serverOf", "(II)I"⟩, 50), (⟨"BatchShareModel", "bestFor", "(II)I"⟩, 50), (⟨"BatchShareModel", "joinedBy", "(I)I"⟩, 50), (⟨"BatchShareModel", "apart", "(I)I"⟩, 50), (⟨"BatchShareModel", "takesNone", "()V"⟩, 50), (⟨"BatchShareModel", "isAsked", "(I)Z"⟩, 50), (⟨"BatchShareModel", "servedBy", "(II)I"⟩, 50), (⟨"BatchShareModel", "takesOne", "(I)V"⟩, 50), (⟨"BatchShareModel", "laysGreedy", "()V"⟩, 50), (⟨"BatchShareModel", "greediest", "()I"⟩, 50), (⟨"BatchShareModel", "rowsOfOne", "(I)I"⟩, 50)]
theorem lw_r6 : ∀ q ∈ lw_privs_6, lw_okq q := List.forall_mem_cons.mpr ⟨lw_p80, List.forall_mem_cons.mpr ⟨lw_p81, List.forall_mem_cons.mpr ⟨lw_p82, List.forall_mem_cons.mpr ⟨lw_p83, List.forall_mem_cons.mpr ⟨lw_p84, List.forall_mem_cons.mpr ⟨lw_p85, List.forall_mem_cons.mpr ⟨lw_p86, List.forall_mem_cons.mpr ⟨lw_p87, List.forall_mem_cons.mpr ⟨lw_p88, List.forall_mem_cons.mpr ⟨lw_p89, List.forall_mem_cons.mpr ⟨lw_p90, List.forall_mem_cons.mpr ⟨lw_p91, List.forall_mem_cons.mpr ⟨lw_p92, List.forall_mem_cons.mpr ⟨lw_p93, List.forall_mem_cons.mpr ⟨lw_p94, List.forall_mem_cons.mpr ⟨lw_p95, fun _ h => absurd h List.not_mem_nil⟩⟩⟩⟩⟩⟩⟩⟩⟩⟩⟩⟩⟩⟩⟩⟩
theorem lw_p96 : lw_okq (⟨"BatchShareModel", "laysBest", "()V"⟩, 50) := ⟨⟨by decide +kernel, by decide +kernel⟩, List.mem_of_getElem? (i := 1092) (by decide +kernel), List.mem_of_getElem? (i := 1599) (by decide +kernel), List.mem_of_getElem? (i := 1600) (by decide +kernel)⟩
theorem lw_p97 : lw_okq (⟨"BatchShareModel", "triesSet", "(III)V"⟩, 50) := ⟨⟨by decide +kernel, by decide +kernel⟩, List.mem_of_getElem? (i := 1092) (by decide +kernel), List.mem_of_getElem? (i := 1603) (by decide +kernel), List.mem_of_getElem? (i := 1604) (by decide +kernel)⟩
theorem lw_p98 : lw_okq (⟨"BatchShareModel", "movesAll", "(IZ)V"⟩, 50) := ⟨⟨by decide +kernel, by decide +kernel⟩, List.mem_of_getElem? (i := 1092) (by decide +kernel), List.mem_of_getElem? (i := 1611) (by decide +kernel), List.mem_of_getElem? (i := 1612) (by decide +kernel)⟩
theorem lw_p99 : lw_okq (⟨"BatchShareModel", "moves", "(I)I"⟩, 50) := ⟨⟨by decide +kernel, by decide +kernel⟩, List.mem_of_getElem? (i := 1092) (by decide +kernel), List.mem_of_getElem? (i := 1615) (by decide +kernel), List.mem_of_getElem? (i := 1616) (by decide +kernel)⟩
theorem lw_p100 : lw_okq (⟨"BatchShareModel", "movesRow", "([I)V"⟩, 50) := ⟨⟨by decide +kernel, by decide +kernel⟩, List.mem_of_getElem? (i := 1092) (by decide +kernel), List.mem_of_getElem? (i := 1619) (by decide +kernel), List.mem_of_getElem? (i := 1620) (by decide +kernel)⟩
theorem lw_p101 : lw_okq (⟨"BatchShareModel", "isBase", "()Z"⟩, 50) := ⟨⟨by decide +kernel, by decide +kernel⟩, List.mem_of_getElem? (i := 1092) (by decide +kernel), List.mem_of_getElem? (i := 1627) (by decide +kernel), List.mem_of_getElem? (i := 1628) (by decide +kernel)⟩
theorem lw_p102 : lw_okq (⟨"BatchShareModel", "keepsAct", "()V"⟩, 50) := ⟨⟨by decide +kernel, by decide +kernel⟩, List.mem_of_getElem? (i := 1092) (by decide +kernel), List.mem_of_getElem? (i := 1632) (by decide +kernel), List.mem_of_getElem? (i := 1633) (by decide +kernel)⟩
theorem lw_p103 : lw_okq (⟨"BatchShareModel", "putsCell", "(IIII)V"⟩, 50) := ⟨⟨by decide +kernel, by decide +kernel⟩, List.mem_of_getElem? (i := 1092) (by decide +kernel), List.mem_of_getElem? (i := 1636) (by decide +kernel), List.mem_of_getElem? (i := 1637) (by decide +kernel)⟩
theorem lw_p104 : lw_okq (⟨"BatchShareModel", "turnsStale", "(II)V"⟩, 50) := ⟨⟨by decide +kernel, by decide +kernel⟩, List.mem_of_getElem? (i := 1092) (by decide +kernel), List.mem_of_getElem? (i := 1640) (by decide +kernel), List.mem_of_getElem? (i := 1641) (by decide +kernel)⟩
theorem lw_p105 : lw_okq (⟨"BatchShareModel", "changes", "(IIII)V"⟩, 50) := ⟨⟨by decide +kernel, by decide +kernel⟩, List.mem_of_getElem? (i := 1092) (by decide +kernel), List.mem_of_getElem? (i := 1653) (by decide +kernel), List.mem_of_getElem? (i := 1654) (by decide +kernel)⟩
theorem lw_p106 : lw_okq (⟨"BatchShareModel", "isKeptAlready", "(I)Z"⟩, 50) := ⟨⟨by decide +kernel, by decide +kernel⟩, List.mem_of_getElem? (i := 1092) (by decide +kernel), List.mem_of_getElem? (i := 1668) (by decide +kernel), List.mem_of_getElem? (i := 1669) (by decide +kernel)⟩
theorem lw_p107 : lw_okq (⟨"BatchShareModel", "rowsOfAll", "()I"⟩, 50) := ⟨⟨by decide +kernel, by decide +kernel⟩, List.mem_of_getElem? (i := 1092) (by decide +kernel), List.mem_of_getElem? (i := 1672) (by decide +kernel), List.mem_of_getElem? (i := 1673) (by decide +kernel)⟩
theorem lw_p108 : lw_okq (⟨"BatchShareModel", "leastUsed", "()I"⟩, 50) := ⟨⟨by decide +kernel, by decide +kernel⟩, List.mem_of_getElem? (i := 1092) (by decide +kernel), List.mem_of_getElem? (i := 1676) (by decide +kernel), List.mem_of_getElem? (i := 1677) (by decide +kernel)⟩
theorem lw_p109 : lw_okq (⟨"BatchShareModel", "forgets", "(I)V"⟩, 50) := ⟨⟨by decide +kernel, by decide +kernel⟩, List.mem_of_getElem? (i := 1092) (by decide +kernel), List.mem_of_getElem? (i := 1680) (by decide +kernel), List.mem_of_getElem? (i := 1681) (by decide +kernel)⟩
theorem lw_p110 : lw_okq (⟨"BatchShareModel", "isKeptOne", "(I)Z"⟩, 50) := ⟨⟨by decide +kernel, by decide +kernel⟩, List.mem_of_getElem? (i := 1092) (by decide +kernel), List.mem_of_getElem? (i := 1688) (by decide +kernel), List.mem_of_getElem? (i := 1689) (by decide +kernel)⟩
theorem lw_p111 : lw_okq (⟨"BatchShareModel", "runs", "()I"⟩, 50) := ⟨⟨by decide +kernel, by decide +kernel⟩, List.mem_of_getElem? (i := 1092) (by decide +kernel), List.mem_of_getElem? (i := 1700) (by decide +kernel), List.mem_of_getElem? (i := 1701) (by decide +kernel)⟩
def lw_privs_7 : List (MethodName × Nat) := [(⟨"BatchShareModel", "laysBest", "()V"⟩, 50), (⟨"BatchShareModel", "triesSet", "(III)V"⟩, 50), (⟨"BatchShareModel", "movesAll", "(IZ)V"⟩, 50), (⟨"BatchShareModel", "moves", "(I)I"⟩, 50), (⟨"BatchShareModel", "movesRow", "([I)V"⟩, 50), (⟨"BatchShareModel", "isBase", "()Z"⟩, 50), (⟨"BatchShareModel", "keepsAct", "()V"⟩, 50), (⟨"BatchShareModel", "putsCell", "(IIII)V"⟩, 50), (⟨"BatchShareModel", "turnsStale", "(II)V"⟩, 50), (⟨"BatchShareModel", "changes", "(IIII)V"⟩, 50), (⟨"BatchShareModel", "isKeptAlready", "(I)Z"⟩, 50), (⟨"BatchShareModel", "rowsOfAll", "()I"⟩, 50), (⟨"BatchShareModel", "leastUsed", "()I"⟩, 50), (⟨"BatchShareModel", "forgets", "(I)V"⟩, 50), (⟨"BatchShareModel", "isKeptOne", "(I)Z"⟩, 50), (⟨"BatchShareModel", "runs", "()I"⟩, 50)]
theorem lw_r7 : ∀ q ∈ lw_privs_7, lw_okq q := List.forall_mem_cons.mpr ⟨lw_p96, List.forall_mem_cons.mpr ⟨lw_p97, List.forall_mem_cons.mpr ⟨lw_p98, List.forall_mem_cons.mpr ⟨lw_p99, List.forall_mem_cons.mpr ⟨lw_p100, List.forall_mem_cons.mpr ⟨lw_p101, List.forall_mem_cons.mpr ⟨lw_p102, List.forall_mem_cons.mpr ⟨lw_p103, List.forall_mem_cons.mpr ⟨lw_p104, List.forall_mem_cons.mpr ⟨lw_p105, List.forall_mem_cons.mpr ⟨lw_p106, List.forall_mem_cons.mpr ⟨lw_p107, List.forall_mem_cons.mpr ⟨lw_p108, List.forall_mem_cons.mpr ⟨lw_p109, List.forall_mem_cons.mpr ⟨lw_p110, List.forall_mem_cons.mpr ⟨lw_p111, fun _ h => absurd h List.not_mem_nil⟩⟩⟩⟩⟩⟩⟩⟩⟩⟩⟩⟩⟩⟩⟩⟩
theorem lw_p112 : lw_okq (⟨"BatchShareModel", "usesAll", "()V"⟩, 50) := ⟨⟨by decide +kernel, by decide +kernel⟩, List.mem_of_getElem? (i := 1092) (by decide +kernel), List.mem_of_getElem? (i := 1705) (by decide +kernel), List.mem_of_getElem? (i := 1706) (by decide +kernel)⟩
theorem lw_p113 : lw_okq (⟨"BatchShareModel", "marksOf", "(IIII)I"⟩, 50) := ⟨⟨by decide +kernel, by decide +kernel⟩, List.mem_of_getElem? (i := 1092) (by decide +kernel), List.mem_of_getElem? (i := 1718) (by decide +kernel), List.mem_of_getElem? (i := 1719) (by decide +kernel)⟩
theorem lw_p114 : lw_okq (⟨"BatchShareModel", "markedOf", "(III)I"⟩, 50) := ⟨⟨by decide +kernel, by decide +kernel⟩, List.mem_of_getElem? (i := 1092) (by decide +kernel), List.mem_of_getElem? (i := 1726) (by decide +kernel), List.mem_of_getElem? (i := 1727) (by decide +kernel)⟩
theorem lw_p115 : lw_okq (⟨"BatchShareModel", "draws", "(I)I"⟩, 50) := ⟨⟨by decide +kernel, by decide +kernel⟩, List.mem_of_getElem? (i := 1092) (by decide +kernel), List.mem_of_getElem? (i := 1745) (by decide +kernel), List.mem_of_getElem? (i := 1746) (by decide +kernel)⟩
theorem lw_p116 : lw_okq (⟨"BatchShareModel", "drifts", "()V"⟩, 50) := ⟨⟨by decide +kernel, by decide +kernel⟩, List.mem_of_getElem? (i := 1092) (by decide +kernel), List.mem_of_getElem? (i := 1753) (by decide +kernel), List.mem_of_getElem? (i := 1754) (by decide +kernel)⟩
theorem lw_p117 : lw_okq (⟨"BatchShareModel", "staleMany", "()I"⟩, 50) := ⟨⟨by decide +kernel, by decide +kernel⟩, List.mem_of_getElem? (i := 1092) (by decide +kernel), List.mem_of_getElem? (i := 1757) (by decide +kernel), List.mem_of_getElem? (i := 1758) (by decide +kernel)⟩
theorem lw_p118 : lw_okq (⟨"BatchShareModel", "carriesAll", "(IZ)V"⟩, 50) := ⟨⟨by decide +kernel, by decide +kernel⟩, List.mem_of_getElem? (i := 1092) (by decide +kernel), List.mem_of_getElem? (i := 1769) (by decide +kernel), List.mem_of_getElem? (i := 1770) (by decide +kernel)⟩
theorem lw_p119 : lw_okq (⟨"BatchShareModel", "carries", "(I)I"⟩, 50) := ⟨⟨by decide +kernel, by decide +kernel⟩, List.mem_of_getElem? (i := 1092) (by decide +kernel), List.mem_of_getElem? (i := 1773) (by decide +kernel), List.mem_of_getElem? (i := 1774) (by decide +kernel)⟩
def lw_privs_8 : List (MethodName × Nat) := [(⟨"BatchShareModel", "usesAll", "()V"⟩, 50), (⟨"BatchShareModel", "marksOf", "(IIII)I"⟩, 50), (⟨"BatchShareModel", "markedOf", "(III)I"⟩, 50), (⟨"BatchShareModel", "draws", "(I)I"⟩, 50), (⟨"BatchShareModel", "drifts", "()V"⟩, 50), (⟨"BatchShareModel", "staleMany", "()I"⟩, 50), (⟨"BatchShareModel", "carriesAll", "(IZ)V"⟩, 50), (⟨"BatchShareModel", "carries", "(I)I"⟩, 50)]
theorem lw_r8 : ∀ q ∈ lw_privs_8, lw_okq q := List.forall_mem_cons.mpr ⟨lw_p112, List.forall_mem_cons.mpr ⟨lw_p113, List.forall_mem_cons.mpr ⟨lw_p114, List.forall_mem_cons.mpr ⟨lw_p115, List.forall_mem_cons.mpr ⟨lw_p116, List.forall_mem_cons.mpr ⟨lw_p117, List.forall_mem_cons.mpr ⟨lw_p118, List.forall_mem_cons.mpr ⟨lw_p119, fun _ h => absurd h List.not_mem_nil⟩⟩⟩⟩⟩⟩⟩⟩
def lw_privs : List (MethodName × Nat) := lw_privs_1 ++ (lw_privs_2 ++ (lw_privs_3 ++ (lw_privs_4 ++ (lw_privs_5 ++ (lw_privs_6 ++ (lw_privs_7 ++ (lw_privs_8)))))))
def lw_tbl : List Cond := k2_sels lw_privs ++ tables_1
theorem lw_privs_ok : ∀ q ∈ lw_privs, lw_okq q := by
  show ∀ q ∈ lw_privs_1 ++ (lw_privs_2 ++ (lw_privs_3 ++ (lw_privs_4 ++ (lw_privs_5 ++ (lw_privs_6 ++ (lw_privs_7 ++ (lw_privs_8))))))), lw_okq q
  exact List.forall_mem_append.mpr ⟨lw_r1, List.forall_mem_append.mpr ⟨lw_r2, List.forall_mem_append.mpr ⟨lw_r3, List.forall_mem_append.mpr ⟨lw_r4, List.forall_mem_append.mpr ⟨lw_r5, List.forall_mem_append.mpr ⟨lw_r6, List.forall_mem_append.mpr ⟨lw_r7, lw_r8⟩⟩⟩⟩⟩⟩⟩
end
section
/-! ===== BEGIN words of one list among another's, by their places ===== -/
theorem goodIn_r {big : List Cond} (ws : List Cond) (ps : List Nat) (hp : ws = ps.filterMap (fun i => big[i]?)) (h : ws.all goodWord = true) : GoodIn big ws := by
  intro w hw
  have h1 := List.all_eq_true.mp h w hw
  rw [hp] at hw
  obtain ⟨i, -, hi⟩ := List.mem_filterMap.mp hw
  have hm : w ∈ big := by first | exact List.mem_of_getElem? hi | exact List.getElem?_mem hi
  exact ⟨hm, good_of_word h1⟩
theorem goodIn_app {big a b : List Cond} (ha : GoodIn big a) (hb : GoodIn big b) : GoodIn big (a ++ b) := fun w h => (List.mem_append.mp h).elim (ha w) (hb w)
theorem goodIn_ca {big a b : List Cond} {c : Cond} (ha : GoodIn big (c :: a)) (hb : GoodIn big b) : GoodIn big (c :: (a ++ b)) := fun w h => (List.mem_cons.mp h).elim (fun e => ha w (List.mem_cons.mpr (Or.inl e))) (fun h => (List.mem_append.mp h).elim (fun h => ha w (List.mem_cons.mpr (Or.inr h))) (hb w))
theorem goodIn_sub {big ws : List Cond} (hm : ∀ w ∈ ws, w ∈ big) (h : ws.all goodWord = true) : GoodIn big ws := fun w hw => ⟨hm w hw, good_of_word (List.all_eq_true.mp h w hw)⟩
/-! ===== END ===== -/
def RX0 : String := "BatchShare$Choices"
def TX0 : u_T := fun k => match k with
  | 0 => ("BatchShare$Choices", "parts", "[LBatchShare$Part;", true)
  | 1 => ("BatchShare$Choices", "rows", "[I", true)
  | 2 => ("BatchShare$Choices", "makes", "[I", true)
  | 3 => ("BatchShare$Choices", "wide", "LBatchShare$Part;", true)
  | _ => ("BatchShare$Choices", "size", "I", false)
def tyX0 : Nat → FieldType := fun k => match k with
  | 0 => .array (.object "BatchShare$Part")
  | 1 => .array .int
  | 2 => .array .int
  | 3 => .object "BatchShare$Part"
  | _ => .int
abbrev wsX00 : List Cond := u_ws RX0 TX0 5
theorem nmX0 : ∀ a, a < 5 → ∀ b, b < 5 → a ≠ b → (TX0 a).2.1 ≠ (TX0 b).2.1 := by decide +kernel
theorem tyX0_ok : ∀ k, k < 5 → parseFieldDescriptor (TX0 k).2.2.1 = some (tyX0 k) := by decide +kernel
abbrev cX0_init : ByteArray := prog_2_method_1_code
def yX0_init : MethodName := ⟨RX0, "<init>", "()V"⟩
abbrev cX0_has : ByteArray := prog_2_method_2_code
def yX0_has : MethodName := ⟨RX0, "has", "(I)Z"⟩
abbrev cX0_collect : ByteArray := prog_2_method_3_code
def yX0_collect : MethodName := ⟨RX0, "collect", "([LBatchShare$Query;ILBatchShare$State;)V"⟩
abbrev cX0_addWideOnes : ByteArray := prog_2_method_4_code
def yX0_addWideOnes : MethodName := ⟨RX0, "addWideOnes", "(I)V"⟩
abbrev cX0_addUnlike : ByteArray := prog_2_method_5_code
def yX0_addUnlike : MethodName := ⟨RX0, "addUnlike", "(LBatchShare$Part;)V"⟩
abbrev cX0_measure : ByteArray := prog_2_method_6_code
def yX0_measure : MethodName := ⟨RX0, "measure", "(LBatchShare$State;)V"⟩
def RX1 : String := "BatchShare$Chooser"
def TX1 : u_T := fun k => match k with
  | 0 => ("BatchShare$Chooser", "pricer", "LBatchShare$Pricer;", true)
  | 1 => ("BatchShare$Chooser", "choices", "LBatchShare$Choices;", true)
  | 2 => ("BatchShare$Chooser", "trial", "LBatchShare$Shelf;", true)
  | 3 => ("BatchShare$Chooser", "single", "[I", true)
  | 4 => ("BatchShare$Chooser", "taken", "[I", true)
  | 5 => ("BatchShare$Chooser", "takenSize", "I", false)
  | _ => ("BatchShare$Chooser", "total", "I", false)
def tyX1 : Nat → FieldType := fun k => match k with
  | 0 => .object "BatchShare$Pricer"
  | 1 => .object "BatchShare$Choices"
  | 2 => .object "BatchShare$Shelf"
  | 3 => .array .int
  | 4 => .array .int
  | 5 => .int
  | _ => .int
abbrev wsX10 : List Cond := u_ws RX1 TX1 7
theorem nmX1 : ∀ a, a < 7 → ∀ b, b < 7 → a ≠ b → (TX1 a).2.1 ≠ (TX1 b).2.1 := by decide +kernel
theorem tyX1_ok : ∀ k, k < 7 → parseFieldDescriptor (TX1 k).2.2.1 = some (tyX1 k) := by decide +kernel
abbrev cX1_init : ByteArray := prog_3_method_1_code
def yX1_init : MethodName := ⟨RX1, "<init>", "(LBatchShare$Pricer;LBatchShare$Choices;)V"⟩
abbrev cX1_gainBesides : ByteArray := prog_3_method_2_code
def yX1_gainBesides : MethodName := ⟨RX1, "gainBesides", "(ILBatchShare$Shelf;)I"⟩
abbrev cX1_addToTrial : ByteArray := prog_3_method_3_code
def yX1_addToTrial : MethodName := ⟨RX1, "addToTrial", "(I)V"⟩
abbrev cX1_batchBesides : ByteArray := prog_3_method_4_code
def yX1_batchBesides : MethodName := ⟨RX1, "batchBesides", "(I)I"⟩
abbrev cX1_takeNothing : ByteArray := prog_3_method_5_code
def yX1_takeNothing : MethodName := ⟨RX1, "takeNothing", "()V"⟩
abbrev cX1_takeGreedily : ByteArray := prog_3_method_6_code
def yX1_takeGreedily : MethodName := ⟨RX1, "takeGreedily", "(I)V"⟩
abbrev cX1_greediest : ByteArray := prog_3_method_7_code
def yX1_greediest : MethodName := ⟨RX1, "greediest", "(II)I"⟩
abbrev cX1_takeBest : ByteArray := prog_3_method_8_code
def yX1_takeBest : MethodName := ⟨RX1, "takeBest", "(I)V"⟩
abbrev cX1_takeBestPair : ByteArray := prog_3_method_9_code
def yX1_takeBestPair : MethodName := ⟨RX1, "takeBestPair", "(III)V"⟩
def RX2 : String := "BatchShare$Kept"
def TX2 : u_T := fun k => match k with
  | 0 => ("BatchShare$Kept", "part", "LBatchShare$Part;", true)
  | 1 => ("BatchShare$Kept", "rows", "I", false)
  | 2 => ("BatchShare$Kept", "used", "I", false)
  | _ => ("BatchShare$Kept", "stale", "Z", false)
def tyX2 : Nat → FieldType := fun k => match k with
  | 0 => .object "BatchShare$Part"
  | 1 => .int
  | 2 => .int
  | _ => .boolean
abbrev wsX20 : List Cond := u_ws RX2 TX2 4
theorem nmX2 : ∀ a, a < 4 → ∀ b, b < 4 → a ≠ b → (TX2 a).2.1 ≠ (TX2 b).2.1 := by decide +kernel
theorem tyX2_ok : ∀ k, k < 4 → parseFieldDescriptor (TX2 k).2.2.1 = some (tyX2 k) := by decide +kernel
abbrev cX2_init : ByteArray := prog_4_method_1_code
def yX2_init : MethodName := ⟨RX2, "<init>", "()V"⟩
abbrev cX2_copy : ByteArray := prog_4_method_2_code
def yX2_copy : MethodName := ⟨RX2, "copy", "(LBatchShare$Kept;)V"⟩
def RX3 : String := "BatchShare$Part"
def TX3 : u_T := fun k => match k with
  | _ => ("BatchShare$Part", "told", "[I", true)
def tyX3 : Nat → FieldType := fun k => match k with
  | _ => .array .int
abbrev wsX30 : List Cond := u_ws RX3 TX3 1
theorem nmX3 : ∀ a, a < 1 → ∀ b, b < 1 → a ≠ b → (TX3 a).2.1 ≠ (TX3 b).2.1 := by decide +kernel
theorem tyX3_ok : ∀ k, k < 1 → parseFieldDescriptor (TX3 k).2.2.1 = some (tyX3 k) := by decide +kernel
abbrev cX3_init : ByteArray := prog_5_method_1_code
def yX3_init : MethodName := ⟨RX3, "<init>", "()V"⟩
abbrev cX3_kind : ByteArray := prog_5_method_2_code
def yX3_kind : MethodName := ⟨RX3, "kind", "()I"⟩
abbrev cX3_least : ByteArray := prog_5_method_3_code
def yX3_least : MethodName := ⟨RX3, "least", "(I)I"⟩
abbrev cX3_greatest : ByteArray := prog_5_method_4_code
def yX3_greatest : MethodName := ⟨RX3, "greatest", "(I)I"⟩
abbrev cX3_limit : ByteArray := prog_5_method_5_code
def yX3_limit : MethodName := ⟨RX3, "limit", "(III)V"⟩
abbrev cX3_copy : ByteArray := prog_5_method_6_code
def yX3_copy : MethodName := ⟨RX3, "copy", "(LBatchShare$Part;)V"⟩
abbrev cX3_isLike : ByteArray := prog_5_method_7_code
def yX3_isLike : MethodName := ⟨RX3, "isLike", "(LBatchShare$Part;)Z"⟩
abbrev cX3_isOfSort : ByteArray := prog_5_method_8_code
def yX3_isOfSort : MethodName := ⟨RX3, "isOfSort", "(LBatchShare$Part;)Z"⟩
abbrev cX3_holds : ByteArray := prog_5_method_9_code
def yX3_holds : MethodName := ⟨RX3, "holds", "(LBatchShare$Part;)Z"⟩
abbrev cX3_widen : ByteArray := prog_5_method_10_code
def yX3_widen : MethodName := ⟨RX3, "widen", "(LBatchShare$Part;LBatchShare$Part;)V"⟩
abbrev cX3_isOver : ByteArray := prog_5_method_11_code
def yX3_isOver : MethodName := ⟨RX3, "isOver", "(I)Z"⟩
abbrev cX3_takes : ByteArray := prog_5_method_12_code
def yX3_takes : MethodName := ⟨RX3, "takes", "(LBatchShare$Table;I)Z"⟩
abbrev cX3_takesBoth : ByteArray := prog_5_method_13_code
def yX3_takesBoth : MethodName := ⟨RX3, "takesBoth", "(LBatchShare$State;II)Z"⟩
abbrev cX3_rowsOf : ByteArray := prog_5_method_14_code
def yX3_rowsOf : MethodName := ⟨RX3, "rowsOf", "(LBatchShare$Table;)I"⟩
abbrev cX3_rowsIn : ByteArray := prog_5_method_15_code
def yX3_rowsIn : MethodName := ⟨RX3, "rowsIn", "(LBatchShare$State;)I"⟩
abbrev cX3_makeIn : ByteArray := prog_5_method_16_code
def yX3_makeIn : MethodName := ⟨RX3, "makeIn", "(LBatchShare$State;)I"⟩
abbrev cX3_locate : ByteArray := prog_5_method_17_code
def yX3_locate : MethodName := ⟨RX3, "locate", "(LBatchShare$State;I)I"⟩
def RX4 : String := "BatchShare$Pricer"
def TX4 : u_T := fun k => match k with
  | 0 => ("BatchShare$Pricer", "queries", "[LBatchShare$Query;", true)
  | 1 => ("BatchShare$Pricer", "makes", "[I", true)
  | 2 => ("BatchShare$Pricer", "pairs", "[I", true)
  | 3 => ("BatchShare$Pricer", "serving", "[I", true)
  | 4 => ("BatchShare$Pricer", "size", "I", false)
  | _ => ("BatchShare$Pricer", "struck", "I", false)
def tyX4 : Nat → FieldType := fun k => match k with
  | 0 => .array (.object "BatchShare$Query")
  | 1 => .array .int
  | 2 => .array .int
  | 3 => .array .int
  | 4 => .int
  | _ => .int
abbrev wsX40 : List Cond := u_ws RX4 TX4 6
theorem nmX4 : ∀ a, a < 6 → ∀ b, b < 6 → a ≠ b → (TX4 a).2.1 ≠ (TX4 b).2.1 := by decide +kernel
theorem tyX4_ok : ∀ k, k < 6 → parseFieldDescriptor (TX4 k).2.2.1 = some (tyX4 k) := by decide +kernel
abbrev cX4_init : ByteArray := prog_6_method_1_code
def yX4_init : MethodName := ⟨RX4, "<init>", "([LBatchShare$Query;)V"⟩
abbrev cX4_look : ByteArray := prog_6_method_2_code
def yX4_look : MethodName := ⟨RX4, "look", "(LBatchShare$State;I)V"⟩
abbrev cX4_batchBy : ByteArray := prog_6_method_3_code
def yX4_batchBy : MethodName := ⟨RX4, "batchBy", "(LBatchShare$Shelf;)I"⟩
abbrev cX4_batchUsing : ByteArray := prog_6_method_4_code
def yX4_batchUsing : MethodName := ⟨RX4, "batchUsing", "(LBatchShare$Shelf;I)I"⟩
abbrev cX4_useServing : ByteArray := prog_6_method_5_code
def yX4_useServing : MethodName := ⟨RX4, "useServing", "(LBatchShare$Shelf;I)V"⟩
abbrev cX4_costBy : ByteArray := prog_6_method_6_code
def yX4_costBy : MethodName := ⟨RX4, "costBy", "(ILBatchShare$Shelf;)I"⟩
def RX5 : String := "BatchShare$Query"
def TX5 : u_T := fun k => match k with
  | 0 => ("BatchShare$Query", "told", "[I", true)
  | 1 => ("BatchShare$Query", "parts", "[LBatchShare$Part;", true)
  | _ => ("BatchShare$Query", "isVoid", "Z", false)
def tyX5 : Nat → FieldType := fun k => match k with
  | 0 => .array .int
  | 1 => .array (.object "BatchShare$Part")
  | _ => .boolean
abbrev wsX50 : List Cond := u_ws RX5 TX5 3
theorem nmX5 : ∀ a, a < 3 → ∀ b, b < 3 → a ≠ b → (TX5 a).2.1 ≠ (TX5 b).2.1 := by decide +kernel
theorem tyX5_ok : ∀ k, k < 3 → parseFieldDescriptor (TX5 k).2.2.1 = some (tyX5 k) := by decide +kernel
abbrev cX5_init : ByteArray := prog_7_method_1_code
def yX5_init : MethodName := ⟨RX5, "<init>", "()V"⟩
abbrev cX5_source : ByteArray := prog_7_method_2_code
def yX5_source : MethodName := ⟨RX5, "source", "()I"⟩
abbrev cX5_firstCol : ByteArray := prog_7_method_3_code
def yX5_firstCol : MethodName := ⟨RX5, "firstCol", "()I"⟩
abbrev cX5_lastCol : ByteArray := prog_7_method_4_code
def yX5_lastCol : MethodName := ⟨RX5, "lastCol", "()I"⟩
abbrev cX5_hasPart : ByteArray := prog_7_method_5_code
def yX5_hasPart : MethodName := ⟨RX5, "hasPart", "(I)Z"⟩
abbrev cX5_whole : ByteArray := prog_7_method_6_code
def yX5_whole : MethodName := ⟨RX5, "whole", "()LBatchShare$Part;"⟩
abbrev cX5_joins : ByteArray := prog_7_method_7_code
def yX5_joins : MethodName := ⟨RX5, "joins", "(II)Z"⟩
abbrev cX5_isLike : ByteArray := prog_7_method_8_code
def yX5_isLike : MethodName := ⟨RX5, "isLike", "(LBatchShare$Query;)Z"⟩
abbrev cX5_digestOfForm : ByteArray := prog_7_method_9_code
def yX5_digestOfForm : MethodName := ⟨RX5, "digestOfForm", "()I"⟩
abbrev cX5_begin : ByteArray := prog_7_method_10_code
def yX5_begin : MethodName := ⟨RX5, "begin", "(III)V"⟩
abbrev cX5_showNothing : ByteArray := prog_7_method_11_code
def yX5_showNothing : MethodName := ⟨RX5, "showNothing", "()V"⟩
abbrev cX5_showsAllItCan : ByteArray := prog_7_method_12_code
def yX5_showsAllItCan : MethodName := ⟨RX5, "showsAllItCan", "()Z"⟩
abbrev cX5_show : ByteArray := prog_7_method_13_code
def yX5_show : MethodName := ⟨RX5, "show", "(I)V"⟩
abbrev cX5_narrow : ByteArray := prog_7_method_14_code
def yX5_narrow : MethodName := ⟨RX5, "narrow", "(III)V"⟩
abbrev cX5_finish : ByteArray := prog_7_method_15_code
def yX5_finish : MethodName := ⟨RX5, "finish", "()V"⟩
abbrev cX5_shapePart : ByteArray := prog_7_method_16_code
def yX5_shapePart : MethodName := ⟨RX5, "shapePart", "(LBatchShare$Part;I)V"⟩
def RX6 : String := "BatchShare$Reader"
def TX6 : u_T := fun k => match k with
  | 0 => ("BatchShare$Reader", "bytes", "[I", true)
  | 1 => ("BatchShare$Reader", "length", "I", false)
  | 2 => ("BatchShare$Reader", "at", "I", false)
  | 3 => ("BatchShare$Reader", "fault", "I", false)
  | _ => ("BatchShare$Reader", "tests", "I", false)
def tyX6 : Nat → FieldType := fun k => match k with
  | 0 => .array .int
  | 1 => .int
  | 2 => .int
  | 3 => .int
  | _ => .int
abbrev wsX60 : List Cond := u_ws RX6 TX6 5
theorem nmX6 : ∀ a, a < 5 → ∀ b, b < 5 → a ≠ b → (TX6 a).2.1 ≠ (TX6 b).2.1 := by decide +kernel
theorem tyX6_ok : ∀ k, k < 5 → parseFieldDescriptor (TX6 k).2.2.1 = some (tyX6 k) := by decide +kernel
abbrev cX6_init : ByteArray := prog_8_method_1_code
def yX6_init : MethodName := ⟨RX6, "<init>", "([I)V"⟩
abbrev cX6_readBase : ByteArray := prog_8_method_2_code
def yX6_readBase : MethodName := ⟨RX6, "readBase", "(ILBatchShare$State;)I"⟩
abbrev cX6_readClause : ByteArray := prog_8_method_3_code
def yX6_readClause : MethodName := ⟨RX6, "readClause", "(ILBatchShare$State;)V"⟩
abbrev cX6_readRow : ByteArray := prog_8_method_4_code
def yX6_readRow : MethodName := ⟨RX6, "readRow", "(LBatchShare$Table;IZ)V"⟩
abbrev cX6_readQuery : ByteArray := prog_8_method_5_code
def yX6_readQuery : MethodName := ⟨RX6, "readQuery", "(ILBatchShare$Query;)I"⟩
abbrev cX6_readSource : ByteArray := prog_8_method_6_code
def yX6_readSource : MethodName := ⟨RX6, "readSource", "(LBatchShare$Query;)V"⟩
abbrev cX6_readTests : ByteArray := prog_8_method_7_code
def yX6_readTests : MethodName := ⟨RX6, "readTests", "(LBatchShare$Query;)V"⟩
abbrev cX6_readTest : ByteArray := prog_8_method_8_code
def yX6_readTest : MethodName := ⟨RX6, "readTest", "(LBatchShare$Query;)V"⟩
abbrev cX6_readShown : ByteArray := prog_8_method_9_code
def yX6_readShown : MethodName := ⟨RX6, "readShown", "(LBatchShare$Query;)V"⟩
abbrev cX6_open : ByteArray := prog_8_method_10_code
def yX6_open : MethodName := ⟨RX6, "open", "(I)V"⟩
abbrev cX6_close : ByteArray := prog_8_method_11_code
def yX6_close : MethodName := ⟨RX6, "close", "()V"⟩
abbrev cX6_fail : ByteArray := prog_8_method_12_code
def yX6_fail : MethodName := ⟨RX6, "fail", "(II)V"⟩
abbrev cX6_place : ByteArray := prog_8_method_13_code
def yX6_place : MethodName := ⟨RX6, "place", "()I"⟩
abbrev cX6_takeByte : ByteArray := prog_8_method_14_code
def yX6_takeByte : MethodName := ⟨RX6, "takeByte", "(C)Z"⟩
abbrev cX6_wordLength : ByteArray := prog_8_method_15_code
def yX6_wordLength : MethodName := ⟨RX6, "wordLength", "()I"⟩
abbrev cX6_takeWord : ByteArray := prog_8_method_16_code
def yX6_takeWord : MethodName := ⟨RX6, "takeWord", "(Ljava/lang/String;)Z"⟩
abbrev cX6_takeCol : ByteArray := prog_8_method_17_code
def yX6_takeCol : MethodName := ⟨RX6, "takeCol", "(II)I"⟩
abbrev cX6_takeSigns : ByteArray := prog_8_method_18_code
def yX6_takeSigns : MethodName := ⟨RX6, "takeSigns", "()I"⟩
abbrev cX6_takeNumber : ByteArray := prog_8_method_19_code
def yX6_takeNumber : MethodName := ⟨RX6, "takeNumber", "(I)I"⟩
def RX7 : String := "BatchShare$Shelf"
def TX7 : u_T := fun k => match k with
  | 0 => ("BatchShare$Shelf", "items", "[LBatchShare$Kept;", true)
  | _ => ("BatchShare$Shelf", "size", "I", false)
def tyX7 : Nat → FieldType := fun k => match k with
  | 0 => .array (.object "BatchShare$Kept")
  | _ => .int
abbrev wsX70 : List Cond := u_ws RX7 TX7 2
theorem nmX7 : ∀ a, a < 2 → ∀ b, b < 2 → a ≠ b → (TX7 a).2.1 ≠ (TX7 b).2.1 := by decide +kernel
theorem tyX7_ok : ∀ k, k < 2 → parseFieldDescriptor (TX7 k).2.2.1 = some (tyX7 k) := by decide +kernel
abbrev cX7_init : ByteArray := prog_9_method_1_code
def yX7_init : MethodName := ⟨RX7, "<init>", "(I)V"⟩
abbrev cX7_copy : ByteArray := prog_9_method_2_code
def yX7_copy : MethodName := ⟨RX7, "copy", "(LBatchShare$Shelf;)V"⟩
abbrev cX7_clear : ByteArray := prog_9_method_3_code
def yX7_clear : MethodName := ⟨RX7, "clear", "()V"⟩
abbrev cX7_add : ByteArray := prog_9_method_4_code
def yX7_add : MethodName := ⟨RX7, "add", "(LBatchShare$Part;II)V"⟩
abbrev cX7_drop : ByteArray := prog_9_method_5_code
def yX7_drop : MethodName := ⟨RX7, "drop", "(I)V"⟩
abbrev cX7_has : ByteArray := prog_9_method_6_code
def yX7_has : MethodName := ⟨RX7, "has", "(LBatchShare$Part;)Z"⟩
abbrev cX7_rowsOfAll : ByteArray := prog_9_method_7_code
def yX7_rowsOfAll : MethodName := ⟨RX7, "rowsOfAll", "()I"⟩
abbrev cX7_staleOnes : ByteArray := prog_9_method_8_code
def yX7_staleOnes : MethodName := ⟨RX7, "staleOnes", "()I"⟩
abbrev cX7_leastUsed : ByteArray := prog_9_method_9_code
def yX7_leastUsed : MethodName := ⟨RX7, "leastUsed", "()I"⟩
abbrev cX7_spoil : ByteArray := prog_9_method_10_code
def yX7_spoil : MethodName := ⟨RX7, "spoil", "(ILBatchShare$Table;I)V"⟩
abbrev cX7_leastHolding : ByteArray := prog_9_method_11_code
def yX7_leastHolding : MethodName := ⟨RX7, "leastHolding", "(LBatchShare$Part;I)I"⟩
def RX8 : String := "BatchShare$State"
def TX8 : u_T := fun k => match k with
  | 0 => ("BatchShare$State", "tables", "[LBatchShare$Table;", true)
  | 1 => ("BatchShare$State", "shelf", "LBatchShare$Shelf;", true)
  | 2 => ("BatchShare$State", "hasBase", "Z", false)
  | 3 => ("BatchShare$State", "memory", "I", false)
  | 4 => ("BatchShare$State", "struck", "I", false)
  | 5 => ("BatchShare$State", "spent", "I", false)
  | _ => ("BatchShare$State", "time", "I", false)
def tyX8 : Nat → FieldType := fun k => match k with
  | 0 => .array (.object "BatchShare$Table")
  | 1 => .object "BatchShare$Shelf"
  | 2 => .boolean
  | 3 => .int
  | 4 => .int
  | 5 => .int
  | _ => .int
abbrev wsX80 : List Cond := u_ws RX8 TX8 7
theorem nmX8 : ∀ a, a < 7 → ∀ b, b < 7 → a ≠ b → (TX8 a).2.1 ≠ (TX8 b).2.1 := by decide +kernel
theorem tyX8_ok : ∀ k, k < 7 → parseFieldDescriptor (TX8 k).2.2.1 = some (tyX8 k) := by decide +kernel
abbrev cX8_init : ByteArray := prog_10_method_1_code
def yX8_init : MethodName := ⟨RX8, "<init>", "()V"⟩
abbrev cX8_clear : ByteArray := prog_10_method_2_code
def yX8_clear : MethodName := ⟨RX8, "clear", "()V"⟩
abbrev cX8_copy : ByteArray := prog_10_method_3_code
def yX8_copy : MethodName := ⟨RX8, "copy", "(LBatchShare$State;)V"⟩
abbrev cX8_isStruck : ByteArray := prog_10_method_4_code
def yX8_isStruck : MethodName := ⟨RX8, "isStruck", "(I)Z"⟩
abbrev cX8_replace : ByteArray := prog_10_method_5_code
def yX8_replace : MethodName := ⟨RX8, "replace", "(IIII)V"⟩
abbrev cX8_makeRoom : ByteArray := prog_10_method_6_code
def yX8_makeRoom : MethodName := ⟨RX8, "makeRoom", "(I)I"⟩
abbrev cX8_lacksRoom : ByteArray := prog_10_method_7_code
def yX8_lacksRoom : MethodName := ⟨RX8, "lacksRoom", "(I)Z"⟩
abbrev cX8_makeAnew : ByteArray := prog_10_method_8_code
def yX8_makeAnew : MethodName := ⟨RX8, "makeAnew", "(I)Z"⟩
def RX9 : String := "BatchShare$Table"
def TX9 : u_T := fun k => match k with
  | 0 => ("BatchShare$Table", "firstCol", "I", true)
  | 1 => ("BatchShare$Table", "width", "I", true)
  | 2 => ("BatchShare$Table", "cells", "[I", true)
  | _ => ("BatchShare$Table", "size", "I", false)
def tyX9 : Nat → FieldType := fun k => match k with
  | 0 => .int
  | 1 => .int
  | 2 => .array .int
  | _ => .int
abbrev wsX90 : List Cond := u_ws RX9 TX9 4
theorem nmX9 : ∀ a, a < 4 → ∀ b, b < 4 → a ≠ b → (TX9 a).2.1 ≠ (TX9 b).2.1 := by decide +kernel
theorem tyX9_ok : ∀ k, k < 4 → parseFieldDescriptor (TX9 k).2.2.1 = some (tyX9 k) := by decide +kernel
abbrev cX9_init : ByteArray := prog_11_method_1_code
def yX9_init : MethodName := ⟨RX9, "<init>", "(III)V"⟩
abbrev cX9_isFull : ByteArray := prog_11_method_2_code
def yX9_isFull : MethodName := ⟨RX9, "isFull", "()Z"⟩
abbrev cX9_hasRow : ByteArray := prog_11_method_3_code
def yX9_hasRow : MethodName := ⟨RX9, "hasRow", "(I)Z"⟩
abbrev cX9_hasCol : ByteArray := prog_11_method_4_code
def yX9_hasCol : MethodName := ⟨RX9, "hasCol", "(I)Z"⟩
abbrev cX9_at : ByteArray := prog_11_method_5_code
def yX9_at : MethodName := ⟨RX9, "at", "(II)I"⟩
abbrev cX9_write : ByteArray := prog_11_method_6_code
def yX9_write : MethodName := ⟨RX9, "write", "(III)V"⟩
abbrev cX9_append : ByteArray := prog_11_method_7_code
def yX9_append : MethodName := ⟨RX9, "append", "(III)V"⟩
abbrev cX9_drop : ByteArray := prog_11_method_8_code
def yX9_drop : MethodName := ⟨RX9, "drop", "(I)V"⟩
abbrev cX9_copy : ByteArray := prog_11_method_9_code
def yX9_copy : MethodName := ⟨RX9, "copy", "(LBatchShare$Table;)V"⟩
def RX10 : String := "BatchShare$World"
def TX10 : u_T := fun k => match k with
  | 0 => ("BatchShare$World", "now", "LBatchShare$State;", true)
  | 1 => ("BatchShare$World", "past", "[LBatchShare$State;", true)
  | 2 => ("BatchShare$World", "pastFirst", "I", false)
  | 3 => ("BatchShare$World", "pastSize", "I", false)
  | _ => ("BatchShare$World", "x", "I", false)
def tyX10 : Nat → FieldType := fun k => match k with
  | 0 => .object "BatchShare$State"
  | 1 => .array (.object "BatchShare$State")
  | 2 => .int
  | 3 => .int
  | _ => .int
abbrev wsX100 : List Cond := u_ws RX10 TX10 5
theorem nmX10 : ∀ a, a < 5 → ∀ b, b < 5 → a ≠ b → (TX10 a).2.1 ≠ (TX10 b).2.1 := by decide +kernel
theorem tyX10_ok : ∀ k, k < 5 → parseFieldDescriptor (TX10 k).2.2.1 = some (tyX10 k) := by decide +kernel
abbrev cX10_init : ByteArray := prog_12_method_1_code
def yX10_init : MethodName := ⟨RX10, "<init>", "()V"⟩
abbrev cX10_copy : ByteArray := prog_12_method_2_code
def yX10_copy : MethodName := ⟨RX10, "copy", "(LBatchShare$World;)V"⟩
abbrev cX10_beginWith : ByteArray := prog_12_method_3_code
def yX10_beginWith : MethodName := ⟨RX10, "beginWith", "(LBatchShare$State;)V"⟩
abbrev cX10_remember : ByteArray := prog_12_method_4_code
def yX10_remember : MethodName := ⟨RX10, "remember", "()V"⟩
abbrev cX10_add : ByteArray := prog_12_method_5_code
def yX10_add : MethodName := ⟨RX10, "add", "(LBatchShare$State;)V"⟩
abbrev cX10_goBack : ByteArray := prog_12_method_6_code
def yX10_goBack : MethodName := ⟨RX10, "goBack", "()I"⟩
abbrev cX10_draw : ByteArray := prog_12_method_7_code
def yX10_draw : MethodName := ⟨RX10, "draw", "()I"⟩
def RX11 : String := "BatchShare"
def TX11 : u_T := fun k => match k with
  | 0 => ("BatchShare", "tape", "[I", true)
  | 1 => ("BatchShare", "tapeLength", "I", false)
  | 2 => ("BatchShare", "reader", "LBatchShare$Reader;", true)
  | 3 => ("BatchShare", "queries", "[LBatchShare$Query;", true)
  | 4 => ("BatchShare", "queryCount", "I", false)
  | 5 => ("BatchShare", "world", "LBatchShare$World;", true)
  | 6 => ("BatchShare", "images", "[LBatchShare$World;", true)
  | 7 => ("BatchShare", "draft", "LBatchShare$State;", true)
  | 8 => ("BatchShare", "pricer", "LBatchShare$Pricer;", true)
  | 9 => ("BatchShare", "choices", "LBatchShare$Choices;", true)
  | 10 => ("BatchShare", "chooser", "LBatchShare$Chooser;", true)
  | _ => ("BatchShare", "bare", "LBatchShare$Shelf;", true)
def tyX11 : Nat → FieldType := fun k => match k with
  | 0 => .array .int
  | 1 => .int
  | 2 => .object "BatchShare$Reader"
  | 3 => .array (.object "BatchShare$Query")
  | 4 => .int
  | 5 => .object "BatchShare$World"
  | 6 => .array (.object "BatchShare$World")
  | 7 => .object "BatchShare$State"
  | 8 => .object "BatchShare$Pricer"
  | 9 => .object "BatchShare$Choices"
  | 10 => .object "BatchShare$Chooser"
  | _ => .object "BatchShare$Shelf"
abbrev wsX110 : List Cond := u_ws RX11 TX11 12
theorem nmX11 : ∀ a, a < 12 → ∀ b, b < 12 → a ≠ b → (TX11 a).2.1 ≠ (TX11 b).2.1 := by decide +kernel
theorem tyX11_ok : ∀ k, k < 12 → parseFieldDescriptor (TX11 k).2.2.1 = some (tyX11 k) := by decide +kernel
abbrev cX11_init : ByteArray := prog_1_method_1_code
def yX11_init : MethodName := ⟨RX11, "<init>", "()V"⟩
abbrev cX11_feed : ByteArray := prog_1_method_2_code
def yX11_feed : MethodName := ⟨RX11, "feed", "(IIIII)I"⟩
abbrev cX11_end : ByteArray := prog_1_method_3_code
def yX11_end : MethodName := ⟨RX11, "end", "(I)I"⟩
abbrev cX11_base : ByteArray := prog_1_method_4_code
def yX11_base : MethodName := ⟨RX11, "base", "()I"⟩
abbrev cX11_query : ByteArray := prog_1_method_5_code
def yX11_query : MethodName := ⟨RX11, "query", "()I"⟩
abbrev cX11_cell : ByteArray := prog_1_method_6_code
def yX11_cell : MethodName := ⟨RX11, "cell", "(III)I"⟩
abbrev cX11_form : ByteArray := prog_1_method_7_code
def yX11_form : MethodName := ⟨RX11, "form", "(II)I"⟩
abbrev cX11_digest : ByteArray := prog_1_method_8_code
def yX11_digest : MethodName := ⟨RX11, "digest", "(I)I"⟩
abbrev cX11_alike : ByteArray := prog_1_method_9_code
def yX11_alike : MethodName := ⟨RX11, "alike", "(I)I"⟩
abbrev cX11_answer : ByteArray := prog_1_method_10_code
def yX11_answer : MethodName := ⟨RX11, "answer", "(III)I"⟩
abbrev cX11_alone : ByteArray := prog_1_method_11_code
def yX11_alone : MethodName := ⟨RX11, "alone", "(I)I"⟩
abbrev cX11_candidates : ByteArray := prog_1_method_12_code
def yX11_candidates : MethodName := ⟨RX11, "candidates", "()I"⟩
abbrev cX11_candidate : ByteArray := prog_1_method_13_code
def yX11_candidate : MethodName := ⟨RX11, "candidate", "(II)I"⟩
abbrev cX11_gain : ByteArray := prog_1_method_14_code
def yX11_gain : MethodName := ⟨RX11, "gain", "(I)I"⟩
abbrev cX11_greedy : ByteArray := prog_1_method_15_code
def yX11_greedy : MethodName := ⟨RX11, "greedy", "(I)I"⟩
abbrev cX11_best : ByteArray := prog_1_method_16_code
def yX11_best : MethodName := ⟨RX11, "best", "(I)I"⟩
abbrev cX11_put : ByteArray := prog_1_method_17_code
def yX11_put : MethodName := ⟨RX11, "put", "(IIII)I"⟩
abbrev cX11_remove : ByteArray := prog_1_method_18_code
def yX11_remove : MethodName := ⟨RX11, "remove", "(II)I"⟩
abbrev cX11_change : ByteArray := prog_1_method_19_code
def yX11_change : MethodName := ⟨RX11, "change", "(IIII)I"⟩
abbrev cX11_strike : ByteArray := prog_1_method_20_code
def yX11_strike : MethodName := ⟨RX11, "strike", "(I)I"⟩
abbrev cX11_keep : ByteArray := prog_1_method_21_code
def yX11_keep : MethodName := ⟨RX11, "keep", "(I)I"⟩
abbrev cX11_forget : ByteArray := prog_1_method_22_code
def yX11_forget : MethodName := ⟨RX11, "forget", "(I)I"⟩
abbrev cX11_refresh : ByteArray := prog_1_method_23_code
def yX11_refresh : MethodName := ⟨RX11, "refresh", "(I)I"⟩
abbrev cX11_run : ByteArray := prog_1_method_24_code
def yX11_run : MethodName := ⟨RX11, "run", "()I"⟩
abbrev cX11_undo : ByteArray := prog_1_method_25_code
def yX11_undo : MethodName := ⟨RX11, "undo", "()I"⟩
abbrev cX11_kept : ByteArray := prog_1_method_26_code
def yX11_kept : MethodName := ⟨RX11, "kept", "(II)I"⟩
abbrev cX11_batch : ByteArray := prog_1_method_27_code
def yX11_batch : MethodName := ⟨RX11, "batch", "()I"⟩
abbrev cX11_costs : ByteArray := prog_1_method_28_code
def yX11_costs : MethodName := ⟨RX11, "costs", "(I)I"⟩
abbrev cX11_serves : ByteArray := prog_1_method_29_code
def yX11_serves : MethodName := ⟨RX11, "serves", "(II)I"⟩
abbrev cX11_marks : ByteArray := prog_1_method_30_code
def yX11_marks : MethodName := ⟨RX11, "marks", "(II)I"⟩
abbrev cX11_shared : ByteArray := prog_1_method_31_code
def yX11_shared : MethodName := ⟨RX11, "shared", "()I"⟩
abbrev cX11_residue : ByteArray := prog_1_method_32_code
def yX11_residue : MethodName := ⟨RX11, "residue", "(II)I"⟩
abbrev cX11_drift : ByteArray := prog_1_method_33_code
def yX11_drift : MethodName := ⟨RX11, "drift", "(IIII)I"⟩
abbrev cX11_seed : ByteArray := prog_1_method_34_code
def yX11_seed : MethodName := ⟨RX11, "seed", "(I)I"⟩
abbrev cX11_count : ByteArray := prog_1_method_35_code
def yX11_count : MethodName := ⟨RX11, "count", "(I)I"⟩
abbrev cX11_image : ByteArray := prog_1_method_36_code
def yX11_image : MethodName := ⟨RX11, "image", "(I)I"⟩
abbrev cX11_back : ByteArray := prog_1_method_37_code
def yX11_back : MethodName := ⟨RX11, "back", "(I)I"⟩
abbrev cX11_addBytes : ByteArray := prog_1_method_38_code
def yX11_addBytes : MethodName := ⟨RX11, "addBytes", "(I)V"⟩
abbrev cX11_hasQuery : ByteArray := prog_1_method_39_code
def yX11_hasQuery : MethodName := ⟨RX11, "hasQuery", "(I)Z"⟩
abbrev cX11_hasKept : ByteArray := prog_1_method_40_code
def yX11_hasKept : MethodName := ⟨RX11, "hasKept", "(I)Z"⟩
abbrev cX11_hasRow : ByteArray := prog_1_method_41_code
def yX11_hasRow : MethodName := ⟨RX11, "hasRow", "(II)Z"⟩
abbrev cX11_hasCell : ByteArray := prog_1_method_42_code
def yX11_hasCell : MethodName := ⟨RX11, "hasCell", "(III)Z"⟩
abbrev cX11_isTable : ByteArray := prog_1_method_43_code
def yX11_isTable : MethodName := ⟨RX11, "isTable", "(I)Z"⟩
abbrev cX11_isNumber : ByteArray := prog_1_method_44_code
def yX11_isNumber : MethodName := ⟨RX11, "isNumber", "(I)Z"⟩
abbrev cX11_isLive : ByteArray := prog_1_method_45_code
def yX11_isLive : MethodName := ⟨RX11, "isLive", "(I)Z"⟩
abbrev cX11_lookAtChoices : ByteArray := prog_1_method_46_code
def yX11_lookAtChoices : MethodName := ⟨RX11, "lookAtChoices", "()V"⟩
abbrev cX11_queriesWith : ByteArray := prog_1_method_47_code
def yX11_queriesWith : MethodName := ⟨RX11, "queriesWith", "(I)I"⟩
abbrev cX11_queriesJoining : ByteArray := prog_1_method_48_code
def yX11_queriesJoining : MethodName := ⟨RX11, "queriesJoining", "(II)I"⟩
abbrev cX11_marksOf : ByteArray := prog_1_method_49_code
def yX11_marksOf : MethodName := ⟨RX11, "marksOf", "(II)I"⟩
abbrev cX11_markedRows : ByteArray := prog_1_method_50_code
def yX11_markedRows : MethodName := ⟨RX11, "markedRows", "(II)I"⟩
abbrev cX11_driftOnce : ByteArray := prog_1_method_51_code
def yX11_driftOnce : MethodName := ⟨RX11, "driftOnce", "(I)V"⟩
def RX12 : String := "BatchShareModel"
def TX12 : u_T := fun k => match k with
  | 0 => ("BatchShareModel", "thrown", "I", false)
  | 1 => ("BatchShareModel", "scalar", "[I", true)
  | 2 => ("BatchShareModel", "cellR", "[I", true)
  | 3 => ("BatchShareModel", "cellS", "[I", true)
  | 4 => ("BatchShareModel", "newR", "[I", true)
  | 5 => ("BatchShareModel", "newS", "[I", true)
  | 6 => ("BatchShareModel", "newMemory", "I", false)
  | 7 => ("BatchShareModel", "newManyR", "I", false)
  | 8 => ("BatchShareModel", "newManyS", "I", false)
  | 9 => ("BatchShareModel", "keptOnes", "[I", true)
  | 10 => ("BatchShareModel", "queries", "I", false)
  | 11 => ("BatchShareModel", "source", "[I", true)
  | 12 => ("BatchShareModel", "joinsR", "[I", true)
  | 13 => ("BatchShareModel", "joinsS", "[I", true)
  | 14 => ("BatchShareModel", "low", "[I", true)
  | 15 => ("BatchShareModel", "high", "[I", true)
  | 16 => ("BatchShareModel", "shownMany", "[I", true)
  | 17 => ("BatchShareModel", "shown", "[I", true)
  | 18 => ("BatchShareModel", "taped", "I", false)
  | 19 => ("BatchShareModel", "p", "I", false)
  | 20 => ("BatchShareModel", "fault", "I", false)
  | 21 => ("BatchShareModel", "tape", "[B", true)
  | 22 => ("BatchShareModel", "at", "I", false)
  | 23 => ("BatchShareModel", "tests", "I", false)
  | 24 => ("BatchShareModel", "foundR", "I", false)
  | 25 => ("BatchShareModel", "foundS", "I", false)
  | 26 => ("BatchShareModel", "part", "[I", true)
  | 27 => ("BatchShareModel", "rowsOf", "[I", true)
  | 28 => ("BatchShareModel", "makeOf", "[I", true)
  | 29 => ("BatchShareModel", "candidate", "[I", true)
  | 30 => ("BatchShareModel", "makes", "[I", true)
  | 31 => ("BatchShareModel", "candidatesMany", "I", false)
  | 32 => ("BatchShareModel", "partsMany", "I", false)
  | 33 => ("BatchShareModel", "taken", "[I", true)
  | 34 => ("BatchShareModel", "takenMany", "I", false)
  | 35 => ("BatchShareModel", "chosen", "[I", true)
  | 36 => ("BatchShareModel", "chosenMany", "I", false)
  | 37 => ("BatchShareModel", "chosenGain", "I", false)
  | 38 => ("BatchShareModel", "chosenRows", "I", false)
  | 39 => ("BatchShareModel", "bestGain", "I", false)
  | 40 => ("BatchShareModel", "bestOne", "I", false)
  | 41 => ("BatchShareModel", "bestOther", "I", false)
  | 42 => ("BatchShareModel", "past", "[I", true)
  | 43 => ("BatchShareModel", "pastMany", "I", false)
  | 44 => ("BatchShareModel", "pastAt", "I", false)
  | 45 => ("BatchShareModel", "takesBack", "Z", false)
  | 46 => ("BatchShareModel", "images", "[I", true)
  | 47 => ("BatchShareModel", "isMade", "[Z", true)
  | 48 => ("BatchShareModel", "imageAt", "I", false)
  | _ => ("BatchShareModel", "goesBack", "Z", false)
def tyX12 : Nat → FieldType := fun k => match k with
  | 0 => .int
  | 1 => .array .int
  | 2 => .array .int
  | 3 => .array .int
  | 4 => .array .int
  | 5 => .array .int
  | 6 => .int
  | 7 => .int
  | 8 => .int
  | 9 => .array .int
  | 10 => .int
  | 11 => .array .int
  | 12 => .array .int
  | 13 => .array .int
  | 14 => .array .int
  | 15 => .array .int
  | 16 => .array .int
  | 17 => .array .int
  | 18 => .int
  | 19 => .int
  | 20 => .int
  | 21 => .array .byte
  | 22 => .int
  | 23 => .int
  | 24 => .int
  | 25 => .int
  | 26 => .array .int
  | 27 => .array .int
  | 28 => .array .int
  | 29 => .array .int
  | 30 => .array .int
  | 31 => .int
  | 32 => .int
  | 33 => .array .int
  | 34 => .int
  | 35 => .array .int
  | 36 => .int
  | 37 => .int
  | 38 => .int
  | 39 => .int
  | 40 => .int
  | 41 => .int
  | 42 => .array .int
  | 43 => .int
  | 44 => .int
  | 45 => .boolean
  | 46 => .array .int
  | 47 => .array .boolean
  | 48 => .int
  | _ => .boolean
abbrev wsX120 : List Cond := u_ws RX12 TX12 50
theorem nmX12 : ∀ a, a < 50 → ∀ b, b < 50 → a ≠ b → (TX12 a).2.1 ≠ (TX12 b).2.1 := by decide +kernel
theorem tyX12_ok : ∀ k, k < 50 → parseFieldDescriptor (TX12 k).2.2.1 = some (tyX12 k) := by decide +kernel
abbrev cX12_init : ByteArray := prog_14_method_1_code
def yX12_init : MethodName := ⟨RX12, "<init>", "()V"⟩
abbrev cX12_in : ByteArray := prog_14_method_3_code
def yX12_in : MethodName := ⟨RX12, "in", "(JJJ)Z"⟩
abbrev cX12_bits : ByteArray := prog_14_method_4_code
def yX12_bits : MethodName := ⟨RX12, "bits", "(I)I"⟩
abbrev cX12_has : ByteArray := prog_14_method_5_code
def yX12_has : MethodName := ⟨RX12, "has", "(II)Z"⟩
abbrev cX12_isBase : ByteArray := prog_14_method_6_code
def yX12_isBase : MethodName := ⟨RX12, "isBase", "()Z"⟩
abbrev cX12_manyOf : ByteArray := prog_14_method_7_code
def yX12_manyOf : MethodName := ⟨RX12, "manyOf", "(I)I"⟩
abbrev cX12_isRow : ByteArray := prog_14_method_8_code
def yX12_isRow : MethodName := ⟨RX12, "isRow", "(II)Z"⟩
abbrev cX12_numberAt : ByteArray := prog_14_method_9_code
def yX12_numberAt : MethodName := ⟨RX12, "numberAt", "(II)I"⟩
abbrev cX12_isQuery : ByteArray := prog_14_method_10_code
def yX12_isQuery : MethodName := ⟨RX12, "isQuery", "(I)Z"⟩
abbrev cX12_isVoid : ByteArray := prog_14_method_11_code
def yX12_isVoid : MethodName := ⟨RX12, "isVoid", "(I)Z"⟩
abbrev cX12_isOn : ByteArray := prog_14_method_12_code
def yX12_isOn : MethodName := ⟨RX12, "isOn", "(I)Z"⟩
abbrev cX12_hasKind : ByteArray := prog_14_method_13_code
def yX12_hasKind : MethodName := ⟨RX12, "hasKind", "(II)Z"⟩
abbrev cX12_isOf : ByteArray := prog_14_method_14_code
def yX12_isOf : MethodName := ⟨RX12, "isOf", "(II)Z"⟩
abbrev cX12_feed : ByteArray := prog_14_method_15_code
def yX12_feed : MethodName := ⟨RX12, "feed", "(IIIII)I"⟩
abbrev cX12_put4 : ByteArray := prog_14_method_16_code
def yX12_put4 : MethodName := ⟨RX12, "put4", "(I)V"⟩
abbrev cX12_end : ByteArray := prog_14_method_17_code
def yX12_end : MethodName := ⟨RX12, "end", "(I)I"⟩
abbrev cX12_fails : ByteArray := prog_14_method_18_code
def yX12_fails : MethodName := ⟨RX12, "fails", "(II)V"⟩
abbrev cX12_sign : ByteArray := prog_14_method_19_code
def yX12_sign : MethodName := ⟨RX12, "sign", "()I"⟩
abbrev cX12_isDigit : ByteArray := prog_14_method_20_code
def yX12_isDigit : MethodName := ⟨RX12, "isDigit", "()Z"⟩
abbrev cX12_amount : ByteArray := prog_14_method_21_code
def yX12_amount : MethodName := ⟨RX12, "amount", "(II)I"⟩
abbrev cX12_stood : ByteArray := prog_14_method_22_code
def yX12_stood : MethodName := ⟨RX12, "stood", "(Ljava/lang/String;)Z"⟩
abbrev cX12_takes : ByteArray := prog_14_method_23_code
def yX12_takes : MethodName := ⟨RX12, "takes", "(Ljava/lang/String;)Z"⟩
abbrev cX12_rowPart : ByteArray := prog_14_method_24_code
def yX12_rowPart : MethodName := ⟨RX12, "rowPart", "(Z)V"⟩
abbrev cX12_baseClause : ByteArray := prog_14_method_25_code
def yX12_baseClause : MethodName := ⟨RX12, "baseClause", "(I)V"⟩
abbrev cX12_isMore : ByteArray := prog_14_method_26_code
def yX12_isMore : MethodName := ⟨RX12, "isMore", "()Z"⟩
abbrev cX12_copies : ByteArray := prog_14_method_27_code
def yX12_copies : MethodName := ⟨RX12, "copies", "([I[I)V"⟩
abbrev cX12_base : ByteArray := prog_14_method_28_code
def yX12_base : MethodName := ⟨RX12, "base", "()I"⟩
abbrev cX12_column : ByteArray := prog_14_method_29_code
def yX12_column : MethodName := ⟨RX12, "column", "(ZZ)I"⟩
abbrev cX12_columnOf : ByteArray := prog_14_method_30_code
def yX12_columnOf : MethodName := ⟨RX12, "columnOf", "()I"⟩
abbrev cX12_sourcePart : ByteArray := prog_14_method_31_code
def yX12_sourcePart : MethodName := ⟨RX12, "sourcePart", "()V"⟩
abbrev cX12_bounds : ByteArray := prog_14_method_32_code
def yX12_bounds : MethodName := ⟨RX12, "bounds", "(III)V"⟩
abbrev cX12_testPart : ByteArray := prog_14_method_33_code
def yX12_testPart : MethodName := ⟨RX12, "testPart", "()V"⟩
abbrev cX12_testsPart : ByteArray := prog_14_method_34_code
def yX12_testsPart : MethodName := ⟨RX12, "testsPart", "()V"⟩
abbrev cX12_showPart : ByteArray := prog_14_method_35_code
def yX12_showPart : MethodName := ⟨RX12, "showPart", "()V"⟩
abbrev cX12_stepsPart : ByteArray := prog_14_method_36_code
def yX12_stepsPart : MethodName := ⟨RX12, "stepsPart", "()V"⟩
abbrev cX12_showsAll : ByteArray := prog_14_method_37_code
def yX12_showsAll : MethodName := ⟨RX12, "showsAll", "()V"⟩
abbrev cX12_voids : ByteArray := prog_14_method_38_code
def yX12_voids : MethodName := ⟨RX12, "voids", "()V"⟩
abbrev cX12_query : ByteArray := prog_14_method_39_code
def yX12_query : MethodName := ⟨RX12, "query", "()I"⟩
abbrev cX12_cell : ByteArray := prog_14_method_40_code
def yX12_cell : MethodName := ⟨RX12, "cell", "(III)I"⟩
abbrev cX12_boundOf : ByteArray := prog_14_method_41_code
def yX12_boundOf : MethodName := ⟨RX12, "boundOf", "(II)I"⟩
abbrev cX12_form : ByteArray := prog_14_method_42_code
def yX12_form : MethodName := ⟨RX12, "form", "(II)I"⟩
abbrev cX12_digests : ByteArray := prog_14_method_43_code
def yX12_digests : MethodName := ⟨RX12, "digests", "(II)I"⟩
abbrev cX12_digest : ByteArray := prog_14_method_44_code
def yX12_digest : MethodName := ⟨RX12, "digest", "(I)I"⟩
abbrev cX12_areAlike : ByteArray := prog_14_method_45_code
def yX12_areAlike : MethodName := ⟨RX12, "areAlike", "(II)Z"⟩
abbrev cX12_alike : ByteArray := prog_14_method_46_code
def yX12_alike : MethodName := ⟨RX12, "alike", "(I)I"⟩
abbrev cX12_isIn : ByteArray := prog_14_method_47_code
def yX12_isIn : MethodName := ⟨RX12, "isIn", "(III)Z"⟩
abbrev cX12_isAnswer : ByteArray := prog_14_method_48_code
def yX12_isAnswer : MethodName := ⟨RX12, "isAnswer", "(III)Z"⟩
abbrev cX12_answersTo : ByteArray := prog_14_method_49_code
def yX12_answersTo : MethodName := ⟨RX12, "answersTo", "(II)I"⟩
abbrev cX12_answer : ByteArray := prog_14_method_50_code
def yX12_answer : MethodName := ⟨RX12, "answer", "(III)I"⟩
abbrev cX12_laysPart : ByteArray := prog_14_method_51_code
def yX12_laysPart : MethodName := ⟨RX12, "laysPart", "(II)V"⟩
abbrev cX12_isInPart : ByteArray := prog_14_method_52_code
def yX12_isInPart : MethodName := ⟨RX12, "isInPart", "([IIII)Z"⟩
abbrev cX12_rowsIn : ByteArray := prog_14_method_53_code
def yX12_rowsIn : MethodName := ⟨RX12, "rowsIn", "([III)I"⟩
abbrev cX12_rowsNow : ByteArray := prog_14_method_54_code
def yX12_rowsNow : MethodName := ⟨RX12, "rowsNow", "([II)I"⟩
abbrev cX12_makeNow : ByteArray := prog_14_method_55_code
def yX12_makeNow : MethodName := ⟨RX12, "makeNow", "([II)I"⟩
abbrev cX12_laysAll : ByteArray := prog_14_method_56_code
def yX12_laysAll : MethodName := ⟨RX12, "laysAll", "()V"⟩
abbrev cX12_areSame : ByteArray := prog_14_method_57_code
def yX12_areSame : MethodName := ⟨RX12, "areSame", "([II[II)Z"⟩
abbrev cX12_areOfOne : ByteArray := prog_14_method_58_code
def yX12_areOfOne : MethodName := ⟨RX12, "areOfOne", "([II[II)Z"⟩
abbrev cX12_doesHold : ByteArray := prog_14_method_59_code
def yX12_doesHold : MethodName := ⟨RX12, "doesHold", "([II[II)Z"⟩
abbrev cX12_addsPart : ByteArray := prog_14_method_60_code
def yX12_addsPart : MethodName := ⟨RX12, "addsPart", "()V"⟩
abbrev cX12_laysWide : ByteArray := prog_14_method_61_code
def yX12_laysWide : MethodName := ⟨RX12, "laysWide", "(II)V"⟩
abbrev cX12_laysCandidates : ByteArray := prog_14_method_62_code
def yX12_laysCandidates : MethodName := ⟨RX12, "laysCandidates", "()V"⟩
abbrev cX12_isCandidate : ByteArray := prog_14_method_63_code
def yX12_isCandidate : MethodName := ⟨RX12, "isCandidate", "(I)Z"⟩
abbrev cX12_candidates : ByteArray := prog_14_method_64_code
def yX12_candidates : MethodName := ⟨RX12, "candidates", "()I"⟩
abbrev cX12_candidate : ByteArray := prog_14_method_65_code
def yX12_candidate : MethodName := ⟨RX12, "candidate", "(II)I"⟩
abbrev cX12_takesNone : ByteArray := prog_14_method_66_code
def yX12_takesNone : MethodName := ⟨RX12, "takesNone", "()V"⟩
abbrev cX12_takesKept : ByteArray := prog_14_method_67_code
def yX12_takesKept : MethodName := ⟨RX12, "takesKept", "()V"⟩
abbrev cX12_copiesInto : ByteArray := prog_14_method_68_code
def yX12_copiesInto : MethodName := ⟨RX12, "copiesInto", "([II[III)V"⟩
abbrev cX12_takesOne : ByteArray := prog_14_method_69_code
def yX12_takesOne : MethodName := ⟨RX12, "takesOne", "(I)V"⟩
abbrev cX12_bestFor : ByteArray := prog_14_method_70_code
def yX12_bestFor : MethodName := ⟨RX12, "bestFor", "(II)I"⟩
abbrev cX12_serverOf : ByteArray := prog_14_method_71_code
def yX12_serverOf : MethodName := ⟨RX12, "serverOf", "(II)I"⟩
abbrev cX12_costOf : ByteArray := prog_14_method_72_code
def yX12_costOf : MethodName := ⟨RX12, "costOf", "(II)I"⟩
abbrev cX12_apart : ByteArray := prog_14_method_73_code
def yX12_apart : MethodName := ⟨RX12, "apart", "(I)I"⟩
abbrev cX12_joinedBy : ByteArray := prog_14_method_74_code
def yX12_joinedBy : MethodName := ⟨RX12, "joinedBy", "(I)I"⟩
abbrev cX12_costNow : ByteArray := prog_14_method_75_code
def yX12_costNow : MethodName := ⟨RX12, "costNow", "(I)I"⟩
abbrev cX12_batchNow : ByteArray := prog_14_method_76_code
def yX12_batchNow : MethodName := ⟨RX12, "batchNow", "()I"⟩
abbrev cX12_batch : ByteArray := prog_14_method_77_code
def yX12_batch : MethodName := ⟨RX12, "batch", "()I"⟩
abbrev cX12_alone : ByteArray := prog_14_method_78_code
def yX12_alone : MethodName := ⟨RX12, "alone", "(I)I"⟩
abbrev cX12_isAsked : ByteArray := prog_14_method_79_code
def yX12_isAsked : MethodName := ⟨RX12, "isAsked", "(I)Z"⟩
abbrev cX12_costs : ByteArray := prog_14_method_80_code
def yX12_costs : MethodName := ⟨RX12, "costs", "(I)I"⟩
abbrev cX12_servedBy : ByteArray := prog_14_method_81_code
def yX12_servedBy : MethodName := ⟨RX12, "servedBy", "(II)I"⟩
abbrev cX12_serves : ByteArray := prog_14_method_82_code
def yX12_serves : MethodName := ⟨RX12, "serves", "(II)I"⟩
abbrev cX12_gain : ByteArray := prog_14_method_83_code
def yX12_gain : MethodName := ⟨RX12, "gain", "(I)I"⟩
abbrev cX12_rowsOfOne : ByteArray := prog_14_method_84_code
def yX12_rowsOfOne : MethodName := ⟨RX12, "rowsOfOne", "(I)I"⟩
abbrev cX12_greediest : ByteArray := prog_14_method_85_code
def yX12_greediest : MethodName := ⟨RX12, "greediest", "()I"⟩
abbrev cX12_laysGreedy : ByteArray := prog_14_method_86_code
def yX12_laysGreedy : MethodName := ⟨RX12, "laysGreedy", "()V"⟩
abbrev cX12_greedy : ByteArray := prog_14_method_87_code
def yX12_greedy : MethodName := ⟨RX12, "greedy", "(I)I"⟩
abbrev cX12_triesSet : ByteArray := prog_14_method_88_code
def yX12_triesSet : MethodName := ⟨RX12, "triesSet", "(III)V"⟩
abbrev cX12_laysBest : ByteArray := prog_14_method_89_code
def yX12_laysBest : MethodName := ⟨RX12, "laysBest", "()V"⟩
abbrev cX12_best : ByteArray := prog_14_method_90_code
def yX12_best : MethodName := ⟨RX12, "best", "(I)I"⟩
abbrev cX12_moves : ByteArray := prog_14_method_91_code
def yX12_moves : MethodName := ⟨RX12, "moves", "(I)I"⟩
abbrev cX12_movesRow : ByteArray := prog_14_method_92_code
def yX12_movesRow : MethodName := ⟨RX12, "movesRow", "([I)V"⟩
abbrev cX12_movesAll : ByteArray := prog_14_method_93_code
def yX12_movesAll : MethodName := ⟨RX12, "movesAll", "(IZ)V"⟩
abbrev cX12_keepsAct : ByteArray := prog_14_method_94_code
def yX12_keepsAct : MethodName := ⟨RX12, "keepsAct", "()V"⟩
abbrev cX12_undo : ByteArray := prog_14_method_95_code
def yX12_undo : MethodName := ⟨RX12, "undo", "()I"⟩
abbrev cX12_turnsStale : ByteArray := prog_14_method_96_code
def yX12_turnsStale : MethodName := ⟨RX12, "turnsStale", "(II)V"⟩
abbrev cX12_putsCell : ByteArray := prog_14_method_97_code
def yX12_putsCell : MethodName := ⟨RX12, "putsCell", "(IIII)V"⟩
abbrev cX12_put : ByteArray := prog_14_method_98_code
def yX12_put : MethodName := ⟨RX12, "put", "(IIII)I"⟩
abbrev cX12_remove : ByteArray := prog_14_method_99_code
def yX12_remove : MethodName := ⟨RX12, "remove", "(II)I"⟩
abbrev cX12_changes : ByteArray := prog_14_method_100_code
def yX12_changes : MethodName := ⟨RX12, "changes", "(IIII)V"⟩
abbrev cX12_change : ByteArray := prog_14_method_101_code
def yX12_change : MethodName := ⟨RX12, "change", "(IIII)I"⟩
abbrev cX12_strike : ByteArray := prog_14_method_102_code
def yX12_strike : MethodName := ⟨RX12, "strike", "(I)I"⟩
abbrev cX12_rowsOfAll : ByteArray := prog_14_method_103_code
def yX12_rowsOfAll : MethodName := ⟨RX12, "rowsOfAll", "()I"⟩
abbrev cX12_forgets : ByteArray := prog_14_method_104_code
def yX12_forgets : MethodName := ⟨RX12, "forgets", "(I)V"⟩
abbrev cX12_leastUsed : ByteArray := prog_14_method_105_code
def yX12_leastUsed : MethodName := ⟨RX12, "leastUsed", "()I"⟩
abbrev cX12_isKeptAlready : ByteArray := prog_14_method_106_code
def yX12_isKeptAlready : MethodName := ⟨RX12, "isKeptAlready", "(I)Z"⟩
abbrev cX12_keep : ByteArray := prog_14_method_107_code
def yX12_keep : MethodName := ⟨RX12, "keep", "(I)I"⟩
abbrev cX12_isKeptOne : ByteArray := prog_14_method_108_code
def yX12_isKeptOne : MethodName := ⟨RX12, "isKeptOne", "(I)Z"⟩
abbrev cX12_forget : ByteArray := prog_14_method_109_code
def yX12_forget : MethodName := ⟨RX12, "forget", "(I)I"⟩
abbrev cX12_refresh : ByteArray := prog_14_method_110_code
def yX12_refresh : MethodName := ⟨RX12, "refresh", "(I)I"⟩
abbrev cX12_usesAll : ByteArray := prog_14_method_111_code
def yX12_usesAll : MethodName := ⟨RX12, "usesAll", "()V"⟩
abbrev cX12_runs : ByteArray := prog_14_method_112_code
def yX12_runs : MethodName := ⟨RX12, "runs", "()I"⟩
abbrev cX12_run : ByteArray := prog_14_method_113_code
def yX12_run : MethodName := ⟨RX12, "run", "()I"⟩
abbrev cX12_kept : ByteArray := prog_14_method_114_code
def yX12_kept : MethodName := ⟨RX12, "kept", "(II)I"⟩
abbrev cX12_marksOf : ByteArray := prog_14_method_115_code
def yX12_marksOf : MethodName := ⟨RX12, "marksOf", "(IIII)I"⟩
abbrev cX12_marks : ByteArray := prog_14_method_116_code
def yX12_marks : MethodName := ⟨RX12, "marks", "(II)I"⟩
abbrev cX12_markedOf : ByteArray := prog_14_method_117_code
def yX12_markedOf : MethodName := ⟨RX12, "markedOf", "(III)I"⟩
abbrev cX12_shared : ByteArray := prog_14_method_118_code
def yX12_shared : MethodName := ⟨RX12, "shared", "()I"⟩
abbrev cX12_residue : ByteArray := prog_14_method_119_code
def yX12_residue : MethodName := ⟨RX12, "residue", "(II)I"⟩
abbrev cX12_seed : ByteArray := prog_14_method_120_code
def yX12_seed : MethodName := ⟨RX12, "seed", "(I)I"⟩
abbrev cX12_draws : ByteArray := prog_14_method_121_code
def yX12_draws : MethodName := ⟨RX12, "draws", "(I)I"⟩
abbrev cX12_drifts : ByteArray := prog_14_method_122_code
def yX12_drifts : MethodName := ⟨RX12, "drifts", "()V"⟩
abbrev cX12_staleMany : ByteArray := prog_14_method_123_code
def yX12_staleMany : MethodName := ⟨RX12, "staleMany", "()I"⟩
abbrev cX12_drift : ByteArray := prog_14_method_124_code
def yX12_drift : MethodName := ⟨RX12, "drift", "(IIII)I"⟩
abbrev cX12_count : ByteArray := prog_14_method_125_code
def yX12_count : MethodName := ⟨RX12, "count", "(I)I"⟩
abbrev cX12_carries : ByteArray := prog_14_method_126_code
def yX12_carries : MethodName := ⟨RX12, "carries", "(I)I"⟩
abbrev cX12_carriesAll : ByteArray := prog_14_method_127_code
def yX12_carriesAll : MethodName := ⟨RX12, "carriesAll", "(IZ)V"⟩
abbrev cX12_image : ByteArray := prog_14_method_128_code
def yX12_image : MethodName := ⟨RX12, "image", "(I)I"⟩
abbrev cX12_back : ByteArray := prog_14_method_129_code
def yX12_back : MethodName := ⟨RX12, "back", "(I)I"⟩
def RJ6 : String := "java/lang/Integer"
abbrev cJ6_bitCount_0f7a4 : ByteArray := prog_15_method_49_code
def yJ6_bitCount_0f7a4 : MethodName := ⟨RJ6, "bitCount", "(I)I"⟩
def RJ9 : String := "java/lang/Math"
abbrev cJ9_max_7cf53 : ByteArray := prog_16_method_65_code
def yJ9_max_7cf53 : MethodName := ⟨RJ9, "max", "(II)I"⟩
abbrev cJ9_min_7cf53 : ByteArray := prog_16_method_69_code
def yJ9_min_7cf53 : MethodName := ⟨RJ9, "min", "(II)I"⟩
def RJ0 : String := "java/lang/String"
abbrev cJ0_length_8abf5 : ByteArray := prog_17_method_54_code
def yJ0_length_8abf5 : MethodName := ⟨RJ0, "length", "()I"⟩
abbrev cJ0_charAt_5068e : ByteArray := prog_17_method_56_code
def yJ0_charAt_5068e : MethodName := ⟨RJ0, "charAt", "(I)C"⟩
abbrev cJ0_coder_7d493 : ByteArray := prog_17_method_152_code
def yJ0_coder_7d493 : MethodName := ⟨RJ0, "coder", "()B"⟩
abbrev cJ0_isLatin1_aae02 : ByteArray := prog_17_method_154_code
def yJ0_isLatin1_aae02 : MethodName := ⟨RJ0, "isLatin1", "()Z"⟩
abbrev cJ0_checkIndex_df160 : ByteArray := prog_17_method_155_code
def yJ0_checkIndex_df160 : MethodName := ⟨RJ0, "checkIndex", "(II)V"⟩
def RJ1 : String := "java/lang/StringLatin1"
abbrev cJ1_charAt_3b067 : ByteArray := prog_18_method_2_code
def yJ1_charAt_3b067 : MethodName := ⟨RJ1, "charAt", "([BI)C"⟩
def RJ2 : String := "java/lang/StringUTF16"
abbrev cJ2_getChar_3b067 : ByteArray := prog_19_method_5_code
def yJ2_getChar_3b067 : MethodName := ⟨RJ2, "getChar", "([BI)C"⟩
abbrev cJ2_length_9d52b : ByteArray := prog_19_method_6_code
def yJ2_length_9d52b : MethodName := ⟨RJ2, "length", "([B)I"⟩
abbrev cJ2_charAt_3b067 : ByteArray := prog_19_method_83_code
def yJ2_charAt_3b067 : MethodName := ⟨RJ2, "charAt", "([BI)C"⟩
abbrev cJ2_checkIndex_2214a : ByteArray := prog_19_method_91_code
def yJ2_checkIndex_2214a : MethodName := ⟨RJ2, "checkIndex", "(I[B)V"⟩
def RJ10 : String := "java/lang/System"
def RJ7 : String := "java/util/Arrays"
abbrev cJ7_fill_53178 : ByteArray := prog_21_method_103_code
def yJ7_fill_53178 : MethodName := ⟨RJ7, "fill", "([II)V"⟩
def RJ3 : String := "jdk/internal/util/Preconditions"
abbrev cJ3_checkIndex_8e157 : ByteArray := prog_22_method_11_code
def yJ3_checkIndex_8e157 : MethodName := ⟨RJ3, "checkIndex", "(IILjava/util/function/BiFunction;)I"⟩
def RL : String := "BatchShareLaw"
abbrev cL_law : ByteArray := code
abbrev vwCl : List vw_C := [(RX0, TX0, 5), (RX1, TX1, 7), (RX2, TX2, 4), (RX3, TX3, 1), (RX4, TX4, 6), (RX5, TX5, 3), (RX6, TX6, 5), (RX7, TX7, 2), (RX8, TX8, 7), (RX9, TX9, 4), (RX10, TX10, 5), (RX11, TX11, 12), (RX12, TX12, 50)]
theorem inX0 : GoodIn lw_tbl wsX00 := goodIn_r _ [384, 386, 388, 390, 392] (by decide +kernel) (by decide +kernel)
theorem inX1 : GoodIn lw_tbl wsX10 := goodIn_r _ [413, 415, 417, 419, 421, 423, 425] (by decide +kernel) (by decide +kernel)
theorem inX2 : GoodIn lw_tbl wsX20 := goodIn_r _ [231, 233, 235, 237] (by decide +kernel) (by decide +kernel)
theorem inX3 : GoodIn lw_tbl wsX30 := goodIn_r _ [211] (by decide +kernel) (by decide +kernel)
theorem inX4 : GoodIn lw_tbl wsX40 := goodIn_r _ [351, 353, 355, 357, 359, 361] (by decide +kernel) (by decide +kernel)
theorem inX5 : GoodIn lw_tbl wsX50 := goodIn_r _ [445, 447, 449] (by decide +kernel) (by decide +kernel)
theorem inX6 : GoodIn lw_tbl wsX60 := goodIn_r _ [161, 163, 165, 167, 169] (by decide +kernel) (by decide +kernel)
theorem inX7 : GoodIn lw_tbl wsX70 := goodIn_r _ [249, 251] (by decide +kernel) (by decide +kernel)
theorem inX8 : GoodIn lw_tbl wsX80 := goodIn_r _ [300, 302, 304, 306, 308, 310, 312] (by decide +kernel) (by decide +kernel)
theorem inX9 : GoodIn lw_tbl wsX90 := goodIn_r _ [271, 273, 275, 277] (by decide +kernel) (by decide +kernel)
theorem inX10 : GoodIn lw_tbl wsX100 := goodIn_r _ [324, 326, 328, 330, 332] (by decide +kernel) (by decide +kernel)
theorem inX11 : GoodIn lw_tbl wsX110 := goodIn_r _ [464, 466, 468, 470, 472, 474, 476, 478, 480, 482, 484, 486] (by decide +kernel) (by decide +kernel)
theorem inX12 : GoodIn lw_tbl wsX120 := goodIn_r _ [1266, 1268, 1270, 1272, 1274, 1276, 1278, 1280, 1282, 1284, 1286, 1288, 1290, 1292, 1294, 1296, 1298, 1300, 1302, 1304, 1306, 1308, 1310, 1312, 1314, 1316, 1318, 1320, 1322, 1324, 1326, 1328, 1330, 1332, 1334, 1336, 1338, 1340, 1342, 1344, 1346, 1348, 1350, 1352, 1354, 1356, 1358, 1360, 1362, 1364] (by decide +kernel) (by decide +kernel)
end
section
/-! AM: values, heap, what a heap of the machine is to it -/
abbrev AV : Type := Int ⊕ (Int ⊕ Nat)
abbrev vi (z : Int) : AV := Sum.inl z
abbrev vl (z : Int) : AV := Sum.inr (Sum.inl z)
abbrev vr (a : Nat) : AV := Sum.inr (Sum.inr a)
abbrev AH : Type := Nat × Nat × (Nat → Nat × Nat) × (Nat → Nat → Int) × (Nat → Nat → Nat)
def hN (h : AH) : Nat := h.1
def hS (h : AH) : Nat := h.2.1
def hK (h : AH) : Nat → Nat × Nat := h.2.2.1
def hI (h : AH) : Nat → Nat → Int := h.2.2.2.1
def hR (h : AH) : Nat → Nat → Nat := h.2.2.2.2
def up2 {α : Type} (f : Nat → Nat → α) (a k : Nat) (v : α) : Nat → Nat → α := fun b => if b = a then (fun j => if j = k then v else f a j) else f b
def sI (h : AH) (a k : Nat) (v : Int) : AH := (hN h, hS h, hK h, up2 (hI h) a k v, hR h)
def sR (h : AH) (a k : Nat) (v : Nat) : AH := (hN h, hS h, hK h, hI h, up2 (hR h) a k v)
/-- a new cell of a kind, a length (0 for an object), so many slots: all zero, all null -/
def nw (h : AH) (t n sl : Nat) : AH := (hN h + 1, hS h + sl, fun a => if a = 16 + hN h then (t, n) else hK h a, fun a => if a = 16 + hN h then (fun _ => 0) else hI h a, fun a => if a = 16 + hN h then (fun _ => 0) else hR h a)
def wr (z : Int) : Int := Int.bmod z 4294967296
def wr64 (z : Int) : Int := Int.bmod z 18446744073709551616
def inR (z : Int) : Prop := -2147483648 ≤ z ∧ z < 2147483648
def inR64 (z : Int) : Prop := -9223372036854775808 ≤ z ∧ z < 9223372036854775808
def vok (v : AV) : Prop := match v with
  | .inl z => inR z
  | .inr (.inl z) => inR64 z
  | .inr (.inr _) => True
abbrev AE : Type := Nat × (Nat → Nat) × (Nat → ClassId) × (Nat → Nat → Nat) × (Nat → ClassId)
def cad (E : AE) (a : Nat) : Nat := if a < 16 then E.2.1 a else E.1 + (a - 16)
def rv (E : AE) (a : Nat) : Value := if a = 0 then .null else .ref (cad E a)
def ro (E : AE) (a : Nat) : Option Nat := if a = 0 then none else some (cad E a)
theorem rf_ro (E : AE) (a : Nat) : va_rf (ro E a) = rv E a := by
  unfold ro rv; by_cases h : a = 0 <;> simp [h, va_rf]
def cv (E : AE) (v : AV) : Value := match v with
  | .inl z => .int (Int32.ofInt z)
  | .inr (.inl z) => .long (Int64.ofInt z)
  | .inr (.inr a) => rv E a
def cvp (E : AE) (q : Nat × AV) : Nat × Value := (q.1, cv E q.2)
/-- the kinds of the fields of each class: 0 an int, 1 a boolean, 2 a reference -/
def fKs : List (List Nat) := [[2, 2, 2, 2, 0], [2, 2, 2, 2, 2, 0, 0], [2, 0, 0, 1], [2], [2, 2, 2, 2, 0, 0], [2, 2, 1], [2, 0, 0, 0, 0], [2, 0], [2, 2, 1, 0, 0, 0, 0], [0, 0, 2, 0], [2, 2, 0, 0, 0], [2, 0, 2, 2, 0, 2, 2, 2, 2, 2, 2, 2], [0, 2, 2, 2, 2, 2, 0, 0, 0, 2, 0, 2, 2, 2, 2, 2, 2, 2, 0, 0, 0, 2, 0, 0, 0, 0, 2, 2, 2, 2, 2, 0, 0, 2, 0, 2, 0, 0, 0, 0, 0, 0, 2, 0, 0, 1, 2, 2, 0, 1]]
def cNs : List Nat := [5, 7, 4, 1, 6, 3, 5, 2, 7, 4, 5, 12, 50]
def fk (ci k : Nat) : Nat := (fKs.getD ci []).getD k 0
def cN (ci : Nat) : Nat := cNs.getD ci 0
def fV (E : AE) (h : AH) (ci a k : Nat) : Value := if fk ci k = 2 then rv E (hR h a k) else .int (Int32.ofInt (hI h a k))
def fL (E : AE) (h : AH) (ci a : Nat) : List Value := (List.range (cN ci)).map (fV E h ci a)
def cel (E : AE) (h : AH) (a : Nat) : va_E :=
  if (hK h a).1 < 20 then .inr ((hK h a).1 - 1, fL E h ((hK h a).1 - 1) a)
  else if (hK h a).1 < 30 then .inl (E.2.2.2.2 (hK h a).1, (hK h a).2, .inl fun i => Int32.ofInt (hI h a i))
  else .inl (E.2.2.2.2 (hK h a).1, (hK h a).2, .inr (.inr (.inr (.inr fun i => ro E (hR h a i)))))
def wsO (E : AE) (h : AH) : va_W := (List.range (hN h)).map fun k => (E.1 + k, cel E h (16 + k))
abbrev aD (E : AE) : va_G := (E.2.2.1, E.2.2.2.1)
/-- the array types by tags -/
def aTs : List (Nat × FieldType) := [(21, .int), (22, .byte), (23, .boolean), (31, .object RX5), (32, .object RX10), (33, .object RX8), (34, .object RX9), (35, .object RX2), (36, .object RX3)]
def atys (E : AE) : List (ClassId × FieldType) := aTs.map fun q => (E.2.2.2.2 q.1, q.2)
def aLo (E : AE) : Nat → Prop := fun q => E.1 ≤ q
/-- a heap of the machine is that of the AM -/
def RH (E : AE) (h : AH) (U : State) (H : Heap) : Prop :=
  H.size = E.1 + hN h ∧ va_P (aD E) vwCl (wsO E h) H ∧ (∀ a, (a < 15 ∨ 16 + hN h ≤ a) → hK h a = (0, 0)) ∧ (∀ a k, inR (hI h a k)) ∧ (∀ a, (hK h a).2 < 2 ^ 31) ∧
  ((hK h 15).1 = 0 ∨ ((hK h 15).1 = 24 ∧ E.2.1 15 < E.1 ∧ va_X (E.2.1 15) (hK h 15).2 (fun j => Int32.ofInt (hI h 15 j)) U H)) ∧
  ∀ a, 16 ≤ a → a < 16 + hN h → (hK h a).1 ≠ 0 ∧ ((hK h a).1 < 14 ∨ ((aTs.map (·.1)).contains (hK h a).1 = true))
theorem hN_sI (h : AH) (a k : Nat) (v : Int) : hN (sI h a k v) = hN h := rfl
theorem hS_sI (h : AH) (a k : Nat) (v : Int) : hS (sI h a k v) = hS h := rfl
theorem hK_sI (h : AH) (a k : Nat) (v : Int) : hK (sI h a k v) = hK h := rfl
theorem hR_sI (h : AH) (a k : Nat) (v : Int) : hR (sI h a k v) = hR h := rfl
theorem hI_sI (h : AH) (a k : Nat) (v : Int) : hI (sI h a k v) = up2 (hI h) a k v := rfl
theorem hN_sR (h : AH) (a k : Nat) (v : Nat) : hN (sR h a k v) = hN h := rfl
theorem hS_sR (h : AH) (a k : Nat) (v : Nat) : hS (sR h a k v) = hS h := rfl
theorem hK_sR (h : AH) (a k : Nat) (v : Nat) : hK (sR h a k v) = hK h := rfl
theorem hI_sR (h : AH) (a k : Nat) (v : Nat) : hI (sR h a k v) = hI h := rfl
theorem hR_sR (h : AH) (a k : Nat) (v : Nat) : hR (sR h a k v) = up2 (hR h) a k v := rfl
theorem up2_ne {α : Type} {f : Nat → Nat → α} {a b k : Nat} {v : α} (h : b ≠ a) : up2 f a k v b = f b := by simp [up2, h]
theorem up2_at {α : Type} {f : Nat → Nat → α} {a k j : Nat} {v : α} : up2 f a k v a j = if j = k then v else f a j := by simp [up2]
theorem inR_ofInt {z : Int} (h : inR z) : (Int32.ofInt z).toInt = z := Int32.toInt_ofInt_of_le h.1 h.2
theorem inR_toInt (x : Int32) : inR x.toInt := ⟨by have := Int32.le_toInt x; simpa using this, by have := Int32.toInt_lt x; simpa using this⟩
theorem inR_wr (z : Int) : inR (wr z) := by
  unfold wr inR
  have h1 := Int.le_bmod (x := z) (m := 4294967296) (by decide)
  have h2 := Int.bmod_lt (x := z) (m := 4294967296) (by decide)
  omega
theorem wr_id {z : Int} (h1 : -2147483648 ≤ z) (h2 : z < 2147483648) : wr z = z := by
  unfold wr
  exact Int.bmod_eq_of_le (by omega) (by omega)
theorem ofInt_wr (z : Int) : Int32.ofInt (wr z) = Int32.ofInt z := by
  apply Int32.toInt_inj.mp
  rw [inR_ofInt (inR_wr z), Int32.toInt_ofInt]
  rfl
theorem of_toInt (x : Int32) : Int32.ofInt x.toInt = x := Int32.ofInt_toInt x
theorem i32_inj {x y : Int} (hx : inR x) (hy : inR y) : Int32.ofInt x = Int32.ofInt y ↔ x = y := by
  constructor
  · intro h
    have := congrArg Int32.toInt h
    rwa [inR_ofInt hx, inR_ofInt hy] at this
  · intro h; rw [h]
theorem i32_lt {x y : Int} (hx : inR x) (hy : inR y) : Int32.ofInt x < Int32.ofInt y ↔ x < y := by
  rw [Int32.lt_iff_toInt_lt, inR_ofInt hx, inR_ofInt hy]
theorem i32_le {x y : Int} (hx : inR x) (hy : inR y) : Int32.ofInt x ≤ Int32.ofInt y ↔ x ≤ y := by
  rw [Int32.le_iff_toInt_le, inR_ofInt hx, inR_ofInt hy]
theorem i32_add (x y : Int) : Int32.ofInt x + Int32.ofInt y = Int32.ofInt (wr (x + y)) := by rw [ofInt_wr, Int32.ofInt_add]
theorem i32_sub (x y : Int) : Int32.ofInt x - Int32.ofInt y = Int32.ofInt (wr (x - y)) := by rw [ofInt_wr, Int32.ofInt_sub]
theorem i32_mul (x y : Int) : Int32.ofInt x * Int32.ofInt y = Int32.ofInt (wr (x * y)) := by rw [ofInt_wr, Int32.ofInt_mul]
theorem inR0 : inR 0 := ⟨by decide, by decide⟩
theorem i32_nneg {x : Int} (hx : inR x) : ¬ Int32.ofInt x < 0 ↔ 0 ≤ x := by
  have := i32_lt hx inR0
  rw [show Int32.ofInt 0 = 0 from rfl] at this
  rw [this]; omega
theorem i32_clamp {x : Int} (hx : inR x) : (Int32.ofInt x).toNatClampNeg = x.toNat := by
  show (Int32.ofInt x).toInt.toNat = _
  rw [inR_ofInt hx]
theorem i32_in {x : Int} {n : Nat} (hx : inR x) (h0 : 0 ≤ x) (h1 : x < n) : vp_in (Int32.ofInt x) n := by
  rw [vp_in_iff, inR_ofInt hx]; exact ⟨h0, h1⟩
end
section
/-! AM: a judgement: from here the method comes to its end with what 'o' says -/
abbrev AMt : Type := MethodName × ByteArray × Nat × Option FieldType
def Tb : List Cond := lw_tbl.filter goodWord
theorem Tb_in {w : Cond} (h : w ∈ lw_tbl) (hg : goodWord w = true) : w ∈ Tb := List.mem_filter.mpr ⟨h, hg⟩
theorem Tb_at {w : Cond} (i : Nat) (h : lw_tbl[i]? = some w) (hg : goodWord w = true) : w ∈ Tb := Tb_in (List.mem_of_getElem? h) hg
theorem Tb_good : GoodIn Tb Tb := fun w h => ⟨h, good_of_word (List.mem_filter.mp h).2⟩
def aoL : List String := [RX5, RX10, RX8, RX9, RX2, RX3]
def nstL : List (String × Nat × MethodName × String) := [(RX11, 30, yX10_init, RX11), (RX7, 17, yX2_init, RX11), (RX2, 9, yX3_init, RX11), (RX0, 24, yX3_init, RX11), (RX5, 21, yX3_init, RX11)]
def strL : List (String × Nat × String × Nat) := [(RX6, 47, "base", 1), (RX6, 64, "\x72", 2), (RX6, 74, "s", 3), (RX6, 111, "join", 4), (RX6, 93, "if", 5), (RX6, 120, "and", 6), (RX6, 98, "show", 7), (RX12, 163, "base", 1), (RX12, 165, "\x72", 2), (RX12, 167, "s", 3), (RX12, 204, "join", 4), (RX12, 221, "if", 5), (RX12, 219, "and", 6), (RX12, 226, "show", 7)]
def sLens : List Nat := [4, 1, 1, 4, 2, 3, 4]
def sByts : List (List Int32) := [[98, 97, 115, 101], [114], [115], [106, 111, 105, 110], [105, 102], [97, 110, 100], [115, 104, 111, 119]]
def Ext (E : AE) (s : State) : Prop := (∀ C ∈ aoL, va_AO C s) ∧ (∀ q ∈ nstL, va_Nw (.methodLinkNest q.1 q.2.1 q.2.2.1 q.2.2.2) s) ∧ (∀ q ∈ strL, vk_R q.1 q.2.1 q.2.2.1 (E.2.1 q.2.2.2) s) ∧ E.1 ≤ s.heap.size ∧ vk_S 7 sLens sByts (fun i => E.2.1 (i + 1)) (fun i => E.2.1 (i + 8)) (aLo E) s s.heap ∧ va_Zq "jdk/internal/util/Preconditions" "SIOOBE_FORMATTER" "Ljava/util/function/BiFunction;" (aLo E) s s.heap ∧ va_Z "java/lang/String" "COMPACT_STRINGS" "Z" (.int 1) (aLo E) s s.heap
theorem Ext.go {E : AE} {s U : State} (h : Ext E s) (hW : s.WarmedH U.vm) (hz : s.heap.size ≤ U.heap.size) (hq : ∀ q : Nat, q < s.heap.size → ¬ aLo E q → U.heap[q]? = s.heap[q]?) : Ext E U := by
  obtain ⟨h1, h2, h3, h4, h5, h7, h6⟩ := h
  exact ⟨fun C hC => va_AO.moved hW.alike (h1 C hC), fun q hq => va_Nw.warmM hW (h2 q hq), fun q hq => vk_R.warm hW (h3 q hq), Nat.le_trans h4 hz, (h5.moved hW.alike).kept hq, (h7.moved hW.alike).kept hq, (h6.moved hW.alike).kept hq⟩
def Ctx (M : AMt) (fr lw : Nat) (E : AE) (p : Program) (R : Room) (s : State) (m : MethodId) (args : Array Value) (meth : Method) (c : Code) : Prop :=
  p.tables.exec = Jvm.exec ∧ c.code = M.2.1 ∧ c.maxLocals = M.2.2.1 ∧ meth.sig.returnType = M.2.2.2 ∧ s.vm.findClass M.1.cls = some m.cls ∧ meth.locks = false ∧ (M.1.name = "<init>" → meth.name = "<init>") ∧ (∀ w ∈ Tb, w.before args s = true) ∧ R.frames = fr ∧ R.locals = lw ∧ va_K (aD E) vwCl (atys E) s ∧ Ext E s
def Qe {ρ : Type} (E : AE) (em : ρ → Option AV) (r : ρ) (h' : AH) : Array Value → State → Outcome → State → Prop := fun _ st oc t =>
  oc = .returned ((em r).map (cv E)) ∧ RH E h' t t.heap ∧ va_F (aLo E) st t ∧ ∀ v, em r = some v → vok v
def Sd {ρ : Type} (M : AMt) (fr lw : Nat) (em : ρ → Option AV) (pc : Nat) (l : List (Nat × AV)) (st : List AV) (h : AH) (o : Option (ρ × AH)) : Prop :=
  ∀ (r : ρ) (h' : AH), o = some (r, h') → (hN h ≤ hN h' ∧ hS h ≤ hS h') ∧
    ∀ (E : AE) (p : Program) (lc : Launch) (e : Env) (R : Room) (s : State) (m : MethodId) (args : Array Value) (below : List Frame) (meth : Method) (c : Code) (n0 s0 : Nat) (H : Heap) (locs : List Loc) (ls : Array Slot),
      Ctx M fr lw E p R s m args meth c → hN h' - n0 ≤ R.cells → hS h' - s0 ≤ R.slots → n0 ≤ hN h → s0 ≤ hS h → RH E h s H → va_S (aLo E) s.heap H locs → lv_has ls M.2.2.1 (l.map (cvp E)) → (∀ q ∈ l, vok q.2) → (∀ v ∈ st, vok v) →
        W p lc e R s m args below meth c H locs (hN h - n0) (hS h - s0) (MQ below (Qe E em r h') args s (hN h' - n0) (hS h' - s0) (aLo E)) (F0 m pc ls (st.map (cv E)))
section SD
variable {ρ : Type} {M : AMt} {fr lw : Nat} {em : ρ → Option AV} {pc pc' tgt : Nat} {l l' : List (Nat × AV)} {st st' : List AV} {h : AH} {o o1 o2 : Option (ρ × AH)}
theorem Sd.none : Sd M fr lw em pc l st h none := fun r h' ho => by cases ho
theorem Sd.eq {o' : Option (ρ × AH)} (he : o = o') (k : Sd M fr lw em pc l st h o') : Sd M fr lw em pc l st h o := he ▸ k
/-- a step that touches nothing but the stack and the place -/
theorem Sd.stack (hst : (∀ q ∈ l, vok q.2) → (∀ v ∈ st, vok v) → (∀ v ∈ st', vok v) ∧ ∀ (E : AE) (p : Program) (lc : Launch) (e : Env) (R : Room) (s : State) (m : MethodId) (args : Array Value) (below : List Frame) (meth : Method) (c : Code) (H : Heap) (locs : List Loc) (ls : Array Slot) (cells slots : Nat) (Q : State → Prop),
      Ctx M fr lw E p R s m args meth c → lv_has ls M.2.2.1 (l.map (cvp E)) → W p lc e R s m args below meth c H locs cells slots Q (F0 m pc' ls (st'.map (cv E))) → W p lc e R s m args below meth c H locs cells slots Q (F0 m pc ls (st.map (cv E))))
    (k : Sd M fr lw em pc' l st' h o) : Sd M fr lw em pc l st h o := by
  intro r h' ho
  obtain ⟨hm, hk⟩ := k r h' ho
  refine ⟨hm, fun E p lc e R s m args below meth c n0 s0 H locs ls C hc hs hn hn2 hH hS hl hvl hvs => ?_⟩
  obtain ⟨hv, hw⟩ := hst hvl hvs
  exact hw E p lc e R s m args below meth c H locs ls _ _ _ C hl (hk E p lc e R s m args below meth c n0 s0 H locs ls C hc hs hn hn2 hH hS hl hvl hv)
theorem vok_cons {v : AV} {st : List AV} (h : vok v) (hs : ∀ w ∈ st, vok w) : ∀ w ∈ v :: st, vok w := fun w hw => by
  rcases List.mem_cons.mp hw with rfl | hw
  · exact h
  · exact hs w hw
theorem vok_tl {v : AV} {st : List AV} (hs : ∀ w ∈ v :: st, vok w) : ∀ w ∈ st, vok w := fun w hw => hs w (List.mem_cons_of_mem _ hw)
theorem vok_hd {v : AV} {st : List AV} (hs : ∀ w ∈ v :: st, vok w) : vok v := hs v List.mem_cons_self
theorem l_vok {k i : Nat} {v : AV} (hk : l[k]? = some (i, v)) (hvl : ∀ q ∈ l, vok q.2) : vok v := hvl (i, v) (List.mem_of_getElem? hk)
theorem l_get {E : AE} {ls : Array Slot} {nL k i : Nat} {v : AV} (hl : lv_has ls nL (l.map (cvp E))) (hk : l[k]? = some (i, v)) : ls[i]? = some (.val (cv E v)) :=
  lv_at hl k (by rw [List.getElem?_map, hk]; rfl)
theorem vok_i {z : Int} {st : List AV} (hz : inR z) (hs : ∀ w ∈ st, vok w) : ∀ w ∈ vi z :: st, vok w := vok_cons (v := vi z) hz hs
theorem vok_l {z : Int} {st : List AV} (hz : inR64 z) (hs : ∀ w ∈ st, vok w) : ∀ w ∈ vl z :: st, vok w := vok_cons (v := vl z) hz hs
theorem vok_r {a : Nat} {st : List AV} (hs : ∀ w ∈ st, vok w) : ∀ w ∈ vr a :: st, vok w := vok_cons (v := vr a) trivial hs
theorem iv {z : Int} {st : List AV} (hs : ∀ w ∈ vi z :: st, vok w) : inR z := vok_hd (v := vi z) hs
theorem lv6 {z : Int} {st : List AV} (hs : ∀ w ∈ vl z :: st, vok w) : inR64 z := vok_hd (v := vl z) hs
theorem Sd_iconst {n : Int} (d : decode M.2.1 pc = .ok (.iconst n, 1)) (hp : pc + 1 = pc') (hn : inR n) (k : Sd M fr lw em pc' l (vi n :: st) h o) : Sd M fr lw em pc l (st) h o := by
  subst hp
  exact Sd.stack (fun hvl hs => ⟨vok_i hn hs, fun E p lc e R s m args below meth c H locs ls cells slots Q C hl w => lv_iconst C.1 C.2.1 d rfl w⟩) k
theorem Sd_bipush {n : Int} (d : decode M.2.1 pc = .ok (.bipush n, 2)) (hp : pc + 2 = pc') (hn : inR n) (he : (Int8.ofInt n).toInt32 = Int32.ofInt n) (k : Sd M fr lw em pc' l (vi n :: st) h o) : Sd M fr lw em pc l (st) h o := by
  subst hp
  exact Sd.stack (fun hvl hs => ⟨vok_i hn hs, fun E p lc e R s m args below meth c H locs ls cells slots Q C hl w => lv_bipush C.1 C.2.1 d he w⟩) k
theorem Sd_sipush {n : Int} (d : decode M.2.1 pc = .ok (.sipush n, 3)) (hp : pc + 3 = pc') (hn : inR n) (he : (Int16.ofInt n).toInt32 = Int32.ofInt n) (k : Sd M fr lw em pc' l (vi n :: st) h o) : Sd M fr lw em pc l (st) h o := by
  subst hp
  exact Sd.stack (fun hvl hs => ⟨vok_i hn hs, fun E p lc e R s m args below meth c H locs ls cells slots Q C hl w => lv_sipush C.1 C.2.1 d he w⟩) k
theorem Sd_ldc {n : Int} {index : Nat} (d : decode M.2.1 pc = .ok (.ldc index, 2)) (hp : pc + 2 = pc') (hn : inR n) (hw : Cond.constant M.1.cls index (Int32.ofInt n) ∈ Tb) (k : Sd M fr lw em pc' l (vi n :: st) h o) : Sd M fr lw em pc l (st) h o := by
  subst hp
  exact Sd.stack (fun hvl hs => ⟨vok_i hn hs, fun E p lc e R s m args below meth c H locs ls cells slots Q C hl w => lv_ldc C.1 C.2.1 C.2.2.2.2.1 (C.2.2.2.2.2.2.2.1 _ hw) d w⟩) k
theorem Sd_ldc2 {n : Int} {index : Nat} (d : decode M.2.1 pc = .ok (.ldc2_w index, 3)) (hp : pc + 3 = pc') (hn : inR64 n) (hw : Cond.constantLong M.1.cls index (Int64.ofInt n) ∈ Tb) (k : Sd M fr lw em pc' l (vl n :: st) h o) : Sd M fr lw em pc l (st) h o := by
  subst hp
  exact Sd.stack (fun hvl hs => ⟨vok_l hn hs, fun E p lc e R s m args below meth c H locs ls cells slots Q C hl w => lv_ldc2 C.1 C.2.1 C.2.2.2.2.1 (C.2.2.2.2.2.2.2.1 _ hw) d w⟩) k
theorem Sd_lconst {n : Fin 2} {z : Int} (d : decode M.2.1 pc = .ok (.lconst n, 1)) (hp : pc + 1 = pc') (hn : inR64 z) (he : Int64.ofNat (n : Nat) = Int64.ofInt z) (k : Sd M fr lw em pc' l (vl z :: st) h o) : Sd M fr lw em pc l (st) h o := by
  subst hp
  exact Sd.stack (fun hvl hs => ⟨vok_l hn hs, fun E p lc e R s m args below meth c H locs ls cells slots Q C hl w => lv_lconst C.1 C.2.1 d he w⟩) k
theorem Sd_lds {index a : Nat} {tx : String} (d : decode M.2.1 pc = .ok (.ldc index, 2)) (hp : pc + 2 = pc') (ha : a ≠ 0 ∧ a < 16) (hw : (M.1.cls, index, tx, a) ∈ strL) (k : Sd M fr lw em pc' l (vr a :: st) h o) : Sd M fr lw em pc l (st) h o := by
  subst hp
  exact Sd.stack (fun hvl hs => ⟨vok_r hs, fun E p lc e R s m args below meth c H locs ls cells slots Q C hl w => by rw [List.map_cons, show cv E (vr a) = .ref (E.2.1 a) from by show rv E a = _; unfold rv cad; rw [if_neg ha.1, if_pos ha.2]] at w; exact va_ldcS C.1 C.2.1 C.2.2.2.2.1 (C.2.2.2.2.2.2.2.2.2.2.2.2.2.1 _ hw) d w⟩) k
theorem Sd_iload_n {i : Fin 4} {j : Nat} {x : Int} (d : decode M.2.1 pc = .ok (.iload_n i, 1)) (hp : pc + 1 = pc') (kk : Nat) (hi : (i : Nat) = j) (hk : l[kk]? = some (j, vi x)) (k : Sd M fr lw em pc' l (vi x :: st) h o) : Sd M fr lw em pc l (st) h o := by
  subst hp
  exact Sd.stack (fun hvl hs => ⟨vok_cons (l_vok hk hvl) hs, fun E p lc e R s m args below meth c H locs ls cells slots Q C hl w => lv_iload_n C.1 C.2.1 d hi (l_get hl hk) w⟩) k
theorem Sd_iload {j : Nat} {x : Int} (d : decode M.2.1 pc = .ok (.iload j, 2)) (hp : pc + 2 = pc') (kk : Nat) (hk : l[kk]? = some (j, vi x)) (k : Sd M fr lw em pc' l (vi x :: st) h o) : Sd M fr lw em pc l (st) h o := by
  subst hp
  exact Sd.stack (fun hvl hs => ⟨vok_cons (l_vok hk hvl) hs, fun E p lc e R s m args below meth c H locs ls cells slots Q C hl w => lv_iload C.1 C.2.1 d (l_get hl hk) w⟩) k
theorem Sd_lload_n {i : Fin 4} {j : Nat} {x : Int} (d : decode M.2.1 pc = .ok (.lload_n i, 1)) (hp : pc + 1 = pc') (kk : Nat) (hi : (i : Nat) = j) (hk : l[kk]? = some (j, vl x)) (k : Sd M fr lw em pc' l (vl x :: st) h o) : Sd M fr lw em pc l (st) h o := by
  subst hp
  exact Sd.stack (fun hvl hs => ⟨vok_cons (l_vok hk hvl) hs, fun E p lc e R s m args below meth c H locs ls cells slots Q C hl w => lv_lload_n C.1 C.2.1 d hi (l_get hl hk) w⟩) k
theorem Sd_lload {j : Nat} {x : Int} (d : decode M.2.1 pc = .ok (.lload j, 2)) (hp : pc + 2 = pc') (kk : Nat) (hk : l[kk]? = some (j, vl x)) (k : Sd M fr lw em pc' l (vl x :: st) h o) : Sd M fr lw em pc l (st) h o := by
  subst hp
  exact Sd.stack (fun hvl hs => ⟨vok_cons (l_vok hk hvl) hs, fun E p lc e R s m args below meth c H locs ls cells slots Q C hl w => lv_lload C.1 C.2.1 d (l_get hl hk) w⟩) k
theorem Sd_aload_n {i : Fin 4} {j a : Nat} (d : decode M.2.1 pc = .ok (.aload_n i, 1)) (hp : pc + 1 = pc') (kk : Nat) (hi : (i : Nat) = j) (hk : l[kk]? = some (j, vr a)) (k : Sd M fr lw em pc' l (vr a :: st) h o) : Sd M fr lw em pc l (st) h o := by
  subst hp
  exact Sd.stack (fun hvl hs => ⟨vok_r hs, fun E p lc e R s m args below meth c H locs ls cells slots Q C hl w => by have hg := l_get hl hk; by_cases ha : a = 0; (· rw [show cv E (vr a) = .null from by subst ha; rfl] at hg; rw [List.map_cons, show cv E (vr a) = .null from by subst ha; rfl] at w; exact lv_aload_nN C.1 C.2.1 d hi hg w); (· rw [show cv E (vr a) = .ref (cad E a) from by show rv E a = _; unfold rv; rw [if_neg ha]] at hg; rw [List.map_cons, show cv E (vr a) = .ref (cad E a) from by show rv E a = _; unfold rv; rw [if_neg ha]] at w; exact lv_aload_n C.1 C.2.1 d hi hg w)⟩) k
theorem Sd_aload {j a : Nat} (d : decode M.2.1 pc = .ok (.aload j, 2)) (hp : pc + 2 = pc') (kk : Nat) (hk : l[kk]? = some (j, vr a)) (k : Sd M fr lw em pc' l (vr a :: st) h o) : Sd M fr lw em pc l (st) h o := by
  subst hp
  exact Sd.stack (fun hvl hs => ⟨vok_r hs, fun E p lc e R s m args below meth c H locs ls cells slots Q C hl w => by have hg := l_get hl hk; by_cases ha : a = 0; (· rw [show cv E (vr a) = .null from by subst ha; rfl] at hg; rw [List.map_cons, show cv E (vr a) = .null from by subst ha; rfl] at w; exact lv_aloadN C.1 C.2.1 d  hg w); (· rw [show cv E (vr a) = .ref (cad E a) from by show rv E a = _; unfold rv; rw [if_neg ha]] at hg; rw [List.map_cons, show cv E (vr a) = .ref (cad E a) from by show rv E a = _; unfold rv; rw [if_neg ha]] at w; exact lv_aload C.1 C.2.1 d  hg w)⟩) k
theorem Sd_iadd {x y : Int} (d : decode M.2.1 pc = .ok (.iadd, 1)) (hp : pc + 1 = pc') (k : Sd M fr lw em pc' l (vi (wr (x + y)) :: st) h o) : Sd M fr lw em pc l (vi y :: vi x :: st) h o := by
  subst hp
  exact Sd.stack (fun hvl hs => ⟨vok_i (inR_wr _) (vok_tl (vok_tl hs)), fun E p lc e R s m args below meth c H locs ls cells slots Q C hl w => lv_iadd C.1 C.2.1 d (by rw [i32_add x y]; exact w)⟩) k
theorem Sd_isub {x y : Int} (d : decode M.2.1 pc = .ok (.isub, 1)) (hp : pc + 1 = pc') (k : Sd M fr lw em pc' l (vi (wr (x - y)) :: st) h o) : Sd M fr lw em pc l (vi y :: vi x :: st) h o := by
  subst hp
  exact Sd.stack (fun hvl hs => ⟨vok_i (inR_wr _) (vok_tl (vok_tl hs)), fun E p lc e R s m args below meth c H locs ls cells slots Q C hl w => lv_isub C.1 C.2.1 d (by rw [i32_sub x y]; exact w)⟩) k
theorem Sd_imul {x y : Int} (d : decode M.2.1 pc = .ok (.imul, 1)) (hp : pc + 1 = pc') (k : Sd M fr lw em pc' l (vi (wr (x * y)) :: st) h o) : Sd M fr lw em pc l (vi y :: vi x :: st) h o := by
  subst hp
  exact Sd.stack (fun hvl hs => ⟨vok_i (inR_wr _) (vok_tl (vok_tl hs)), fun E p lc e R s m args below meth c H locs ls cells slots Q C hl w => lv_imul C.1 C.2.1 d (by rw [i32_mul x y]; exact w)⟩) k
def iAnd (x y : Int) : Int := (Int32.ofInt x &&& Int32.ofInt y).toInt
theorem Sd_iand {x y : Int} (d : decode M.2.1 pc = .ok (.iand, 1)) (hp : pc + 1 = pc') (k : Sd M fr lw em pc' l (vi (iAnd x y) :: st) h o) : Sd M fr lw em pc l (vi y :: vi x :: st) h o := by
  subst hp
  exact Sd.stack (fun hvl hs => ⟨vok_i (inR_toInt _) (vok_tl (vok_tl hs)), fun E p lc e R s m args below meth c H locs ls cells slots Q C hl w => lv_iand C.1 C.2.1 d (by rw [← of_toInt (Int32.ofInt x &&& Int32.ofInt y)]; exact w)⟩) k
def iOr (x y : Int) : Int := (Int32.ofInt x ||| Int32.ofInt y).toInt
theorem Sd_ior {x y : Int} (d : decode M.2.1 pc = .ok (.ior, 1)) (hp : pc + 1 = pc') (k : Sd M fr lw em pc' l (vi (iOr x y) :: st) h o) : Sd M fr lw em pc l (vi y :: vi x :: st) h o := by
  subst hp
  exact Sd.stack (fun hvl hs => ⟨vok_i (inR_toInt _) (vok_tl (vok_tl hs)), fun E p lc e R s m args below meth c H locs ls cells slots Q C hl w => lv_ior C.1 C.2.1 d (by rw [← of_toInt (Int32.ofInt x ||| Int32.ofInt y)]; exact w)⟩) k
def iXor (x y : Int) : Int := (Int32.ofInt x ^^^ Int32.ofInt y).toInt
theorem Sd_ixor {x y : Int} (d : decode M.2.1 pc = .ok (.ixor, 1)) (hp : pc + 1 = pc') (k : Sd M fr lw em pc' l (vi (iXor x y) :: st) h o) : Sd M fr lw em pc l (vi y :: vi x :: st) h o := by
  subst hp
  exact Sd.stack (fun hvl hs => ⟨vok_i (inR_toInt _) (vok_tl (vok_tl hs)), fun E p lc e R s m args below meth c H locs ls cells slots Q C hl w => lv_ixor C.1 C.2.1 d (by rw [← of_toInt (Int32.ofInt x ^^^ Int32.ofInt y)]; exact w)⟩) k
def iShl (x y : Int) : Int := (Int32.ofInt x <<< (Int32.ofInt y &&& 31)).toInt
theorem Sd_ishl {x y : Int} (d : decode M.2.1 pc = .ok (.ishl, 1)) (hp : pc + 1 = pc') (k : Sd M fr lw em pc' l (vi (iShl x y) :: st) h o) : Sd M fr lw em pc l (vi y :: vi x :: st) h o := by
  subst hp
  exact Sd.stack (fun hvl hs => ⟨vok_i (inR_toInt _) (vok_tl (vok_tl hs)), fun E p lc e R s m args below meth c H locs ls cells slots Q C hl w => lv_ishl C.1 C.2.1 d (by rw [← of_toInt (Int32.ofInt x <<< (Int32.ofInt y &&& 31))]; exact w)⟩) k
def iShr (x y : Int) : Int := (Int32.ofInt x >>> (Int32.ofInt y &&& 31)).toInt
theorem Sd_ishr {x y : Int} (d : decode M.2.1 pc = .ok (.ishr, 1)) (hp : pc + 1 = pc') (k : Sd M fr lw em pc' l (vi (iShr x y) :: st) h o) : Sd M fr lw em pc l (vi y :: vi x :: st) h o := by
  subst hp
  exact Sd.stack (fun hvl hs => ⟨vok_i (inR_toInt _) (vok_tl (vok_tl hs)), fun E p lc e R s m args below meth c H locs ls cells slots Q C hl w => lv_ishr C.1 C.2.1 d (by rw [← of_toInt (Int32.ofInt x >>> (Int32.ofInt y &&& 31))]; exact w)⟩) k
def iUshr (x y : Int) : Int := ((Int32.ofInt x).toUInt32 >>> ((Int32.ofInt y).toUInt32 &&& Int32.toUInt32 31)).toInt32.toInt
theorem Sd_iushr {x y : Int} (d : decode M.2.1 pc = .ok (.iushr, 1)) (hp : pc + 1 = pc') (k : Sd M fr lw em pc' l (vi (iUshr x y) :: st) h o) : Sd M fr lw em pc l (vi y :: vi x :: st) h o := by
  subst hp
  exact Sd.stack (fun hvl hs => ⟨vok_i (inR_toInt _) (vok_tl (vok_tl hs)), fun E p lc e R s m args below meth c H locs ls cells slots Q C hl w => lv_iushr C.1 C.2.1 d (of_toInt _).symm w⟩) k
def iDiv (x y : Int) : Int := (Int32.ofInt x / Int32.ofInt y).toInt
def iRem (x y : Int) : Int := (Int32.ofInt x - Int32.ofInt x / Int32.ofInt y * Int32.ofInt y).toInt
def lRem (x y : Int) : Int := (Int64.ofInt x - Int64.ofInt x / Int64.ofInt y * Int64.ofInt y).toInt
def lAnd (x y : Int) : Int := (Int64.ofInt x &&& Int64.ofInt y).toInt
theorem of_toInt64 (x : Int64) : Int64.ofInt x.toInt = x := Int64.ofInt_toInt x
theorem inR64_toInt (x : Int64) : inR64 x.toInt := ⟨by have := Int64.le_toInt x; simpa using this, by have := Int64.toInt_lt x; simpa using this⟩
theorem inR64_ofInt {z : Int} (h : inR64 z) : (Int64.ofInt z).toInt = z := Int64.toInt_ofInt_of_le h.1 h.2
theorem inR64_wr (z : Int) : inR64 (wr64 z) := by
  unfold wr64 inR64
  have h1 := Int.le_bmod (x := z) (m := 18446744073709551616) (by decide)
  have h2 := Int.bmod_lt (x := z) (m := 18446744073709551616) (by decide)
  omega
theorem ofInt_wr64 (z : Int) : Int64.ofInt (wr64 z) = Int64.ofInt z := by
  apply Int64.toInt_inj.mp
  rw [inR64_ofInt (inR64_wr z), Int64.toInt_ofInt]
  rfl
theorem i64_lt {x y : Int} (hx : inR64 x) (hy : inR64 y) : Int64.ofInt x < Int64.ofInt y ↔ x < y := by
  rw [Int64.lt_iff_toInt_lt, inR64_ofInt hx, inR64_ofInt hy]
theorem i64_inj {x y : Int} (hx : inR64 x) (hy : inR64 y) : Int64.ofInt x = Int64.ofInt y ↔ x = y := by
  constructor
  · intro h
    have := congrArg Int64.toInt h
    rwa [inR64_ofInt hx, inR64_ofInt hy] at this
  · intro h; rw [h]
theorem Sd_ladd {x y : Int} (d : decode M.2.1 pc = .ok (.ladd, 1)) (hp : pc + 1 = pc') (k : Sd M fr lw em pc' l (vl (wr64 (x + y)) :: st) h o) : Sd M fr lw em pc l (vl y :: vl x :: st) h o := by
  subst hp
  exact Sd.stack (fun hvl hs => ⟨vok_l (inR64_wr _) (vok_tl (vok_tl hs)), fun E p lc e R s m args below meth c H locs ls cells slots Q C hl w => lv_ladd C.1 C.2.1 d (by rw [← Int64.ofInt_add, ← ofInt_wr64]; exact w)⟩) k
theorem Sd_lmul {x y : Int} (d : decode M.2.1 pc = .ok (.lmul, 1)) (hp : pc + 1 = pc') (k : Sd M fr lw em pc' l (vl (wr64 (x * y)) :: st) h o) : Sd M fr lw em pc l (vl y :: vl x :: st) h o := by
  subst hp
  exact Sd.stack (fun hvl hs => ⟨vok_l (inR64_wr _) (vok_tl (vok_tl hs)), fun E p lc e R s m args below meth c H locs ls cells slots Q C hl w => lv_lmul C.1 C.2.1 d (by rw [← Int64.ofInt_mul, ← ofInt_wr64]; exact w)⟩) k
theorem Sd_land {x y : Int} (d : decode M.2.1 pc = .ok (.land, 1)) (hp : pc + 1 = pc') (k : Sd M fr lw em pc' l (vl (lAnd x y) :: st) h o) : Sd M fr lw em pc l (vl y :: vl x :: st) h o := by
  subst hp
  exact Sd.stack (fun hvl hs => ⟨vok_l (inR64_toInt _) (vok_tl (vok_tl hs)), fun E p lc e R s m args below meth c H locs ls cells slots Q C hl w => lv_land C.1 C.2.1 d (by rw [← of_toInt64 (Int64.ofInt x &&& Int64.ofInt y)]; exact w)⟩) k
theorem Sd_i2l {x : Int} (d : decode M.2.1 pc = .ok (.i2l, 1)) (hp : pc + 1 = pc') (k : Sd M fr lw em pc' l (vl x :: st) h o) : Sd M fr lw em pc l (vi x :: st) h o := by
  subst hp
  exact Sd.stack (fun hvl hs => ⟨vok_l ⟨by have := iv hs; unfold inR at this; omega, by have := iv hs; unfold inR at this; omega⟩ (vok_tl hs), fun E p lc e R s m args below meth c H locs ls cells slots Q C hl w => lv_i2l C.1 C.2.1 d (by apply Int64.toInt_inj.mp; rw [Int32.toInt_toInt64, inR_ofInt (iv hs), inR64_ofInt ⟨by have := iv hs; unfold inR at this; omega, by have := iv hs; unfold inR at this; omega⟩]) w⟩) k
theorem Sd_l2i {x : Int} (d : decode M.2.1 pc = .ok (.l2i, 1)) (hp : pc + 1 = pc') (k : Sd M fr lw em pc' l (vi (wr x) :: st) h o) : Sd M fr lw em pc l (vl x :: st) h o := by
  subst hp
  exact Sd.stack (fun hvl hs => ⟨vok_i (inR_wr _) (vok_tl hs), fun E p lc e R s m args below meth c H locs ls cells slots Q C hl w => lv_l2i C.1 C.2.1 d (by rw [ofInt_wr]; apply Int32.toInt_inj.mp; rw [Int64.toInt_toInt32, inR64_ofInt (lv6 hs), Int32.toInt_ofInt]) w⟩) k
def i2b (x : Int) : Int := (Int32.ofInt x).toInt8.toInt32.toInt
theorem Sd_i2b {x : Int} (d : decode M.2.1 pc = .ok (.i2b, 1)) (hp : pc + 1 = pc') (k : Sd M fr lw em pc' l (vi (i2b x) :: st) h o) : Sd M fr lw em pc l (vi x :: st) h o := by
  subst hp
  exact Sd.stack (fun hvl hs => ⟨vok_i (inR_toInt _) (vok_tl hs), fun E p lc e R s m args below meth c H locs ls cells slots Q C hl w => lv_i2b C.1 C.2.1 d (of_toInt _).symm w⟩) k
def lCmp (x y : Int) : Int := if y < x then 1 else if x = y then 0 else -1
theorem Sd_lcmp {x y : Int} (d : decode M.2.1 pc = .ok (.lcmp, 1)) (hp : pc + 1 = pc') (k : Sd M fr lw em pc' l (vi (lCmp x y) :: st) h o) : Sd M fr lw em pc l (vl y :: vl x :: st) h o := by
  subst hp
  exact Sd.stack (fun hvl hs => ⟨vok_i (by unfold lCmp inR; split <;> (try split) <;> decide) (vok_tl (vok_tl hs)), fun E p lc e R s m args below meth c H locs ls cells slots Q C hl w => W.lcmp C.1 C.2.1 d (by have e : lg_cmp (Int64.ofInt x) (Int64.ofInt y) = Int32.ofInt (lCmp x y) := (by have hx := lv6 (vok_tl hs); have hy := lv6 hs; unfold lg_cmp lCmp; simp only [i64_lt hy hx, i64_inj hx hy]; split <;> (try split) <;> rfl); rw [e]; exact w)⟩) k
theorem Sd_dup {v : AV} (d : decode M.2.1 pc = .ok (.dup, 1)) (hp : pc + 1 = pc') (hc : ∀ E, (cv E v).category = 1) (k : Sd M fr lw em pc' l (v :: v :: st) h o) : Sd M fr lw em pc l (v :: st) h o := by
  subst hp
  exact Sd.stack (fun hvl hs => ⟨vok_cons (vok_hd hs) hs, fun E p lc e R s m args below meth c H locs ls cells slots Q C hl w => lv_dup C.1 C.2.1 d (hc E) w⟩) k
theorem Sd_pop {v : AV} (d : decode M.2.1 pc = .ok (.pop, 1)) (hp : pc + 1 = pc') (hc : ∀ E, (cv E v).category = 1) (k : Sd M fr lw em pc' l (st) h o) : Sd M fr lw em pc l (v :: st) h o := by
  subst hp
  exact Sd.stack (fun hvl hs => ⟨vok_tl hs, fun E p lc e R s m args below meth c H locs ls cells slots Q C hl w => lv_pop C.1 C.2.1 d (hc E) w⟩) k
theorem Sd_dup2 {v u : AV} (d : decode M.2.1 pc = .ok (.dup2, 1)) (hp : pc + 1 = pc') (hc : ∀ E, (cv E v).category = 1) (hc2 : ∀ E, (cv E u).category = 1) (k : Sd M fr lw em pc' l (v :: u :: v :: u :: st) h o) : Sd M fr lw em pc l (v :: u :: st) h o := by
  subst hp
  exact Sd.stack (fun hvl hs => ⟨vok_cons (vok_hd hs) (vok_cons (vok_hd (vok_tl hs)) hs), fun E p lc e R s m args below meth c H locs ls cells slots Q C hl w => lv_dup2_11 C.1 C.2.1 d (hc E) (hc2 E) w⟩) k
theorem cat_i (z : Int) : ∀ E, (cv E (vi z)).category = 1 := fun _ => rfl
theorem cat_r (a : Nat) : ∀ E, (cv E (vr a)).category = 1 := fun E => by show (rv E a).category = 1; unfold rv; split <;> rfl
theorem Sd_goto {off : Int} (d : decode M.2.1 pc = .ok (.goto off, 3)) (ht : (pc : Int) + off = (tgt : Int)) (k : Sd M fr lw em tgt l st h o) : Sd M fr lw em pc l st h o :=
  Sd.stack (fun hvl hs => ⟨hs, fun E p lc e R s m args below meth c H locs ls cells slots Q C hl w => lv_goto C.1 C.2.1 d ht w⟩) k
theorem Sd_idiv {x y : Int} (d : decode M.2.1 pc = .ok (.idiv, 1)) (hp : pc + 1 = pc') (k : Sd M fr lw em pc' l (vi (iDiv x y) :: st) h o) : Sd M fr lw em pc l (vi y :: vi x :: st) h (if y = 0 then none else o) := by
  subst hp
  by_cases hy : y = 0
  · rw [if_pos hy]; exact Sd.none
  rw [if_neg hy]
  refine Sd.stack (fun hvl hs => ⟨vok_i (inR_toInt _) (vok_tl (vok_tl hs)), fun E p lc e R s m args below meth c H locs ls cells slots Q C hl w => lv_idiv C.1 C.2.1 d (fun q => hy ?_) ?_⟩) k
  · exact (i32_inj (iv hs) inR0).mp q
  · rw [← of_toInt (Int32.ofInt x / Int32.ofInt y)]; exact w
theorem Sd_irem {x y : Int} (d : decode M.2.1 pc = .ok (.irem, 1)) (hp : pc + 1 = pc') (k : Sd M fr lw em pc' l (vi (iRem x y) :: st) h o) : Sd M fr lw em pc l (vi y :: vi x :: st) h (if y = 0 then none else o) := by
  subst hp
  by_cases hy : y = 0
  · rw [if_pos hy]; exact Sd.none
  rw [if_neg hy]
  refine Sd.stack (fun hvl hs => ⟨vok_i (inR_toInt _) (vok_tl (vok_tl hs)), fun E p lc e R s m args below meth c H locs ls cells slots Q C hl w => lv_irem C.1 C.2.1 d (fun q => hy ?_) ?_⟩) k
  · exact (i32_inj (iv hs) inR0).mp q
  · rw [← of_toInt (Int32.ofInt x - Int32.ofInt x / Int32.ofInt y * Int32.ofInt y)]; exact w
theorem inR640 : inR64 0 := ⟨by decide, by decide⟩
theorem Sd_lrem {x y : Int} (d : decode M.2.1 pc = .ok (.lrem, 1)) (hp : pc + 1 = pc') (k : Sd M fr lw em pc' l (vl (lRem x y) :: st) h o) : Sd M fr lw em pc l (vl y :: vl x :: st) h (if y = 0 then none else o) := by
  subst hp
  by_cases hy : y = 0
  · rw [if_pos hy]; exact Sd.none
  rw [if_neg hy]
  refine Sd.stack (fun hvl hs => ⟨vok_l (inR64_toInt _) (vok_tl (vok_tl hs)), fun E p lc e R s m args below meth c H locs ls cells slots Q C hl w => lv_lrem C.1 C.2.1 d (fun q => hy ?_) ?_⟩) k
  · exact (i64_inj (lv6 hs) inR640).mp q
  · rw [← of_toInt64 (Int64.ofInt x - Int64.ofInt x / Int64.ofInt y * Int64.ofInt y)]; exact w
/-- a branch -/
theorem Sd.br {c : Prop} (hst : (∀ v ∈ st, vok v) → (∀ v ∈ st', vok v) ∧ ∀ (E : AE) (p : Program) (lc : Launch) (e : Env) (R : Room) (s : State) (m : MethodId) (args : Array Value) (below : List Frame) (meth : Method) (cd : Code) (H : Heap) (locs : List Loc) (ls : Array Slot) (cells slots : Nat) (Q : State → Prop),
      Ctx M fr lw E p R s m args meth cd → (c → W p lc e R s m args below meth cd H locs cells slots Q (F0 m tgt ls (st'.map (cv E)))) → (¬ c → W p lc e R s m args below meth cd H locs cells slots Q (F0 m pc' ls (st'.map (cv E)))) → W p lc e R s m args below meth cd H locs cells slots Q (F0 m pc ls (st.map (cv E))))
    (inst : Decidable c) (k1 : c → Sd M fr lw em tgt l st' h o1) (k2 : ¬ c → Sd M fr lw em pc' l st' h o2) : Sd M fr lw em pc l st h (@ite _ c inst o1 o2) := by
  intro r h' ho
  by_cases hc : c
  · rw [if_pos hc] at ho
    obtain ⟨hm, hk⟩ := k1 hc r h' ho
    refine ⟨hm, fun E p lc e R s m args below meth cd n0 s0 H locs ls C hc1 hs hn hn2 hH hS hl hvl hvs => ?_⟩
    obtain ⟨hv, hw⟩ := hst hvs
    exact hw E p lc e R s m args below meth cd H locs ls _ _ _ C (fun _ => hk E p lc e R s m args below meth cd n0 s0 H locs ls C hc1 hs hn hn2 hH hS hl hvl hv) (fun q => absurd hc q)
  · rw [if_neg hc] at ho
    obtain ⟨hm, hk⟩ := k2 hc r h' ho
    refine ⟨hm, fun E p lc e R s m args below meth cd n0 s0 H locs ls C hc1 hs hn hn2 hH hS hl hvl hvs => ?_⟩
    obtain ⟨hv, hw⟩ := hst hvs
    exact hw E p lc e R s m args below meth cd H locs ls _ _ _ C (fun q => absurd q hc) (fun _ => hk E p lc e R s m args below meth cd n0 s0 H locs ls C hc1 hs hn hn2 hH hS hl hvl hv)
theorem Sd_icmp_eq {x y : Int} {off : Int} (d : decode M.2.1 pc = .ok (.if_icmp .eq off, 3)) (ht : (pc : Int) + off = (tgt : Int)) (hp : pc + 3 = pc') {inst : Decidable (x = y)} (k1 : x = y → Sd M fr lw em tgt l st h o1) (k2 : ¬ (x = y) → Sd M fr lw em pc' l st h o2) : Sd M fr lw em pc l (vi y :: vi x :: st) h (@ite _ (x = y) inst o1 o2) := by
  subst hp
  refine Sd.br (fun hs => ⟨vok_tl (vok_tl hs), fun E p lc e R s m args below meth cd H locs ls cells slots Q C w1 w2 => lv_icmp_eq C.1 C.2.1 d ht (fun q => w1 ?_) (fun q => w2 ?_)⟩) inst k1 k2
  · exact (i32_inj (iv (vok_tl hs)) (iv hs)).mp q
  · exact fun z => q ((i32_inj (iv (vok_tl hs)) (iv hs)).mpr z)
theorem Sd_if_eq {x : Int} {off : Int} (d : decode M.2.1 pc = .ok (.ifCond .eq off, 3)) (ht : (pc : Int) + off = (tgt : Int)) (hp : pc + 3 = pc') {inst : Decidable (x = 0)} (k1 : x = 0 → Sd M fr lw em tgt l st h o1) (k2 : ¬ (x = 0) → Sd M fr lw em pc' l st h o2) : Sd M fr lw em pc l (vi x :: st) h (@ite _ (x = 0) inst o1 o2) := by
  subst hp
  refine Sd.br (fun hs => ⟨vok_tl hs, fun E p lc e R s m args below meth cd H locs ls cells slots Q C w1 w2 => lv_if_eq C.1 C.2.1 d ht (fun q => w1 ?_) (fun q => w2 ?_)⟩) inst k1 k2
  · exact (i32_inj (iv hs) inR0).mp q
  · exact fun z => q ((i32_inj (iv hs) inR0).mpr z)
theorem Sd_icmp_ne {x y : Int} {off : Int} (d : decode M.2.1 pc = .ok (.if_icmp .ne off, 3)) (ht : (pc : Int) + off = (tgt : Int)) (hp : pc + 3 = pc') {inst : Decidable (¬ x = y)} (k1 : ¬ x = y → Sd M fr lw em tgt l st h o1) (k2 : ¬ (¬ x = y) → Sd M fr lw em pc' l st h o2) : Sd M fr lw em pc l (vi y :: vi x :: st) h (@ite _ (¬ x = y) inst o1 o2) := by
  subst hp
  refine Sd.br (fun hs => ⟨vok_tl (vok_tl hs), fun E p lc e R s m args below meth cd H locs ls cells slots Q C w1 w2 => lv_icmp_ne C.1 C.2.1 d ht (fun q => w1 ?_) (fun q => w2 ?_)⟩) inst k1 k2
  · exact (not_congr (i32_inj (iv (vok_tl hs)) (iv hs))).mp q
  · exact fun z => (not_congr (i32_inj (iv (vok_tl hs)) (iv hs))).mpr z q
theorem Sd_if_ne {x : Int} {off : Int} (d : decode M.2.1 pc = .ok (.ifCond .ne off, 3)) (ht : (pc : Int) + off = (tgt : Int)) (hp : pc + 3 = pc') {inst : Decidable (¬ x = 0)} (k1 : ¬ x = 0 → Sd M fr lw em tgt l st h o1) (k2 : ¬ (¬ x = 0) → Sd M fr lw em pc' l st h o2) : Sd M fr lw em pc l (vi x :: st) h (@ite _ (¬ x = 0) inst o1 o2) := by
  subst hp
  refine Sd.br (fun hs => ⟨vok_tl hs, fun E p lc e R s m args below meth cd H locs ls cells slots Q C w1 w2 => lv_if_ne C.1 C.2.1 d ht (fun q => w1 ?_) (fun q => w2 ?_)⟩) inst k1 k2
  · exact (not_congr (i32_inj (iv hs) inR0)).mp q
  · exact fun z => (not_congr (i32_inj (iv hs) inR0)).mpr z q
theorem Sd_icmp_lt {x y : Int} {off : Int} (d : decode M.2.1 pc = .ok (.if_icmp .lt off, 3)) (ht : (pc : Int) + off = (tgt : Int)) (hp : pc + 3 = pc') {inst : Decidable (x < y)} (k1 : x < y → Sd M fr lw em tgt l st h o1) (k2 : ¬ (x < y) → Sd M fr lw em pc' l st h o2) : Sd M fr lw em pc l (vi y :: vi x :: st) h (@ite _ (x < y) inst o1 o2) := by
  subst hp
  refine Sd.br (fun hs => ⟨vok_tl (vok_tl hs), fun E p lc e R s m args below meth cd H locs ls cells slots Q C w1 w2 => lv_icmp_lt C.1 C.2.1 d ht (fun q => w1 ?_) (fun q => w2 ?_)⟩) inst k1 k2
  · exact (i32_lt (iv (vok_tl hs)) (iv hs)).mp q
  · exact fun z => q ((i32_lt (iv (vok_tl hs)) (iv hs)).mpr z)
theorem Sd_if_lt {x : Int} {off : Int} (d : decode M.2.1 pc = .ok (.ifCond .lt off, 3)) (ht : (pc : Int) + off = (tgt : Int)) (hp : pc + 3 = pc') {inst : Decidable (x < 0)} (k1 : x < 0 → Sd M fr lw em tgt l st h o1) (k2 : ¬ (x < 0) → Sd M fr lw em pc' l st h o2) : Sd M fr lw em pc l (vi x :: st) h (@ite _ (x < 0) inst o1 o2) := by
  subst hp
  refine Sd.br (fun hs => ⟨vok_tl hs, fun E p lc e R s m args below meth cd H locs ls cells slots Q C w1 w2 => lv_if_lt C.1 C.2.1 d ht (fun q => w1 ?_) (fun q => w2 ?_)⟩) inst k1 k2
  · exact (i32_lt (iv hs) inR0).mp q
  · exact fun z => q ((i32_lt (iv hs) inR0).mpr z)
theorem Sd_icmp_ge {x y : Int} {off : Int} (d : decode M.2.1 pc = .ok (.if_icmp .ge off, 3)) (ht : (pc : Int) + off = (tgt : Int)) (hp : pc + 3 = pc') {inst : Decidable (y ≤ x)} (k1 : y ≤ x → Sd M fr lw em tgt l st h o1) (k2 : ¬ (y ≤ x) → Sd M fr lw em pc' l st h o2) : Sd M fr lw em pc l (vi y :: vi x :: st) h (@ite _ (y ≤ x) inst o1 o2) := by
  subst hp
  refine Sd.br (fun hs => ⟨vok_tl (vok_tl hs), fun E p lc e R s m args below meth cd H locs ls cells slots Q C w1 w2 => lv_icmp_ge C.1 C.2.1 d ht (fun q => w1 ?_) (fun q => w2 ?_)⟩) inst k1 k2
  · exact (i32_le (iv hs) (iv (vok_tl hs))).mp q
  · exact fun z => q ((i32_le (iv hs) (iv (vok_tl hs))).mpr z)
theorem Sd_if_ge {x : Int} {off : Int} (d : decode M.2.1 pc = .ok (.ifCond .ge off, 3)) (ht : (pc : Int) + off = (tgt : Int)) (hp : pc + 3 = pc') {inst : Decidable (0 ≤ x)} (k1 : 0 ≤ x → Sd M fr lw em tgt l st h o1) (k2 : ¬ (0 ≤ x) → Sd M fr lw em pc' l st h o2) : Sd M fr lw em pc l (vi x :: st) h (@ite _ (0 ≤ x) inst o1 o2) := by
  subst hp
  refine Sd.br (fun hs => ⟨vok_tl hs, fun E p lc e R s m args below meth cd H locs ls cells slots Q C w1 w2 => lv_if_ge C.1 C.2.1 d ht (fun q => w1 ?_) (fun q => w2 ?_)⟩) inst k1 k2
  · exact (i32_le inR0 (iv hs)).mp q
  · exact fun z => q ((i32_le inR0 (iv hs)).mpr z)
theorem Sd_icmp_gt {x y : Int} {off : Int} (d : decode M.2.1 pc = .ok (.if_icmp .gt off, 3)) (ht : (pc : Int) + off = (tgt : Int)) (hp : pc + 3 = pc') {inst : Decidable (y < x)} (k1 : y < x → Sd M fr lw em tgt l st h o1) (k2 : ¬ (y < x) → Sd M fr lw em pc' l st h o2) : Sd M fr lw em pc l (vi y :: vi x :: st) h (@ite _ (y < x) inst o1 o2) := by
  subst hp
  refine Sd.br (fun hs => ⟨vok_tl (vok_tl hs), fun E p lc e R s m args below meth cd H locs ls cells slots Q C w1 w2 => lv_icmp_gt C.1 C.2.1 d ht (fun q => w1 ?_) (fun q => w2 ?_)⟩) inst k1 k2
  · exact (i32_lt (iv hs) (iv (vok_tl hs))).mp q
  · exact fun z => q ((i32_lt (iv hs) (iv (vok_tl hs))).mpr z)
theorem Sd_if_gt {x : Int} {off : Int} (d : decode M.2.1 pc = .ok (.ifCond .gt off, 3)) (ht : (pc : Int) + off = (tgt : Int)) (hp : pc + 3 = pc') {inst : Decidable (0 < x)} (k1 : 0 < x → Sd M fr lw em tgt l st h o1) (k2 : ¬ (0 < x) → Sd M fr lw em pc' l st h o2) : Sd M fr lw em pc l (vi x :: st) h (@ite _ (0 < x) inst o1 o2) := by
  subst hp
  refine Sd.br (fun hs => ⟨vok_tl hs, fun E p lc e R s m args below meth cd H locs ls cells slots Q C w1 w2 => lv_if_gt C.1 C.2.1 d ht (fun q => w1 ?_) (fun q => w2 ?_)⟩) inst k1 k2
  · exact (i32_lt inR0 (iv hs)).mp q
  · exact fun z => q ((i32_lt inR0 (iv hs)).mpr z)
theorem Sd_icmp_le {x y : Int} {off : Int} (d : decode M.2.1 pc = .ok (.if_icmp .le off, 3)) (ht : (pc : Int) + off = (tgt : Int)) (hp : pc + 3 = pc') {inst : Decidable (x ≤ y)} (k1 : x ≤ y → Sd M fr lw em tgt l st h o1) (k2 : ¬ (x ≤ y) → Sd M fr lw em pc' l st h o2) : Sd M fr lw em pc l (vi y :: vi x :: st) h (@ite _ (x ≤ y) inst o1 o2) := by
  subst hp
  refine Sd.br (fun hs => ⟨vok_tl (vok_tl hs), fun E p lc e R s m args below meth cd H locs ls cells slots Q C w1 w2 => lv_icmp_le C.1 C.2.1 d ht (fun q => w1 ?_) (fun q => w2 ?_)⟩) inst k1 k2
  · exact (i32_le (iv (vok_tl hs)) (iv hs)).mp q
  · exact fun z => q ((i32_le (iv (vok_tl hs)) (iv hs)).mpr z)
theorem Sd_if_le {x : Int} {off : Int} (d : decode M.2.1 pc = .ok (.ifCond .le off, 3)) (ht : (pc : Int) + off = (tgt : Int)) (hp : pc + 3 = pc') {inst : Decidable (x ≤ 0)} (k1 : x ≤ 0 → Sd M fr lw em tgt l st h o1) (k2 : ¬ (x ≤ 0) → Sd M fr lw em pc' l st h o2) : Sd M fr lw em pc l (vi x :: st) h (@ite _ (x ≤ 0) inst o1 o2) := by
  subst hp
  refine Sd.br (fun hs => ⟨vok_tl hs, fun E p lc e R s m args below meth cd H locs ls cells slots Q C w1 w2 => lv_if_le C.1 C.2.1 d ht (fun q => w1 ?_) (fun q => w2 ?_)⟩) inst k1 k2
  · exact (i32_le (iv hs) inR0).mp q
  · exact fun z => q ((i32_le (iv hs) inR0).mpr z)
theorem Sd_ifnull {a : Nat} {off : Int} (d : decode M.2.1 pc = .ok (.ifnull off, 3)) (ht : (pc : Int) + off = (tgt : Int)) (hp : pc + 3 = pc') {inst : Decidable (a = 0)} (k1 : a = 0 → Sd M fr lw em tgt l st h o1) (k2 : ¬ (a = 0) → Sd M fr lw em pc' l st h o2) : Sd M fr lw em pc l (vr a :: st) h (@ite _ (a = 0) inst o1 o2) := by
  subst hp
  refine Sd.br (fun hs => ⟨vok_tl hs, fun E p lc e R s m args below meth cd H locs ls cells slots Q C w1 w2 => ?_⟩) inst k1 k2
  by_cases ha : a = 0
  · rw [List.map_cons, show cv E (vr a) = .null from by subst ha; rfl]; exact lv_ifnullN C.1 C.2.1 d ht (w1 ha)
  · rw [List.map_cons, show cv E (vr a) = .ref (cad E a) from by show rv E a = _; unfold rv; rw [if_neg ha]]; exact lv_ifnull C.1 C.2.1 d (w2 ha)
theorem Sd_ifnonnull {a : Nat} {off : Int} (d : decode M.2.1 pc = .ok (.ifnonnull off, 3)) (ht : (pc : Int) + off = (tgt : Int)) (hp : pc + 3 = pc') {inst : Decidable (¬ a = 0)} (k1 : ¬ a = 0 → Sd M fr lw em tgt l st h o1) (k2 : ¬ (¬ a = 0) → Sd M fr lw em pc' l st h o2) : Sd M fr lw em pc l (vr a :: st) h (@ite _ (¬ a = 0) inst o1 o2) := by
  subst hp
  refine Sd.br (fun hs => ⟨vok_tl hs, fun E p lc e R s m args below meth cd H locs ls cells slots Q C w1 w2 => ?_⟩) inst k1 k2
  by_cases ha : a = 0
  · rw [List.map_cons, show cv E (vr a) = .null from by subst ha; rfl]; exact lv_ifnonnullN C.1 C.2.1 d (w2 (fun q => q ha))
  · rw [List.map_cons, show cv E (vr a) = .ref (cad E a) from by show rv E a = _; unfold rv; rw [if_neg ha]]; exact lv_ifnonnull C.1 C.2.1 d ht (w1 ha)
end SD
end
section
/-! AM: locals, fields, arrays -/
def isL (v : AV) : Bool := match v with
  | .inr (.inl _) => true
  | _ => false
theorem cat_isL (E : AE) (v : AV) : ((cv E v).category == 2) = isL v := by
  rcases v with z | z | a
  · rfl
  · rfl
  · show ((rv E a).category == 2) = false
    unfold rv; split <;> rfl
def stL (j : Nat) (v : AV) (l : List (Nat × AV)) : List (Nat × AV) := (j, v) :: l.filter (fun q => !(q.1 == j) && !(q.1 + 1 == j && isL q.2))
theorem stL_map (E : AE) (j : Nat) (v : AV) (l : List (Nat × AV)) : (j, cv E v) :: (l.map (cvp E)).filter (fun q => !(q.1 == j) && !(q.1 + 1 == j && q.2.category == 2)) = (stL j v l).map (cvp E) := by
  unfold stL
  rw [List.map_cons, List.filter_map]
  congr 2
  apply List.filter_congr
  intro q _
  show (!(q.1 == j) && !(q.1 + 1 == j && (cv E q.2).category == 2)) = _
  rw [cat_isL]
theorem stL_vok {j : Nat} {v : AV} {l : List (Nat × AV)} (hv : vok v) (hl : ∀ q ∈ l, vok q.2) : ∀ q ∈ stL j v l, vok q.2 := by
  intro q hq
  rcases List.mem_cons.mp hq with rfl | hq
  · exact hv
  · exact hl q (List.mem_filter.mp hq).1
section SE
variable {ρ : Type} {M : AMt} {fr lw : Nat} {em : ρ → Option AV} {pc pc' tgt : Nat} {l l' : List (Nat × AV)} {st st' : List AV} {h : AH} {o o1 o2 : Option (ρ × AH)}
theorem Sd.sub (ks : List Nat) (hl : ks.filterMap (fun k => l[k]?) = l') (k : Sd M fr lw em pc l' st h o) : Sd M fr lw em pc l st h o := by
  intro r h' ho
  obtain ⟨hm, hk⟩ := k r h' ho
  refine ⟨hm, fun E p lc e R s m args below meth c n0 s0 H locs ls C hc hs hn hn2 hH hS hl1 hvl hvs => ?_⟩
  have hsub : ∀ q ∈ l', q ∈ l := by
    intro q hq
    rw [← hl] at hq
    obtain ⟨i, -, hi⟩ := List.mem_filterMap.mp hq
    exact List.mem_of_getElem? hi
  refine hk E p lc e R s m args below meth c n0 s0 H locs ls C hc hs hn hn2 hH hS ⟨hl1.1, hl1.2.1, fun q hq => ?_⟩ (fun q hq => hvl q (hsub q hq)) hvs
  obtain ⟨q0, h1, h2⟩ := List.mem_map.mp hq
  exact hl1.2.2 q (List.mem_map.mpr ⟨q0, hsub q0 h1, h2⟩)
/-- a store into a local -/
theorem Sd.store {j : Nat} {v : AV} (hst : ∀ (E : AE) (p : Program) (lc : Launch) (e : Env) (R : Room) (s : State) (m : MethodId) (args : Array Value) (below : List Frame) (meth : Method) (c : Code) (H : Heap) (locs : List Loc) (ls : Array Slot) (cells slots : Nat) (Q : State → Prop),
      Ctx M fr lw E p R s m args meth c → lv_has ls M.2.2.1 (l.map (cvp E)) → (∀ ls' : Array Slot, lv_has ls' M.2.2.1 ((stL j v l).map (cvp E)) → W p lc e R s m args below meth c H locs cells slots Q (F0 m pc' ls' (st.map (cv E)))) → W p lc e R s m args below meth c H locs cells slots Q (F0 m pc ls (st'.map (cv E))))
    (hvk : (∀ v ∈ st', vok v) → (∀ q ∈ l, vok q.2) → (∀ v ∈ st, vok v) ∧ vok v) (hl' : stL j v l = l') (k : Sd M fr lw em pc' l' st h o) : Sd M fr lw em pc l st' h o := by
  subst hl'
  intro r h' ho
  obtain ⟨hm, hk⟩ := k r h' ho
  refine ⟨hm, fun E p lc e R s m args below meth c n0 s0 H locs ls C hc hs hn hn2 hH hS hl hvl hvs => ?_⟩
  obtain ⟨g1, g2⟩ := hvk hvs hvl
  exact hst E p lc e R s m args below meth c H locs ls _ _ _ C hl (fun ls' hl' => hk E p lc e R s m args below meth c n0 s0 H locs ls' C hc hs hn hn2 hH hS hl' (stL_vok g2 hvl) g1)
theorem Sd_istore_n {i : Fin 4} {j : Nat} {x : Int} (d : decode M.2.1 pc = .ok (.istore_n i, 1)) (hp : pc + 1 = pc') (hi : (i : Nat) = j) (hj : j < M.2.2.1) (hl' : stL j (vi x) l = l') (k : Sd M fr lw em pc' l' st h o) : Sd M fr lw em pc l (vi x :: st) h o := by
  subst hp
  exact Sd.store (fun E p lc e R s m args below meth c H locs ls cells slots Q C hl w => lv_istore_n C.1 C.2.1 d hi hl hj (stL_map E j (vi x) l) w) (fun hs hvl => ⟨vok_tl hs, vok_hd hs⟩) hl' k
theorem Sd_istore {j : Nat} {x : Int} (d : decode M.2.1 pc = .ok (.istore j, 2)) (hp : pc + 2 = pc') (hj : j < M.2.2.1) (hl' : stL j (vi x) l = l') (k : Sd M fr lw em pc' l' st h o) : Sd M fr lw em pc l (vi x :: st) h o := by
  subst hp
  exact Sd.store (fun E p lc e R s m args below meth c H locs ls cells slots Q C hl w => lv_istore C.1 C.2.1 d hl hj (stL_map E j (vi x) l) w) (fun hs hvl => ⟨vok_tl hs, vok_hd hs⟩) hl' k
/-- a reference that isn't null -/
theorem Sd_astore_n {i : Fin 4} {j a : Nat} (d : decode M.2.1 pc = .ok (.astore_n i, 1)) (hp : pc + 1 = pc') (hi : (i : Nat) = j) (hj : j < M.2.2.1) (hl' : stL j (vr a) l = l') {inst : Decidable (a = 0)} (k : ¬ a = 0 → Sd M fr lw em pc' l' st h o) : Sd M fr lw em pc l (vr a :: st) h (@ite _ (a = 0) inst none o) := by
  subst hp
  by_cases ha : a = 0
  · rw [if_pos ha]; exact Sd.none
  rw [if_neg ha]
  refine Sd.store (fun E p lc e R s m args below meth c H locs ls cells slots Q C hl w => ?_) (fun hs hvl => ⟨vok_tl hs, vok_hd hs⟩) hl' (k ha)
  have e1 : cv E (vr a) = .ref (cad E a) := by show rv E a = _; unfold rv; rw [if_neg ha]
  rw [List.map_cons, e1]
  exact lv_astore_n C.1 C.2.1 d hi hl hj (by rw [← e1]; exact stL_map E j (vr a) l) w
theorem Sd_astore {j a : Nat} (d : decode M.2.1 pc = .ok (.astore j, 2)) (hp : pc + 2 = pc') (hj : j < M.2.2.1) (hl' : stL j (vr a) l = l') {inst : Decidable (a = 0)} (k : ¬ a = 0 → Sd M fr lw em pc' l' st h o) : Sd M fr lw em pc l (vr a :: st) h (@ite _ (a = 0) inst none o) := by
  subst hp
  by_cases ha : a = 0
  · rw [if_pos ha]; exact Sd.none
  rw [if_neg ha]
  refine Sd.store (fun E p lc e R s m args below meth c H locs ls cells slots Q C hl w => ?_) (fun hs hvl => ⟨vok_tl hs, vok_hd hs⟩) hl' (k ha)
  have e1 : cv E (vr a) = .ref (cad E a) := by show rv E a = _; unfold rv; rw [if_neg ha]
  rw [List.map_cons, e1]
  exact lv_astore C.1 C.2.1 d hl hj (by rw [← e1]; exact stL_map E j (vr a) l) w
theorem Sd_iinc {j : Nat} {x n : Int} (d : decode M.2.1 pc = .ok (.iinc j n, 3)) (hp : pc + 3 = pc') (kk : Nat) (hk : l[kk]? = some (j, vi x)) (hj : j < M.2.2.1) (hl' : stL j (vi (wr (x + n))) l = l') (k : Sd M fr lw em pc' l' st h o) : Sd M fr lw em pc l st h o := by
  subst hp
  refine Sd.store (v := vi (wr (x + n))) (fun E p lc e R s m args below meth c H locs ls cells slots Q C hl w => ?_) (fun hs hvl => ⟨hs, inR_wr _⟩) hl' k
  exact lv_iinc (k := kk) C.1 C.2.1 d hl (by rw [List.getElem?_map, hk]; rfl) (i32_add x n) hj (stL_map E j (vi (wr (x + n))) l) w
end SE
end
section
/-! AM: cells -/
theorem cad_hi (E : AE) {a : Nat} (h : 16 ≤ a) : cad E a = E.1 + (a - 16) := by unfold cad; rw [if_neg (by omega)]
theorem wsO_len (E : AE) (h : AH) : (wsO E h).length = hN h := by simp [wsO]
theorem wsO_get (E : AE) {h : AH} {a : Nat} (h1 : 16 ≤ a) (h2 : a < 16 + hN h) : (wsO E h)[a - 16]? = some (cad E a, cel E h a) := by
  unfold wsO
  rw [List.getElem?_map, List.getElem?_range (by omega), cad_hi E h1]
  show some (E.1 + (a - 16), cel E h (16 + (a - 16))) = _
  rw [show 16 + (a - 16) = a by omega]
theorem wsO_D (E : AE) (h : AH) : va_D (aLo E) (wsO E h) := by
  have key : ∀ (i : Nat) (p : Nat × va_E), (wsO E h)[i]? = some p → p.1 = E.1 + i := by
    intro i p hp
    have hi : i < hN h := by rw [← wsO_len E h]; exact (List.getElem?_eq_some_iff.mp hp).1
    unfold wsO at hp
    rw [List.getElem?_map, List.getElem?_range hi] at hp
    cases hp; rfl
  refine ⟨fun i j p q hp hq e => ?_, fun k q hq => ?_⟩
  · have := key i p hp; have := key j q hq; omega
  · show E.1 ≤ q.1
    rw [key k q hq]; omega
theorem RH.sz {E : AE} {h : AH} {U : State} {H : Heap} (hH : RH E h U H) : H.size = E.1 + hN h := hH.1
theorem RH.in {E : AE} {h : AH} {U : State} {H : Heap} (hH : RH E h U H) {a t : Nat} (ht : (hK h a).1 = t) (h0 : t ≠ 0) (h24 : t ≠ 24) : 16 ≤ a ∧ a < 16 + hN h := by
  obtain ⟨-, -, h3, -, -, h6, -⟩ := hH
  by_cases h15 : a = 15
  · subst h15
    rcases h6 with h6 | ⟨h6, -⟩
    · exact absurd (ht.symm.trans h6) h0
    · exact absurd (ht.symm.trans h6) h24
  · by_cases hc : a < 15 ∨ 16 + hN h ≤ a
    · rw [h3 a hc] at ht; exact absurd ht.symm h0
    · omega
theorem RH.moved {E : AE} {h : AH} {u U : State} {H : Heap} (hvm : u.vm.Alike U.vm) (hH : RH E h u H) : RH E h U H := by
  obtain ⟨h1, h2, h3, h4, h5, h6, h7⟩ := hH
  exact ⟨h1, h2, h3, h4, h5, h6.imp_right (fun ⟨a, b, c⟩ => ⟨a, b, c.moved hvm⟩), h7⟩
theorem cel_obj {E : AE} {h : AH} {a ci : Nat} (ht : (hK h a).1 = ci + 1) (hc : ci + 1 < 20) : cel E h a = .inr (ci, fL E h ci a) := by
  unfold cel; rw [ht, if_pos hc, Nat.add_sub_cancel]
theorem cel_int {E : AE} {h : AH} {a t : Nat} (ht : (hK h a).1 = t) (hc : ¬ t < 20) (hc2 : t < 30) : cel E h a = .inl (E.2.2.2.2 t, (hK h a).2, .inl fun i => Int32.ofInt (hI h a i)) := by
  unfold cel; rw [ht, if_neg hc, if_pos hc2]
theorem cel_ref {E : AE} {h : AH} {a t : Nat} (ht : (hK h a).1 = t) (hc : ¬ t < 20) (hc2 : ¬ t < 30) : cel E h a = .inl (E.2.2.2.2 t, (hK h a).2, .inr (.inr (.inr (.inr fun i => ro E (hR h a i))))) := by
  unfold cel; rw [ht, if_neg hc, if_neg hc2]
theorem fL_get {E : AE} {h : AH} {ci a k : Nat} (hk : k < cN ci) : (fL E h ci a)[k]? = some (fV E h ci a k) := by
  unfold fL; rw [List.getElem?_map, List.getElem?_range hk]; rfl
/-- one cell is another one -/
theorem RH.upd {E : AE} {h h' : AH} {U : State} {H H1 : Heap} {a : Nat} (hH : RH E h U H) (h16 : 16 ≤ a) (hlt : a < 16 + hN h) (hn : hN h' = hN h) (hk : hK h' = hK h) (hi : ∀ a k, inR (hI h' a k)) (h15 : hI h' 15 = hI h 15) (ho : ∀ b, b ≠ a → cel E h' b = cel E h b)
    (he : va_at (aD E) vwCl (cad E a, cel E h' a) H1) (hz : H1.size = H.size) (hq : ∀ q : Nat, q ≠ cad E a → H1[q]? = H[q]?) : RH E h' U H1 := by
  obtain ⟨h1, h2, h3, h4, h5, h6, h7⟩ := hH
  refine ⟨by rw [hz, hn]; exact h1, ?_, by rw [hk, hn]; exact h3, hi, by rw [hk]; exact h5, ?_, by rw [hk, hn]; exact h7⟩
  · have e : wsO E h' = (wsO E h).set (a - 16) (cad E a, cel E h' a) := by
      apply List.ext_getElem?
      intro k
      by_cases hka : k = a - 16
      · subst hka
        rw [List.getElem?_set_self (by rw [wsO_len]; omega), wsO_get E h16 (by rw [hn]; exact hlt)]
      · rw [List.getElem?_set_ne (Ne.symm hka)]
        by_cases hkl : k < hN h
        · have g1 := wsO_get E (h := h') (a := 16 + k) (by omega) (by omega)
          have g2 := wsO_get E (h := h) (a := 16 + k) (by omega) (by omega)
          rw [show 16 + k - 16 = k by omega] at g1 g2
          rw [g1, g2, ho (16 + k) (by omega)]
        · rw [List.getElem?_eq_none (by rw [wsO_len]; omega), List.getElem?_eq_none (by rw [wsO_len]; omega)]
    rw [e]
    exact h2.set (wsO_D E h) (wsO_get E h16 hlt) he hq
  · rw [hk, h15]
    refine h6.imp_right (fun ⟨x1, x2, x3⟩ => ⟨x1, x2, x3.kept (hq _ ?_)⟩)
    rw [cad_hi E h16]; omega
theorem va_S.wr {E : AE} {s : State} {H H1 : Heap} {locs : List Loc} {a k : Nat} (hS : va_S (aLo E) s.heap H locs) (h16 : 16 ≤ a) (hz : H1.size = H.size) (hq : ∀ q : Nat, q ≠ cad E a → H1[q]? = H[q]?) : va_S (aLo E) s.heap H1 (locs ++ [⟨cad E a, k⟩]) := hS.put hz hq (by show E.1 ≤ cad E a; rw [cad_hi E h16]; omega)
/-- a read of one cell goes on -/
theorem Sd.read {ρ : Type} {M : AMt} {fr lw : Nat} {em : ρ → Option AV} {pc pc' : Nat} {l : List (Nat × AV)} {st st' : List AV} {h : AH} {o : Option (ρ × AH)}
    (hst : (∀ v ∈ st, vok v) → (∀ a k, inR (hI h a k)) → (∀ a, (hK h a).2 < 2 ^ 31) → (∀ v ∈ st', vok v) ∧ ∀ (E : AE) (p : Program) (lc : Launch) (e : Env) (R : Room) (s : State) (m : MethodId) (args : Array Value) (below : List Frame) (meth : Method) (c : Code) (H : Heap) (locs : List Loc) (ls : Array Slot) (cells slots : Nat) (Q : State → Prop),
      Ctx M fr lw E p R s m args meth c → RH E h s H → W p lc e R s m args below meth c H locs cells slots Q (F0 m pc' ls (st'.map (cv E))) → W p lc e R s m args below meth c H locs cells slots Q (F0 m pc ls (st.map (cv E))))
    (k : Sd M fr lw em pc' l st' h o) : Sd M fr lw em pc l st h o := by
  intro r h' ho
  obtain ⟨hm, hk⟩ := k r h' ho
  refine ⟨hm, fun E p lc e R s m args below meth c n0 s0 H locs ls C hc hs hn hn2 hH hS hl hvl hvs => ?_⟩
  obtain ⟨hv, hw⟩ := hst hvs hH.2.2.2.1 hH.2.2.2.2.1
  exact hw E p lc e R s m args below meth c H locs ls _ _ _ C hH (hk E p lc e R s m args below meth c n0 s0 H locs ls C hc hs hn hn2 hH hS hl hvl hv)
/-- a write of one cell goes on -/
theorem Sd.write {ρ : Type} {M : AMt} {fr lw : Nat} {em : ρ → Option AV} {pc pc' : Nat} {l : List (Nat × AV)} {st st' : List AV} {h h1 : AH} {o : Option (ρ × AH)} (hn : hN h1 = hN h) (hs : hS h1 = hS h)
    (hst : (∀ v ∈ st, vok v) → (∀ a k, inR (hI h a k)) → (∀ v ∈ st', vok v) ∧ ∀ (E : AE) (p : Program) (lc : Launch) (e : Env) (R : Room) (s : State) (m : MethodId) (args : Array Value) (below : List Frame) (meth : Method) (c : Code) (H : Heap) (locs : List Loc) (ls : Array Slot) (cells slots : Nat) (Q : State → Prop),
      Ctx M fr lw E p R s m args meth c → 1 ≤ R.frames → RH E h s H → lv_has ls M.2.2.1 (l.map (cvp E)) → va_S (aLo E) s.heap H locs → (∀ (H1 : Heap) (locs1 : List Loc), RH E h1 s H1 → va_S (aLo E) s.heap H1 locs1 → W p lc e R s m args below meth c H1 locs1 cells slots Q (F0 m pc' ls (st'.map (cv E)))) → W p lc e R s m args below meth c H locs cells slots Q (F0 m pc ls (st.map (cv E))))
    (hfr : 1 ≤ fr) (k : Sd M fr lw em pc' l st' h1 o) : Sd M fr lw em pc l st h o := by
  intro r h' ho
  obtain ⟨hm, hk⟩ := k r h' ho
  rw [hn, hs] at hm
  refine ⟨hm, fun E p lc e R s m args below meth c n0 s0 H locs ls C hc hs1 hn1 hn2 hH hS hl hvl hvs => ?_⟩
  obtain ⟨hv, hw⟩ := hst hvs hH.2.2.2.1
  refine hw E p lc e R s m args below meth c H locs ls _ _ _ C (by rw [C.2.2.2.2.2.2.2.2.1]; exact hfr) hH hl hS (fun H1 locs1 hH1 hS1 => ?_)
  have := hk E p lc e R s m args below meth c n0 s0 H1 locs1 ls C hc hs1 (by rw [hn]; exact hn1) (by rw [hs]; exact hn2) hH1 hS1 hl hvl hv
  rw [hn, hs] at this
  exact this
/-- the word of a field, at its place -/
def FLk (own : String) (idx ci k : Nat) : Prop := ∃ q : vw_C, vwCl[ci]? = some q ∧ q.2.2 = cN ci ∧ k < cN ci ∧ Cond.fieldLink own idx (q.2.1 k).1 (q.2.1 k).2.1 (q.2.1 k).2.2.1 ∈ Tb
def aTy (ci k : Nat) : FieldType := match ci with
  | 0 => tyX0 k | 1 => tyX1 k | 2 => tyX2 k | 3 => tyX3 k | 4 => tyX4 k | 5 => tyX5 k | 6 => tyX6 k | 7 => tyX7 k | 8 => tyX8 k | 9 => tyX9 k | 10 => tyX10 k | 11 => tyX11 k | _ => tyX12 k
def tyKind (t : FieldType) : Nat := match t with
  | .int => 0 | .boolean => 1 | .object _ => 2 | .array _ => 2 | _ => 3
theorem aTy_fk : ∀ ci, ci < 13 → ∀ k, k < cN ci → tyKind (aTy ci k) = fk ci k := by decide +kernel
theorem Tb_sub {ws : List Cond} (hg : GoodIn lw_tbl ws) (hw : ws.all goodWord = true) : ∀ w ∈ ws, w ∈ Tb := fun w h => Tb_in (hg w h).1 (List.all_eq_true.mp hw w h)
theorem cls_ok (ci : Nat) (q : vw_C) (hq : vwCl[ci]? = some q) : q.2.2 = cN ci ∧ (∀ w ∈ u_ws q.1 q.2.1 q.2.2, w ∈ Tb) ∧ (∀ k, k < q.2.2 → parseFieldDescriptor (q.2.1 k).2.2.1 = some (aTy ci k)) ∧ (∀ a, a < q.2.2 → ∀ b, b < q.2.2 → a ≠ b → (q.2.1 a).2.1 ≠ (q.2.1 b).2.1) := by
  have hlt : ci < 13 := (List.getElem?_eq_some_iff.mp hq).1
  match ci, hq with
  | 0, hq => cases hq; exact ⟨rfl, Tb_sub inX0 (by decide +kernel), tyX0_ok, nmX0⟩
  | 1, hq => cases hq; exact ⟨rfl, Tb_sub inX1 (by decide +kernel), tyX1_ok, nmX1⟩
  | 2, hq => cases hq; exact ⟨rfl, Tb_sub inX2 (by decide +kernel), tyX2_ok, nmX2⟩
  | 3, hq => cases hq; exact ⟨rfl, Tb_sub inX3 (by decide +kernel), tyX3_ok, nmX3⟩
  | 4, hq => cases hq; exact ⟨rfl, Tb_sub inX4 (by decide +kernel), tyX4_ok, nmX4⟩
  | 5, hq => cases hq; exact ⟨rfl, Tb_sub inX5 (by decide +kernel), tyX5_ok, nmX5⟩
  | 6, hq => cases hq; exact ⟨rfl, Tb_sub inX6 (by decide +kernel), tyX6_ok, nmX6⟩
  | 7, hq => cases hq; exact ⟨rfl, Tb_sub inX7 (by decide +kernel), tyX7_ok, nmX7⟩
  | 8, hq => cases hq; exact ⟨rfl, Tb_sub inX8 (by decide +kernel), tyX8_ok, nmX8⟩
  | 9, hq => cases hq; exact ⟨rfl, Tb_sub inX9 (by decide +kernel), tyX9_ok, nmX9⟩
  | 10, hq => cases hq; exact ⟨rfl, Tb_sub inX10 (by decide +kernel), tyX10_ok, nmX10⟩
  | 11, hq => cases hq; exact ⟨rfl, Tb_sub inX11 (by decide +kernel), tyX11_ok, nmX11⟩
  | 12, hq => cases hq; exact ⟨rfl, Tb_sub inX12 (by decide +kernel), tyX12_ok, nmX12⟩
  | k + 13, hq => omega
end
section
/-! AM: what an instruction does to a heap, as functions with a continuation; and that it is so -/
def gI {β : Type} (h : AH) (t a k : Nat) (f : Int → Option β) : Option β := if (hK h a).1 = t then f (hI h a k) else none
def gR {β : Type} (h : AH) (t a k : Nat) (f : Nat → Option β) : Option β := if (hK h a).1 = t then f (hR h a k) else none
def pI {β : Type} (h : AH) (t a k : Nat) (v : Int) (f : AH → Option β) : Option β := if (hK h a).1 = t then f (sI h a k v) else none
def pZ {β : Type} (h : AH) (t a k : Nat) (v : Int) (f : AH → Option β) : Option β := if (hK h a).1 = t ∧ (v = 0 ∨ v = 1) then f (sI h a k v) else none
def pR {β : Type} (h : AH) (t a k v : Nat) (f : AH → Option β) : Option β := if (hK h a).1 = t then f (sR h a k v) else none
def aI {β : Type} (h : AH) (t a : Nat) (i : Int) (f : Int → Option β) : Option β := if (hK h a).1 = t ∧ 0 ≤ i ∧ i < ((hK h a).2 : Int) then f (hI h a i.toNat) else none
def aR {β : Type} (h : AH) (t a : Nat) (i : Int) (f : Nat → Option β) : Option β := if (hK h a).1 = t ∧ 0 ≤ i ∧ i < ((hK h a).2 : Int) then f (hR h a i.toNat) else none
def wI {β : Type} (h : AH) (t a : Nat) (i v : Int) (f : AH → Option β) : Option β := if (hK h a).1 = t ∧ 0 ≤ i ∧ i < ((hK h a).2 : Int) then f (sI h a i.toNat v) else none
def wZ {β : Type} (h : AH) (t a : Nat) (i v : Int) (f : AH → Option β) : Option β := if (hK h a).1 = t ∧ 0 ≤ i ∧ i < ((hK h a).2 : Int) ∧ (v = 0 ∨ v = 1) then f (sI h a i.toNat v) else none
def wR {β : Type} (h : AH) (t a : Nat) (i : Int) (tv v : Nat) (f : AH → Option β) : Option β := if (hK h a).1 = t ∧ 0 ≤ i ∧ i < ((hK h a).2 : Int) ∧ (hK h v).1 = tv then f (sR h a i.toNat v) else none
def aN {β : Type} (h : AH) (t a : Nat) (f : Int → Option β) : Option β := if (hK h a).1 = t then f ((hK h a).2 : Int) else none
def nA {β : Type} (h : AH) (t : Nat) (n : Int) (f : Nat → AH → Option β) : Option β := if 0 ≤ n ∧ n ≤ 100000 then f (16 + hN h) (nw h t n.toNat n.toNat) else none
def nO {β : Type} (h : AH) (t sl : Nat) (f : Nat → AH → Option β) : Option β := f (16 + hN h) (nw h t 0 sl)
theorem rv_ref {E : AE} {a : Nat} (h : 16 ≤ a) : rv E a = .ref (cad E a) := by unfold rv; rw [if_neg (by omega)]
theorem cvr_ref {E : AE} {a : Nat} (h : 16 ≤ a) : cv E (vr a) = .ref (cad E a) := rv_ref h
theorem ofInt_nat (n : Nat) : Int32.ofInt (n : Int) = Int32.ofNat n := Int32.ofInt_eq_ofNat
section SF
variable {ρ : Type} {M : AMt} {fr lw : Nat} {em : ρ → Option AV} {pc pc' tgt : Nat} {l l' : List (Nat × AV)} {st st' : List AV} {h : AH} {o o1 o2 : Option (ρ × AH)}
theorem Sd.ite' {c : Prop} {inst : Decidable c} (k : c → Sd M fr lw em pc l st h o) : Sd M fr lw em pc l st h (@ite _ c inst o Option.none) := by
  by_cases hc : c
  · rw [if_pos hc]; exact k hc
  · rw [if_neg hc]; exact Sd.none
theorem tag_lt (ci : Nat) (q : vw_C) (hq : vwCl[ci]? = some q) : ci + 1 < 20 := by
  have : ci < 13 := (List.getElem?_eq_some_iff.mp hq).1
  omega
theorem Sd_getI {a idx ci k t : Nat} {f : Int → Option (ρ × AH)} (d : decode M.2.1 pc = .ok (.getfield idx, 3)) (hp : pc + 3 = pc') (hF : FLk M.1.cls idx ci k) (ht : ci + 1 = t) (hk2 : (fk ci k == 2) = false) (kk : Sd M fr lw em pc' l (vi (hI h a k) :: st) h (f (hI h a k))) : Sd M fr lw em pc l (vr a :: st) h (gI h t a k f) := by
  subst hp; subst ht
  obtain ⟨q, hq, hqn, hk, hw⟩ := hF
  refine Sd.ite' (fun hc => Sd.read (fun hs hi _ => ⟨vok_i (hi a k) (vok_tl hs), fun E p lc e R s m args below meth c H locs ls cells slots Q C hH w => ?_⟩) kk)
  obtain ⟨g1, g2⟩ := hH.in hc (by omega) (by have := tag_lt ci q hq; omega)
  obtain ⟨c1, c2, c3, c4⟩ := cls_ok ci q hq
  rw [List.map_cons, cvr_ref g1]
  refine va_get (q0 := a - 16) (C := q.1) (T := q.2.1) (N := q.2.2) C.1 C.2.1 C.2.2.2.2.2.2.2.1 c2 C.2.2.2.2.1 C.2.2.2.2.2.2.2.2.2.2.1 hH.2.1 (by rw [wsO_get E g1 g2, cel_obj hc (tag_lt ci q hq)]) hq k (by rw [c1]; exact hk) (C.2.2.2.2.2.2.2.1 _ hw) (fun _ z => z) (v := .int (Int32.ofInt (hI h a k))) ?_ d w
  rw [fL_get hk]
  unfold fV
  rw [if_neg (fun z => by rw [z] at hk2; exact absurd hk2 (by decide))]
theorem Sd_getR {a idx ci k t : Nat} {f : Nat → Option (ρ × AH)} (d : decode M.2.1 pc = .ok (.getfield idx, 3)) (hp : pc + 3 = pc') (hF : FLk M.1.cls idx ci k) (ht : ci + 1 = t) (hk2 : (fk ci k == 2) = true) (kk : Sd M fr lw em pc' l (vr (hR h a k) :: st) h (f (hR h a k))) : Sd M fr lw em pc l (vr a :: st) h (gR h t a k f) := by
  subst hp; subst ht
  obtain ⟨q, hq, hqn, hk, hw⟩ := hF
  refine Sd.ite' (fun hc => Sd.read (fun hs hi _ => ⟨vok_r (vok_tl hs), fun E p lc e R s m args below meth c H locs ls cells slots Q C hH w => ?_⟩) kk)
  obtain ⟨g1, g2⟩ := hH.in hc (by omega) (by have := tag_lt ci q hq; omega)
  obtain ⟨c1, c2, c3, c4⟩ := cls_ok ci q hq
  rw [List.map_cons, cvr_ref g1]
  refine va_get (q0 := a - 16) (C := q.1) (T := q.2.1) (N := q.2.2) C.1 C.2.1 C.2.2.2.2.2.2.2.1 c2 C.2.2.2.2.1 C.2.2.2.2.2.2.2.2.2.2.1 hH.2.1 (by rw [wsO_get E g1 g2, cel_obj hc (tag_lt ci q hq)]) hq k (by rw [c1]; exact hk) (C.2.2.2.2.2.2.2.1 _ hw) (fun _ z => z) (v := rv E (hR h a k)) ?_ d w
  rw [fL_get hk]
  unfold fV
  rw [if_pos (by simpa using hk2)]
theorem aTs_get (E : AE) {j t : Nat} {ty : FieldType} (hj : aTs[j]? = some (t, ty)) : (atys E)[j]? = some (E.2.2.2.2 t, ty) := by
  unfold atys; rw [List.getElem?_map, hj]; rfl
theorem Sd_iaload {a : Nat} {i : Int} {f : Int → Option (ρ × AH)} (d : decode M.2.1 pc = .ok (.iaload, 1)) (hp : pc + 1 = pc') (kk : Sd M fr lw em pc' l (vi (hI h a i.toNat) :: st) h (f (hI h a i.toNat))) : Sd M fr lw em pc l (vi i :: vr a :: st) h (aI h 21 a i f) := by
  subst hp
  refine Sd.ite' ?_
  intro ⟨hc, hi0, hi1⟩
  refine Sd.read (fun hs hi _ => ⟨vok_i (hi a _) (vok_tl (vok_tl hs)), fun E p lc e R s m args below meth c H locs ls cells slots Q C hH w => ?_⟩) kk
  obtain ⟨g1, g2⟩ := hH.in hc (by decide) (by decide)
  rw [List.map_cons, List.map_cons, cvr_ref g1]
  refine va_iald (q0 := a - 16) (t0 := 0) C.1 C.2.1 C.2.2.2.2.2.2.2.2.2.2.1 hH.2.1 (by rw [wsO_get E g1 g2, cel_int hc (by decide) (by decide)]) (aTs_get E (j := 0) rfl) (i32_in (iv hs) hi0 hi1) d ?_
  rw [i32_clamp (iv hs)]
  exact w
theorem Sd_baload {a : Nat} {i : Int} {f : Int → Option (ρ × AH)} (d : decode M.2.1 pc = .ok (.baload, 1)) (hp : pc + 1 = pc') (kk : Sd M fr lw em pc' l (vi (hI h a i.toNat) :: st) h (f (hI h a i.toNat))) : Sd M fr lw em pc l (vi i :: vr a :: st) h (aI h 22 a i f) := by
  subst hp
  refine Sd.ite' ?_
  intro ⟨hc, hi0, hi1⟩
  refine Sd.read (fun hs hi _ => ⟨vok_i (hi a _) (vok_tl (vok_tl hs)), fun E p lc e R s m args below meth c H locs ls cells slots Q C hH w => ?_⟩) kk
  obtain ⟨g1, g2⟩ := hH.in hc (by decide) (by decide)
  rw [List.map_cons, List.map_cons, cvr_ref g1]
  refine va_bald (q0 := a - 16) (t0 := 1) C.1 C.2.1 C.2.2.2.2.2.2.2.2.2.2.1 hH.2.1 (by rw [wsO_get E g1 g2, cel_int hc (by decide) (by decide)]) (aTs_get E (j := 1) rfl) (i32_in (iv hs) hi0 hi1) d ?_
  rw [i32_clamp (iv hs)]
  exact w
theorem Sd_zaload {a : Nat} {i : Int} {f : Int → Option (ρ × AH)} (d : decode M.2.1 pc = .ok (.baload, 1)) (hp : pc + 1 = pc') (kk : Sd M fr lw em pc' l (vi (hI h a i.toNat) :: st) h (f (hI h a i.toNat))) : Sd M fr lw em pc l (vi i :: vr a :: st) h (aI h 23 a i f) := by
  subst hp
  refine Sd.ite' ?_
  intro ⟨hc, hi0, hi1⟩
  refine Sd.read (fun hs hi _ => ⟨vok_i (hi a _) (vok_tl (vok_tl hs)), fun E p lc e R s m args below meth c H locs ls cells slots Q C hH w => ?_⟩) kk
  obtain ⟨g1, g2⟩ := hH.in hc (by decide) (by decide)
  rw [List.map_cons, List.map_cons, cvr_ref g1]
  refine va_zald (q0 := a - 16) (t0 := 2) C.1 C.2.1 C.2.2.2.2.2.2.2.2.2.2.1 hH.2.1 (by rw [wsO_get E g1 g2, cel_int hc (by decide) (by decide)]) (aTs_get E (j := 2) rfl) (i32_in (iv hs) hi0 hi1) d ?_
  rw [i32_clamp (iv hs)]
  exact w
/-- the law's script -/
theorem RH.is15 {E : AE} {h : AH} {U : State} {H : Heap} {a : Nat} (hH : RH E h U H) (hc : (hK h a).1 = 24) : a = 15 := by
  obtain ⟨-, -, h3, -, -, -, h7⟩ := hH
  by_cases h15 : a = 15
  · exact h15
  · by_cases ho : a < 15 ∨ 16 + hN h ≤ a
    · rw [h3 a ho] at hc; exact absurd hc (by decide)
    · have := (h7 a (by omega) (by omega)).2
      rw [hc] at this; exact absurd this (by decide +kernel)
theorem Sd_saload {a : Nat} {i : Int} {f : Int → Option (ρ × AH)} (d : decode M.2.1 pc = .ok (.iaload, 1)) (hp : pc + 1 = pc') (kk : Sd M fr lw em pc' l (vi (hI h a i.toNat) :: st) h (f (hI h a i.toNat))) : Sd M fr lw em pc l (vi i :: vr a :: st) h (aI h 24 a i f) := by
  subst hp
  refine Sd.ite' ?_
  intro ⟨hc, hi0, hi1⟩
  refine Sd.read (fun hs hi _ => ⟨vok_i (hi a _) (vok_tl (vok_tl hs)), fun E p lc e R s m args below meth c H locs ls cells slots Q C hH w => ?_⟩) kk
  have h15 := hH.is15 hc
  subst h15
  obtain ⟨-, -, -, -, -, h6, -⟩ := hH
  rcases h6 with h6 | ⟨-, h7, scr, x1, x2, x3, x4, x5⟩
  · rw [hc] at h6; cases h6
  have hin := i32_in (iv hs) hi0 hi1
  have hcl := i32_clamp (iv hs)
  refine W.iald (v := .int (Int32.ofInt (hI h 15 i.toNat))) C.1 C.2.1 x1 x2 x3 (j := Int32.ofInt i) (by rw [x4]; exact hin) (by rw [hcl]; exact x5 _ (by omega)) rfl rfl d w
theorem Sd_slen {a : Nat} {f : Int → Option (ρ × AH)} (d : decode M.2.1 pc = .ok (.arraylength, 1)) (hp : pc + 1 = pc') (kk : Sd M fr lw em pc' l (vi ((hK h a).2 : Int) :: st) h (f ((hK h a).2 : Int))) : Sd M fr lw em pc l (vr a :: st) h (aN h 24 a f) := by
  subst hp
  refine Sd.ite' (fun hc => Sd.read (fun hs hi hl => ⟨vok_i ⟨by have := hl a; omega, by have := hl a; omega⟩ (vok_tl hs), fun E p lc e R s m args below meth c H locs ls cells slots Q C hH w => ?_⟩) kk)
  have h15 := hH.is15 hc
  subst h15
  obtain ⟨-, -, -, -, -, h6, -⟩ := hH
  rcases h6 with h6 | ⟨-, h7, scr, x1, x2, x3, x4, x5⟩
  · rw [hc] at h6; cases h6
  refine W.alen (n := Int32.ofNat (hK h 15).2) C.1 C.2.1 x1 x2 (by rw [x4] <;> rfl) rfl rfl d ?_
  rw [← ofInt_nat]
  exact w
theorem Sd_aaload {a t j : Nat} {i : Int} {C0 : String} {f : Nat → Option (ρ × AH)} (d : decode M.2.1 pc = .ok (.aaload, 1)) (hp : pc + 1 = pc') (hj : aTs[j]? = some (t, .object C0)) (ht : 30 ≤ t) (kk : Sd M fr lw em pc' l (vr (hR h a i.toNat) :: st) h (f (hR h a i.toNat))) : Sd M fr lw em pc l (vi i :: vr a :: st) h (aR h t a i f) := by
  subst hp
  refine Sd.ite' ?_
  intro ⟨hc, hi0, hi1⟩
  refine Sd.read (fun hs hi _ => ⟨vok_r (vok_tl (vok_tl hs)), fun E p lc e R s m args below meth c H locs ls cells slots Q C hH w => ?_⟩) kk
  obtain ⟨g1, g2⟩ := hH.in hc (by omega) (by omega)
  rw [List.map_cons, List.map_cons, cvr_ref g1]
  refine va_aldq (q0 := a - 16) (t0 := j) C.1 C.2.1 C.2.2.2.2.2.2.2.2.2.2.1 hH.2.1 (by rw [wsO_get E g1 g2, cel_ref hc (by omega) (by omega)]) (aTs_get E hj) (i32_in (iv hs) hi0 hi1) d ?_
  rw [i32_clamp (iv hs), rf_ro]
  exact w
theorem Sd_alen {a t j : Nat} {ty : FieldType} {f : Int → Option (ρ × AH)} (d : decode M.2.1 pc = .ok (.arraylength, 1)) (hp : pc + 1 = pc') (hj : aTs[j]? = some (t, ty)) (ht : 21 ≤ t) (ht2 : t ≠ 24) (kk : Sd M fr lw em pc' l (vi ((hK h a).2 : Int) :: st) h (f ((hK h a).2 : Int))) : Sd M fr lw em pc l (vr a :: st) h (aN h t a f) := by
  subst hp
  refine Sd.ite' (fun hc => Sd.read (fun hs hi hl => ⟨vok_i ⟨by have := hl a; omega, by have := hl a; omega⟩ (vok_tl hs), fun E p lc e R s m args below meth c H locs ls cells slots Q C hH w => ?_⟩) kk)
  obtain ⟨g1, g2⟩ := hH.in hc (by omega) ht2
  rw [List.map_cons, cvr_ref g1]
  by_cases h30 : t < 30
  · refine va_alen (q0 := a - 16) (t0 := j) C.1 C.2.1 C.2.2.2.2.2.2.2.2.2.2.1 hH.2.1 (by rw [wsO_get E g1 g2, cel_int hc (by omega) h30]) (aTs_get E hj) (v := Int32.ofInt ((hK h a).2 : Int)) (ofInt_nat _).symm d w
  · refine va_alen (q0 := a - 16) (t0 := j) C.1 C.2.1 C.2.2.2.2.2.2.2.2.2.2.1 hH.2.1 (by rw [wsO_get E g1 g2, cel_ref hc (by omega) h30]) (aTs_get E hj) (v := Int32.ofInt ((hK h a).2 : Int)) (ofInt_nat _).symm d w
end SF
end
section
/-! AM: writes -/
theorem cel_congr {E : AE} {h h' : AH} {b : Nat} (hk : hK h' b = hK h b) (hi : hI h' b = hI h b) (hr : hR h' b = hR h b) : cel E h' b = cel E h b := by
  have e : ∀ ci, fL E h' ci b = fL E h ci b := by
    intro ci; unfold fL; apply List.map_congr_left; intro k _; unfold fV; rw [hi, hr]
  unfold cel; rw [hk, hi, hr, e]
theorem fL_V {E : AE} {h : AH} {ci a j : Nat} (hj : j < cN ci) : vp_V (fL E h ci a) j = fV E h ci a j := by
  unfold vp_V; rw [List.getD_eq_getElem?_getD, fL_get hj]; rfl
theorem inR_up2 {h : AH} {a k : Nat} {v : Int} (hi : ∀ a k, inR (hI h a k)) (hv : inR v) : ∀ b j, inR (hI (sI h a k v) b j) := by
  intro b j
  rw [hI_sI]
  unfold up2
  split
  · show inR (if j = k then v else hI h a j)
    split
    · exact hv
    · exact hi a j
  · exact hi b j
section SW
variable {p : Program} {lc : Launch} {e : Env} {R : Room} {s : State} {m : MethodId} {args : Array Value} {below : List Frame} {meth : Method} {c : Code} {H : Heap} {locs : List Loc} {cells slots : Nat} {Q : State → Prop}
variable {pc : Nat} {ls : Array Slot} {rest : List Value} {E : AE} {h h1 : AH} {M : AMt} {fr lw : Nat}
/-- putfield, final or not -/
theorem a_put {a idx ci k : Nat} {v : Value} (C : Ctx M fr lw E p R s m args meth c) (hH : RH E h s H) (hS : va_S (aLo E) s.heap H locs) (hF : FLk M.1.cls idx ci k) (hc : (hK h a).1 = ci + 1) (hfin : ∀ q : vw_C, vwCl[ci]? = some q → (q.2.1 k).2.2.2 = true → M.1.name = "<init>" ∧ (q.2.1 k).1 = M.1.cls)
    (hn : narrow (aTy ci k) v = v) (hfit : fits (aTy ci k) v = true) (en : hN h1 = hN h) (ek : hK h1 = hK h) (ei : ∀ a k, inR (hI h1 a k)) (eo : ∀ b, b ≠ a → hI h1 b = hI h b ∧ hR h1 b = hR h b) (ev : ∀ j, j < cN ci → fV E h1 ci a j = if j = k then v else fV E h ci a j)
    (d : decode M.2.1 pc = .ok (.putfield idx, 3)) (kk : ∀ (H1 : Heap) (locs1 : List Loc), RH E h1 s H1 → va_S (aLo E) s.heap H1 locs1 → W p lc e R s m args below meth c H1 locs1 cells slots Q (F0 m (pc + 3) ls rest)) :
    W p lc e R s m args below meth c H locs cells slots Q (F0 m pc ls (v :: .ref (cad E a) :: rest)) := by
  obtain ⟨q, hq, hqn, hk, hw⟩ := hF
  obtain ⟨g1, g2⟩ := hH.in hc (by omega) (by have := tag_lt ci q hq; omega)
  obtain ⟨c1, c2, c3, c4⟩ := cls_ok ci q hq
  have hx := C.1
  have hb := C.2.1
  have hown := C.2.2.2.2.1
  have hts := C.2.2.2.2.2.2.2.1
  have hK := C.2.2.2.2.2.2.2.2.2.2.1
  have hap := va_apart (own := M.1.cls) hts c2 (aTy ci) c3 c4 hK hq
  have hcell := hH.2.1 (a - 16) _ (wsO_get E g1 g2)
  rw [cel_obj hc (tag_lt ci q hq)] at hcell
  obtain ⟨r, h1', cell, q1, q2, q3, q4⟩ := hcell
  have hr : r = q := Option.some.inj (h1'.symm.trans hq)
  subst hr
  obtain ⟨hSl, hfc, kC, hkC, hkind⟩ := hK.1 ci _ hq
  have hk' : k < r.2.2 := by rw [c1]; exact hk
  obtain ⟨cf, kf, fi, f, hi, hsl⟩ := hSl k hk'
  have hst := (u_facts hfc hkC (u_lays hts c2 hk') hi).1
  have hend : ∀ H' : Heap, H'[cad E a]? = some (cell.setSlot f.slot v) → H'.size = H.size → (∀ q, q ≠ cad E a → H'[q]? = H[q]?) → RH E h1 s H' ∧ va_S (aLo E) s.heap H' (locs ++ [⟨cad E a, f.slot⟩]) := by
    intro H' e1 e2 e3
    refine ⟨hH.upd g1 g2 en ek ei (eo 15 (by omega)).1 (fun b hb => cel_congr (by rw [ek]) (eo b hb).1 (eo b hb).2) ?_ e2 e3, hS.wr g1 e2 e3⟩
    rw [cel_obj (by rw [ek]; exact hc) (tag_lt ci r hq)]
    rw [hsl] at e1
    refine ⟨r, hq, t_OB.to (V := updV (vp_V (fL E h ci a)) k v) ⟨_, e1, q2, q3, t_set q4 hap hk' v⟩ (fun j hj => ?_)⟩
    rw [c1] at hj
    rw [fL_V hj, ev j hj]
    unfold updV
    rw [fL_V hj]
  cases hb2 : (r.2.1 k).2.2.2 with
  | false =>
    have hlay := hts _ (c2 _ (u_in_lay hk'))
    unfold u_lay at hlay
    rw [if_neg (by rw [hb2]; decide)] at hlay
    have h6 := u_store hfc hkC hkind hlay hi (c3 k hk') hn hfit
    refine W.putK hx hb (f := f) ⟨hown, hts _ hw, ⟨_, _, _, hi⟩, hst⟩ (by rw [q2]; exact h6) q1 q3 (by rw [hsl]; exact k2_hasslot (q4 k hk')) rfl rfl d fun H' e1 e2 e3 => ?_
    obtain ⟨f1, f2⟩ := hend H' e1 e2 e3
    exact kk H' _ f1 f2
  | true =>
    obtain ⟨n1, n2⟩ := hfin r hq hb2
    have hlay := hts _ (c2 _ (u_in_lay hk'))
    unfold u_lay at hlay
    rw [if_pos hb2] at hlay
    have hcf : m.cls = cf := by
      obtain ⟨_, _, c', _, _, _, -, -, hf', -, -, -, hown2, -⟩ := Cond.laysFinal_spec hlay
      have e1 : c' = cf := by have := hi.symm.trans hf'; simp at this; exact this.1.symm
      rw [n2] at hown2
      rw [← e1]; exact Option.some.inj (hown.symm.trans hown2)
    have h6 := u_fits hfc hkC hkind (Or.inr hlay) hi (c3 k hk') hn hfit
    refine W.putFinK hx hb hown (hts _ hw) hi hst hcf (C.2.2.2.2.2.2.1 n1) (by rw [q2]; exact h6) q1 q3 (by rw [hsl]; exact k2_hasslot (q4 k hk')) rfl rfl d fun H' e1 e2 e3 => ?_
    obtain ⟨f1, f2⟩ := hend H' e1 e2 e3
    exact kk H' _ f1 f2
/-- a store into an array of ints, bytes, booleans -/
theorem a_st {a t j : Nat} {ty : FieldType} {i x y : Int} (C : Ctx M fr lw E p R s m args meth c) (hH : RH E h s H) (hS : va_S (aLo E) s.heap H locs) (hc : (hK h a).1 = t) (ht : 21 ≤ t ∧ t < 24) (hj : aTs[j]? = some (t, ty)) (hi : inR i) (hi0 : 0 ≤ i) (hi1 : i < ((hK h a).2 : Int)) (hy : inR y)
    (hop : ∀ {cell : Cell} {jj : Int32}, H[cad E a]? = some cell → s.isArrayOf cell ty → cell.vm ≠ .unknown → ¬ (jj < 0 ∨ cell.slots.size ≤ jj.toNatClampNeg) → (∀ H' : Heap, H'[cad E a]? = some (cell.setSlot jj.toNatClampNeg (.int (Int32.ofInt y))) → H'.size = H.size → (∀ q, q ≠ cad E a → H'[q]? = H[q]?) → W p lc e R s m args below meth c H' (locs ++ [⟨cad E a, jj.toNatClampNeg⟩]) cells slots Q (F0 m (pc + 1) ls rest)) → W p lc e R s m args below meth c H locs cells slots Q (F0 m pc ls (.int (Int32.ofInt x) :: .int jj :: .ref (cad E a) :: rest)))
    (kk : ∀ (H1 : Heap) (locs1 : List Loc), RH E (sI h a i.toNat y) s H1 → va_S (aLo E) s.heap H1 locs1 → W p lc e R s m args below meth c H1 locs1 cells slots Q (F0 m (pc + 1) ls rest)) :
    W p lc e R s m args below meth c H locs cells slots Q (F0 m pc ls (.int (Int32.ofInt x) :: .int (Int32.ofInt i) :: .ref (cad E a) :: rest)) := by
  obtain ⟨g1, g2⟩ := hH.in hc (by omega) (by omega)
  have hKK := C.2.2.2.2.2.2.2.2.2.2.1
  have hcell := hH.2.1 (a - 16) _ (wsO_get E g1 g2)
  have ecel := cel_int (E := E) hc (by omega) (by omega)
  rw [ecel] at hcell
  have hcell : H[cad E a]? = some (vp_cell (E.2.2.2.2 t) ((hK h a).2, .inl fun i => Int32.ofInt (hI h a i))) := hcell
  have hin := i32_in hi hi0 hi1
  refine hop (jj := Int32.ofInt i) hcell ((hKK.2 j _ (aTs_get E hj)).1 _ _) (fun q => by cases q) (by show ¬ (Int32.ofInt i < 0 ∨ (arrV _ _ _).slots.size ≤ _); rw [arrV_size]; exact hin) fun H' e1 e2 e3 => ?_
  refine kk H' _ (hH.upd g1 g2 rfl rfl (inR_up2 hH.2.2.2.1 hy) (by rw [hI_sI, up2_ne (by omega)]) (fun b hb => cel_congr rfl (by rw [hI_sI, up2_ne hb]) rfl) ?_ e2 e3) (hS.wr g1 e2 e3)
  rw [cel_int (E := E) (h := sI h a i.toNat y) (a := a) (t := t) hc (by omega) (by omega)]
  show H'[cad E a]? = some (vp_cell _ _)
  rw [e1]
  rw [vp_cell_i, vp_cell_i, arrV_store, i32_clamp hi]
  congr 2
  funext q
  unfold updV
  rw [hI_sI, up2_at]
  split <;> rfl
end SW
section SX
variable {ρ : Type} {M : AMt} {fr lw : Nat} {em : ρ → Option AV} {pc pc' tgt : Nat} {l l' : List (Nat × AV)} {st st' : List AV} {h : AH} {o o1 o2 : Option (ρ × AH)}
/-- what a field of a class that is final asks of the method that writes it -/
def finOk (ci k : Nat) (M : AMt) : Prop := ∀ q : vw_C, vwCl[ci]? = some q → (q.2.1 k).2.2.2 = true → M.1.name = "<init>" ∧ (q.2.1 k).1 = M.1.cls
theorem finOk.no {ci k : Nat} {M : AMt} (h : (vwCl[ci]?).map (fun q => (q.2.1 k).2.2.2) = some false) : finOk ci k M := fun q hq hf => by rw [hq] at h; exact absurd (h.symm.trans (congrArg some hf)) (by simp)
theorem finOk.yes {ci k : Nat} {M : AMt} (h : M.1.name = "<init>") (h2 : (vwCl[ci]?).map (fun q => (q.2.1 k).1) = some M.1.cls) : finOk ci k M := fun q hq hf => ⟨h, by rw [hq] at h2; exact Option.some.inj h2⟩
theorem Sd_putI {a idx ci k t : Nat} {x : Int} {f : AH → Option (ρ × AH)} (d : decode M.2.1 pc = .ok (.putfield idx, 3)) (hp : pc + 3 = pc') (hF : FLk M.1.cls idx ci k) (ht : ci + 1 = t) (hty : aTy ci k = .int) (hk2 : (fk ci k == 2) = false) (hfin : finOk ci k M) (hfr : 1 ≤ fr) (kk : Sd M fr lw em pc' l st (sI h a k x) (f (sI h a k x))) : Sd M fr lw em pc l (vi x :: vr a :: st) h (pI h t a k x f) := by
  subst hp; subst ht
  refine Sd.ite' (fun hc => Sd.write (h1 := sI h a k x) rfl rfl (fun hs hi => ⟨vok_tl (vok_tl hs), fun E p lc e R s m args below meth c H locs ls cells slots Q C _ hH hl hS w => ?_⟩) hfr kk)
  have hci : ci + 1 < 20 := by obtain ⟨q, hq, -⟩ := hF; exact tag_lt ci q hq
  obtain ⟨g1, g2⟩ := hH.in hc (by omega) (by omega)
  rw [List.map_cons, List.map_cons, cvr_ref g1]
  refine a_put (h1 := sI h a k x) C hH hS hF hc hfin (by rw [hty]; rfl) (by rw [hty]; rfl) rfl rfl (inR_up2 hi (iv hs)) (fun b hb => ⟨by rw [hI_sI, up2_ne hb], rfl⟩) (fun j hj => ?_) d w
  by_cases hjk : j = k
  · subst hjk
    rw [if_pos rfl]; unfold fV
    rw [if_neg (fun z => by rw [z] at hk2; exact absurd hk2 (by decide)), hI_sI, up2_at, if_pos rfl]; rfl
  · rw [if_neg hjk]; unfold fV; rw [hI_sI, up2_at, if_neg hjk]; rfl
theorem Sd_putZ {a idx ci k t : Nat} {x : Int} {f : AH → Option (ρ × AH)} (d : decode M.2.1 pc = .ok (.putfield idx, 3)) (hp : pc + 3 = pc') (hF : FLk M.1.cls idx ci k) (ht : ci + 1 = t) (hty : aTy ci k = .boolean) (hk2 : (fk ci k == 2) = false) (hfin : finOk ci k M) (hfr : 1 ≤ fr) (kk : Sd M fr lw em pc' l st (sI h a k x) (f (sI h a k x))) : Sd M fr lw em pc l (vi x :: vr a :: st) h (pZ h t a k x f) := by
  subst hp; subst ht
  refine Sd.ite' ?_
  intro ⟨hc, hx⟩
  refine Sd.write (h1 := sI h a k x) rfl rfl (fun hs hi => ⟨vok_tl (vok_tl hs), fun E p lc e R s m args below meth c H locs ls cells slots Q C _ hH hl hS w => ?_⟩) hfr kk
  have hci : ci + 1 < 20 := by obtain ⟨q, hq, -⟩ := hF; exact tag_lt ci q hq
  obtain ⟨g1, g2⟩ := hH.in hc (by omega) (by omega)
  rw [List.map_cons, List.map_cons, cvr_ref g1]
  refine a_put (h1 := sI h a k x) C hH hS hF hc hfin (by rw [hty]; rcases hx with rfl | rfl <;> rfl) (by rw [hty]; rcases hx with rfl | rfl <;> rfl) rfl rfl (inR_up2 hi (iv hs)) (fun b hb => ⟨by rw [hI_sI, up2_ne hb], rfl⟩) (fun j hj => ?_) d w
  by_cases hjk : j = k
  · subst hjk
    rw [if_pos rfl]; unfold fV
    rw [if_neg (fun z => by rw [z] at hk2; exact absurd hk2 (by decide)), hI_sI, up2_at, if_pos rfl]; rfl
  · rw [if_neg hjk]; unfold fV; rw [hI_sI, up2_at, if_neg hjk]; rfl
theorem Sd_putR {a idx ci k t v : Nat} {f : AH → Option (ρ × AH)} (d : decode M.2.1 pc = .ok (.putfield idx, 3)) (hp : pc + 3 = pc') (hF : FLk M.1.cls idx ci k) (ht : ci + 1 = t) (hty : (tyKind (aTy ci k) == 2) = true) (hk2 : (fk ci k == 2) = true) (hfin : finOk ci k M) (hfr : 1 ≤ fr) (kk : Sd M fr lw em pc' l st (sR h a k v) (f (sR h a k v))) : Sd M fr lw em pc l (vr v :: vr a :: st) h (pR h t a k v f) := by
  subst hp; subst ht
  refine Sd.ite' (fun hc => Sd.write (h1 := sR h a k v) rfl rfl (fun hs hi => ⟨vok_tl (vok_tl hs), fun E p lc e R s m args below meth c H locs ls cells slots Q C _ hH hl hS w => ?_⟩) hfr kk)
  have hci : ci + 1 < 20 := by obtain ⟨q, hq, -⟩ := hF; exact tag_lt ci q hq
  obtain ⟨g1, g2⟩ := hH.in hc (by omega) (by omega)
  rw [List.map_cons, List.map_cons, cvr_ref g1]
  have hnf : narrow (aTy ci k) (rv E v) = rv E v ∧ fits (aTy ci k) (rv E v) = true := by
    cases hT : aTy ci k <;> rw [hT] at hty <;> first | exact absurd hty (by decide) | (unfold rv; split <;> exact ⟨rfl, rfl⟩)
  refine a_put (h1 := sR h a k v) (v := rv E v) C hH hS hF hc hfin hnf.1 hnf.2 rfl rfl hi (fun b hb => ⟨rfl, by rw [hR_sR, up2_ne hb]⟩) (fun j hj => ?_) d w
  by_cases hjk : j = k
  · subst hjk
    rw [if_pos rfl]; unfold fV
    rw [if_pos (by simpa using hk2), hR_sR, up2_at, if_pos rfl]
  · rw [if_neg hjk]; unfold fV; rw [hR_sR, up2_at, if_neg hjk]; rfl
theorem Sd_iastore {a : Nat} {i x : Int} {f : AH → Option (ρ × AH)} (d : decode M.2.1 pc = .ok (.iastore, 1)) (hp : pc + 1 = pc') (hfr : 1 ≤ fr) (kk : Sd M fr lw em pc' l st (sI h a i.toNat x) (f (sI h a i.toNat x))) : Sd M fr lw em pc l (vi x :: vi i :: vr a :: st) h (wI h 21 a i x f) := by
  subst hp
  refine Sd.ite' ?_
  intro ⟨hc, hi0, hi1⟩
  refine Sd.write (h1 := sI h a i.toNat x) rfl rfl (fun hs hi => ⟨vok_tl (vok_tl (vok_tl hs)), fun E p lc e R s m args below meth c H locs ls cells slots Q C _ hH hl hS w => ?_⟩) hfr kk
  obtain ⟨g1, g2⟩ := hH.in hc (by omega) (by omega)
  rw [List.map_cons, List.map_cons, List.map_cons, cvr_ref g1]
  exact a_st (j := 0) C hH hS hc (by decide) rfl (iv (vok_tl hs)) hi0 hi1 (iv hs) (fun h1 h2 h3 h4 k => W.iast C.1 C.2.1 h1 h2 h3 h4 rfl rfl d k) w
def b8 (x : Int) : Int := i2b x
theorem Sd_bastore {a : Nat} {i x : Int} {f : AH → Option (ρ × AH)} (d : decode M.2.1 pc = .ok (.bastore, 1)) (hp : pc + 1 = pc') (hfr : 1 ≤ fr) (kk : Sd M fr lw em pc' l st (sI h a i.toNat (b8 x)) (f (sI h a i.toNat (b8 x)))) : Sd M fr lw em pc l (vi x :: vi i :: vr a :: st) h (wI h 22 a i (b8 x) f) := by
  subst hp
  refine Sd.ite' ?_
  intro ⟨hc, hi0, hi1⟩
  refine Sd.write (h1 := sI h a i.toNat (b8 x)) rfl rfl (fun hs hi => ⟨vok_tl (vok_tl (vok_tl hs)), fun E p lc e R s m args below meth c H locs ls cells slots Q C _ hH hl hS w => ?_⟩) hfr kk
  obtain ⟨g1, g2⟩ := hH.in hc (by omega) (by omega)
  rw [List.map_cons, List.map_cons, List.map_cons, cvr_ref g1]
  refine a_st (j := 1) C hH hS hc (by decide) rfl (iv (vok_tl hs)) hi0 hi1 (inR_toInt _) (fun h1 h2 h3 h4 k => W.bast C.1 C.2.1 h1 h2 h3 h4 rfl rfl d (fun H' e1 e2 e3 => k H' ?_ e2 e3)) w
  rw [e1]
  show some (Cell.setSlot _ _ (.int _)) = some (Cell.setSlot _ _ (.int (Int32.ofInt (b8 x))))
  congr 3
  exact (of_toInt _).symm
theorem Sd_zastore {a : Nat} {i x : Int} {f : AH → Option (ρ × AH)} (d : decode M.2.1 pc = .ok (.bastore, 1)) (hp : pc + 1 = pc') (hfr : 1 ≤ fr) (kk : Sd M fr lw em pc' l st (sI h a i.toNat x) (f (sI h a i.toNat x))) : Sd M fr lw em pc l (vi x :: vi i :: vr a :: st) h (wZ h 23 a i x f) := by
  subst hp
  refine Sd.ite' ?_
  intro ⟨hc, hi0, hi1, hx⟩
  refine Sd.write (h1 := sI h a i.toNat x) rfl rfl (fun hs hi => ⟨vok_tl (vok_tl (vok_tl hs)), fun E p lc e R s m args below meth c H locs ls cells slots Q C _ hH hl hS w => ?_⟩) hfr kk
  obtain ⟨g1, g2⟩ := hH.in hc (by omega) (by omega)
  rw [List.map_cons, List.map_cons, List.map_cons, cvr_ref g1]
  refine a_st (j := 2) C hH hS hc (by decide) rfl (iv (vok_tl hs)) hi0 hi1 (iv hs) (fun h1 h2 h3 h4 k => W.zast C.1 C.2.1 h1 h2 h3 h4 rfl rfl d (fun H' e1 e2 e3 => k H' ?_ e2 e3)) w
  rw [e1]
  rcases hx with rfl | rfl <;> rfl
end SX
end
section
/-! AM: new cells, stores of references, arraycopy -/
theorem hN_nw (h : AH) (t n sl : Nat) : hN (nw h t n sl) = hN h + 1 := rfl
theorem hS_nw (h : AH) (t n sl : Nat) : hS (nw h t n sl) = hS h + sl := rfl
theorem hK_nw (h : AH) (t n sl a : Nat) : hK (nw h t n sl) a = if a = 16 + hN h then (t, n) else hK h a := rfl
theorem hI_nw (h : AH) (t n sl a : Nat) : hI (nw h t n sl) a = if a = 16 + hN h then (fun _ => 0) else hI h a := rfl
theorem hR_nw (h : AH) (t n sl a : Nat) : hR (nw h t n sl) a = if a = 16 + hN h then (fun _ => 0) else hR h a := rfl
theorem RH.push {E : AE} {h : AH} {U : State} {H H1 : Heap} {t n sl : Nat} (hH : RH E h U H) (ht0 : t ≠ 0) (ht : t < 14 ∨ (aTs.map (·.1)).contains t = true) (hn : n < 2 ^ 31)
    (he : va_at (aD E) vwCl (E.1 + hN h, cel E (nw h t n sl) (16 + hN h)) H1) (hz : H1.size = H.size + 1) (hq : ∀ q : Nat, q < H.size → H1[q]? = H[q]?) : RH E (nw h t n sl) U H1 := by
  obtain ⟨h1, h2, h3, h4, h5, h6, h7⟩ := hH
  have e : wsO E (nw h t n sl) = wsO E h ++ [(E.1 + hN h, cel E (nw h t n sl) (16 + hN h))] := by
    unfold wsO
    rw [hN_nw, List.range_succ, List.map_append]
    congr 1
    apply List.map_congr_left
    intro k hk
    have hk := List.mem_range.mp hk
    rw [cel_congr (h' := nw h t n sl) (h := h) (b := 16 + k) (by rw [hK_nw, if_neg (by omega)]) (by rw [hI_nw, if_neg (by omega)]) (by rw [hR_nw, if_neg (by omega)])]
  refine ⟨by rw [hz, h1, hN_nw]; omega, ?_, ?_, ?_, ?_, ?_, ?_⟩
  · rw [e]
    refine (h2.kept (fun k q hk => hq _ ((h2 k q hk).lt))).app (fun k q hk => ?_)
    have hz : k < 1 := (List.getElem?_eq_some_iff.mp hk).1
    rw [show k = 0 by omega] at hk
    cases hk
    exact he
  · intro a ha
    rw [hN_nw] at ha
    rw [hK_nw, if_neg (by omega)]
    exact h3 a (by omega)
  · intro a k
    rw [hI_nw]
    split
    · exact inR0
    · exact h4 a k
  · intro a
    rw [hK_nw]
    split
    · exact hn
    · exact h5 a
  · rw [hK_nw, if_neg (by omega), hI_nw, if_neg (by omega)]
    exact h6.imp_right (fun ⟨x1, x2, x3⟩ => ⟨x1, x2, x3.kept (hq _ (by omega))⟩)
  · intro a g1 g2
    rw [hK_nw]
    split
    · exact ⟨ht0, ht⟩
    · rw [hN_nw] at g2; exact h7 a g1 (by omega)
section SY
variable {ρ : Type} {M : AMt} {fr lw : Nat} {em : ρ → Option AV} {pc pc' tgt : Nat} {l l' : List (Nat × AV)} {st st' : List AV} {h : AH} {o o1 o2 : Option (ρ × AH)}
theorem Sd.alloc {h1 : AH} {sl : Nat} (hn : hN h1 = hN h + 1) (hs : hS h1 = hS h + sl)
    (hst : (∀ v ∈ st, vok v) → (∀ v ∈ st', vok v) ∧ ∀ (E : AE) (p : Program) (lc : Launch) (e : Env) (R : Room) (s : State) (m : MethodId) (args : Array Value) (below : List Frame) (meth : Method) (c : Code) (H : Heap) (locs : List Loc) (ls : Array Slot) (cells slots : Nat) (Q : State → Prop),
      Ctx M fr lw E p R s m args meth c → RH E h s H → va_S (aLo E) s.heap H locs → cells + 1 ≤ R.cells → slots + sl ≤ R.slots → (∀ (H1 : Heap), RH E h1 s H1 → va_S (aLo E) s.heap H1 locs → W p lc e R s m args below meth c H1 locs (cells + 1) (slots + sl) Q (F0 m pc' ls (st'.map (cv E)))) → W p lc e R s m args below meth c H locs cells slots Q (F0 m pc ls (st.map (cv E))))
    (k : Sd M fr lw em pc' l st' h1 o) : Sd M fr lw em pc l st h o := by
  intro r h' ho
  obtain ⟨hm, hk⟩ := k r h' ho
  rw [hn, hs] at hm
  refine ⟨⟨by omega, by omega⟩, fun E p lc e R s m args below meth c n0 s0 H locs ls C hc hs1 hn1 hn2 hH hSS hl hvl hvs => ?_⟩
  obtain ⟨hv, hw⟩ := hst hvs
  refine hw E p lc e R s m args below meth c H locs ls _ _ _ C hH hSS (by omega) (by omega) (fun H1 hH1 hS1 => ?_)
  have := hk E p lc e R s m args below meth c n0 s0 H1 locs ls C hc hs1 (by omega) (by omega) hH1 hS1 hl hvl hv
  rw [hn, hs, show hN h + 1 - n0 = hN h - n0 + 1 by omega, show hS h + sl - s0 = hS h - s0 + sl by omega] at this
  exact this
theorem va_S.pushed {E : AE} {s : State} {H H1 : Heap} {locs : List Loc} (hS : va_S (aLo E) s.heap H locs) (hz : H1.size = H.size + 1) (hq : ∀ q : Nat, q < H.size → H1[q]? = H[q]?) : va_S (aLo E) s.heap H1 locs :=
  ⟨Nat.le_trans hS.1 (by omega), fun x h1 h2 => (hq x (Nat.lt_of_lt_of_le h1 hS.1)).trans (hS.2.1 x h1 h2), hS.2.2⟩
theorem cvn {E : AE} {h : AH} {H : Heap} {U : State} (hH : RH E h U H) : cv E (vr (16 + hN h)) = .ref H.size := by
  rw [cvr_ref (by omega), cad_hi E (by omega), hH.1]
  rw [show 16 + hN h - 16 = hN h by omega]
theorem newV {E : AE} {h : AH} {ci t sl : Nat} (q : vw_C) (hq : vwCl[ci]? = some q) (j : Nat) (hj : j < q.2.2) : defaultValue (aTy ci j) = vp_V (fL E (nw h t 0 sl) ci (16 + hN h)) j := by
  obtain ⟨c1, -⟩ := cls_ok ci q hq
  have hci : ci < 13 := (List.getElem?_eq_some_iff.mp hq).1
  rw [c1] at hj
  rw [fL_V hj]
  unfold fV
  rw [← aTy_fk ci hci j hj, hI_nw, hR_nw, if_pos rfl, if_pos rfl]
  have key : ∀ T : FieldType, tyKind T ≠ 3 → defaultValue T = if tyKind T = 2 then rv E 0 else .int (Int32.ofInt 0) := by
    intro T hT
    cases T <;> first | rfl | exact absurd rfl hT
  refine key _ (fun z => ?_)
  have hfk : ∀ ci, ci < 13 → ∀ k, k < cN ci → fk ci k ≠ 3 := by decide +kernel
  exact hfk ci hci j hj (by rw [← aTy_fk ci hci j hj]; exact z)
theorem Sd_new {idx ci t sl : Nat} {f : Nat → AH → Option (ρ × AH)} (C0 : String) (d : decode M.2.1 pc = .ok (.new idx, 3)) (hp : pc + 3 = pc') (hq0 : (vwCl[ci]?).map (fun q => (q.1, q.2.2)) = some (C0, sl)) (ht : ci + 1 = t) (hw1 : Cond.classLink M.1.cls idx C0 ∈ Tb) (hw2 : Cond.instantiable C0 sl ∈ Tb) (hw3 : Cond.initialized C0 ∈ Tb)
    (kk : Sd M fr lw em pc' l (vr (16 + hN h) :: st) (nw h t 0 sl) (f (16 + hN h) (nw h t 0 sl))) : Sd M fr lw em pc l st h (nO h t sl f) := by
  subst hp; subst ht
  obtain ⟨q, hq, hqe⟩ := Option.map_eq_some_iff.mp hq0
  obtain ⟨rfl, rfl⟩ := Prod.mk.inj hqe
  refine Sd.alloc (h1 := nw h (ci + 1) 0 q.2.2) (sl := q.2.2) rfl rfl (fun hs => ⟨vok_r hs, fun E p lc e R s m args below meth c H locs ls cells slots Q C hH hS hcl hsl w => ?_⟩) kk
  have hts := C.2.2.2.2.2.2.2.1
  have hKK := C.2.2.2.2.2.2.2.2.2.2.1
  obtain ⟨c1, c2, c3, c4⟩ := cls_ok ci q hq
  have hKn := hKK.1 ci _ hq
  refine W.newcK C.1 C.2.1 C.2.2.2.2.1 (hts _ hw1) (hts _ hw2) (hts _ hw3) rfl d hcl hsl hKn.2.1 rfl fun H1 kC hkC e1 z1 o1 => ?_
  have hlt := tag_lt ci q hq
  have := w H1 (hH.push (by omega) (Or.inl (by have : ci < 13 := (List.getElem?_eq_some_iff.mp hq).1; omega)) (by decide) ?_ z1 o1) (hS.pushed z1 o1)
  · rw [List.map_cons, cvn hH] at this
    exact this
  · rw [cel_obj (ci := ci) (by rw [hK_nw, if_pos rfl]) hlt, ← hH.1]
    exact ⟨_, hq, (u_born (aTy ci) hts c2 hKn hkC e1 c3).to (fun j hj => newV q hq j hj)⟩
theorem Sd_newarray {at_ : ArrayType} {n : Int} {t j : Nat} {ty : FieldType} {f : Nat → AH → Option (ρ × AH)} (d : decode M.2.1 pc = .ok (.newarray at_, 2)) (hp : pc + 2 = pc') (hty : newarray.typeOf at_ = ty) (ht : 21 ≤ t ∧ t < 24) (hj : aTs[j]? = some (t, ty)) (hw : Cond.arrayClass ty ∈ Tb) (hcb : componentBytes ty ≤ 4) (hdv : defaultValue ty = .int 0) (hra : ∀ (U : State) (cA : ClassId), va_RA U cA ty → U.vm.findClass ("[" ++ ty.toString) = some cA)
    (kk : Sd M fr lw em pc' l (vr (16 + hN h) :: st) (nw h t n.toNat n.toNat) (f (16 + hN h) (nw h t n.toNat n.toNat))) : Sd M fr lw em pc l (vi n :: st) h (nA h t n f) := by
  subst hp; subst hty
  refine Sd.ite' ?_
  intro ⟨hn0, hn1⟩
  refine Sd.alloc (h1 := nw h t n.toNat n.toNat) (sl := n.toNat) rfl rfl (fun hs => ⟨vok_r (vok_tl hs), fun E p lc e R s m args below meth c H locs ls cells slots Q C hH hS hcl hsl w => ?_⟩) kk
  have hts := C.2.2.2.2.2.2.2.1
  have hKK := C.2.2.2.2.2.2.2.2.2.2.1
  have hin : inR n := ⟨by omega, by omega⟩
  refine va_newaK C.1 C.2.1 (hts _ hw) rfl d rfl ((i32_nneg hin).mpr hn0) (i32_clamp hin) (Nat.le_trans (Nat.mul_le_mul (show n.toNat ≤ 100000 by omega) hcb) (by decide)) hcl hsl rfl fun H1 cA e1 z1 o1 hAr hNm => ?_
  have hcA : cA = E.2.2.2.2 t := Option.some.inj (hNm.symm.trans (hra _ _ (hKK.2 j _ (aTs_get E hj)).2))
  subst hcA
  have := w H1 (hH.push (by omega) (Or.inr ?_) (by omega) ?_ z1 o1) (hS.pushed z1 o1)
  · rw [List.map_cons, cvn hH] at this
    exact this
  · exact List.contains_iff_mem.mpr (List.mem_map.mpr ⟨_, List.mem_of_getElem? hj, rfl⟩)
  · rw [cel_int (t := t) (by rw [hK_nw, if_pos rfl]) (by omega) (by omega), ← hH.1]
    show H1[H.size]? = some (vp_cell _ _)
    rw [e1, vp_cell_i, hdv, hK_nw, if_pos rfl]
    show some (arrV _ n.toNat _) = some (arrV _ n.toNat _)
    rw [hI_nw, if_pos rfl]; rfl
theorem Sd_anewarray {idx : Nat} {n : Int} {t j : Nat} {C0 : String} {f : Nat → AH → Option (ρ × AH)} (d : decode M.2.1 pc = .ok (.anewarray idx, 3)) (hp : pc + 3 = pc') (ht : 30 ≤ t) (hj : aTs[j]? = some (t, .object C0)) (hw : Cond.classLink M.1.cls idx C0 ∈ Tb) (hao : C0 ∈ aoL)
    (kk : Sd M fr lw em pc' l (vr (16 + hN h) :: st) (nw h t n.toNat n.toNat) (f (16 + hN h) (nw h t n.toNat n.toNat))) : Sd M fr lw em pc l (vi n :: st) h (nA h t n f) := by
  subst hp
  refine Sd.ite' ?_
  intro ⟨hn0, hn1⟩
  refine Sd.alloc (h1 := nw h t n.toNat n.toNat) (sl := n.toNat) rfl rfl (fun hs => ⟨vok_r (vok_tl hs), fun E p lc e R s m args below meth c H locs ls cells slots Q C hH hS hcl hsl w => ?_⟩) kk
  have hts := C.2.2.2.2.2.2.2.1
  have hKK := C.2.2.2.2.2.2.2.2.2.2.1
  have hin : inR n := ⟨by omega, by omega⟩
  have hclamp := i32_clamp hin
  refine W.anew C.1 C.2.1 C.2.2.2.2.1 (hts _ hw) (va_AO.use (C.2.2.2.2.2.2.2.2.2.2.2.1 _ hao)) rfl d rfl ((i32_nneg hin).mpr hn0) (by rw [hclamp]; omega) hcl (by rw [hclamp]; exact hsl) fun cA kA comp f1 f2 f3 f4 => ?_
  rw [hclamp]
  generalize hH1 : H.push ({ cls := cA, slots := Array.replicate n.toNat .null, vm := .none } : Cell) = H1
  have z1 : H1.size = H.size + 1 := by rw [← hH1, Array.size_push]
  have e1 : H1[H.size]? = some (arrV cA n.toNat (fun _ => .null)) := by rw [← hH1, Array.getElem?_push_size, ← arrV_new]
  have o1 : ∀ q : Nat, q < H.size → H1[q]? = H[q]? := fun q hq => by rw [← hH1, Array.getElem?_push, if_neg (Nat.ne_of_lt hq)]
  have hcA : cA = E.2.2.2.2 t := by
    obtain ⟨kA', comp', k1, k2, k3, k4⟩ := (hKK.2 j _ (aTs_get E hj)).2
    exact Option.some.inj (f1.symm.trans k4)
  subst hcA
  have := w H1 (hH.push (by omega) (Or.inr ?_) (by omega) ?_ z1 o1) (hS.pushed z1 o1)
  · rw [List.map_cons, cvn hH] at this
    exact this
  · exact List.contains_iff_mem.mpr (List.mem_map.mpr ⟨_, List.mem_of_getElem? hj, rfl⟩)
  · rw [cel_ref (t := t) (by rw [hK_nw, if_pos rfl]) (by omega) (by omega), ← hH.1]
    show H1[H.size]? = some (vp_cell _ _)
    rw [e1, vp_cell_q, hK_nw, if_pos rfl]
    show some (arrV _ n.toNat _) = some (arrV _ n.toNat _)
    rw [hR_nw, if_pos rfl]; rfl
/-- a store of an object into an array of its class -/
theorem Sd_aastore {a t j ci tv v : Nat} {i : Int} {C0 : String} {f : AH → Option (ρ × AH)} (d : decode M.2.1 pc = .ok (.aastore, 1)) (hp : pc + 1 = pc') (ht : 30 ≤ t) (hj : aTs[j]? = some (t, .object C0)) (hq0 : (vwCl[ci]?).map (fun q => q.1) = some C0) (htv : ci + 1 = tv) (hfr : 1 ≤ fr)
    (kk : Sd M fr lw em pc' l st (sR h a i.toNat v) (f (sR h a i.toNat v))) : Sd M fr lw em pc l (vr v :: vi i :: vr a :: st) h (wR h t a i tv v f) := by
  subst hp; subst htv
  obtain ⟨q, hq, hqe⟩ := Option.map_eq_some_iff.mp hq0
  subst hqe
  refine Sd.ite' ?_
  intro ⟨hc, hi0, hi1, hv⟩
  refine Sd.write (h1 := sR h a i.toNat v) rfl rfl (fun hs hi => ⟨vok_tl (vok_tl (vok_tl hs)), fun E p lc e R s m args below meth c H locs ls cells slots Q C _ hH hl hS w => ?_⟩) hfr kk
  have hlt := tag_lt ci q hq
  obtain ⟨g1, g2⟩ := hH.in hc (by omega) (by omega)
  obtain ⟨v1, v2⟩ := hH.in hv (by omega) (by omega)
  have hKK := C.2.2.2.2.2.2.2.2.2.2.1
  have hii : inR i := iv (vok_tl hs)
  have hin := i32_in hii hi0 hi1
  rw [List.map_cons, List.map_cons, List.map_cons, cvr_ref g1, cvr_ref v1]
  have hcell := hH.2.1 (a - 16) _ (wsO_get E g1 g2)
  rw [cel_ref (t := t) hc (by omega) (by omega)] at hcell
  have hcell : H[cad E a]? = some (vp_cell (E.2.2.2.2 t) ((hK h a).2, .inr (.inr (.inr (.inr fun i => ro E (hR h a i)))))) := hcell
  have hvc := hH.2.1 (v - 16) _ (wsO_get E v1 v2)
  rw [cel_obj hv hlt] at hvc
  obtain ⟨r', hr', cellV, c1, c2, c3, -⟩ := hvc
  have hcls := (hKK.1 ci q hq).2
  obtain ⟨kA, comp, k1, k2, k3, -⟩ := (hKK.2 j _ (aTs_get E hj)).2
  have hcomp : comp = E.2.2.1 ci := Option.some.inj (k3.symm.trans hcls.1)
  subst hcomp
  obtain ⟨kC, hkC, -⟩ := hcls.2
  refine W.aast C.1 C.2.1 hcell (fun q h => by cases h) (fun h => by cases h) k1 k2 rfl hkC ⟨fun z => hin (Or.inl z), by show _ < (arrV _ _ _).slots.size; rw [arrV_size]; exact Nat.not_le.mp fun z => hin (Or.inr z)⟩ c1 (fun q h => by rw [c3] at h; cases h) (by rw [c2]; exact hkC) (by rw [c2]; exact va_assign hcls) rfl rfl d fun H' e1 e2 e3 => ?_
  refine w H' _ (hH.upd g1 g2 rfl rfl hi rfl (fun b hb => cel_congr rfl rfl (by rw [hR_sR, up2_ne hb])) ?_ e2 e3) (hS.wr g1 e2 e3)
  rw [cel_ref (E := E) (h := sR h a i.toNat v) (a := a) (t := t) hc (by omega) (by omega)]
  show H'[cad E a]? = some (vp_cell _ _)
  rw [e1]
  rw [vp_cell_q, vp_cell_q, arrV_store, i32_clamp hii]
  congr 2
  funext z
  unfold updV
  rw [hR_sR, up2_at]
  split
  · rw [rf_ro, rv_ref v1]
  · rfl
end SY
end
section
/-! AM: arraycopy, ends, calls -/
/-- System.arraycopy of ints -/
def cI2 (h : AH) (src sp dst dp n : Nat) : AH := (hN h, hS h, hK h, fun b => if b = dst then va_cpy (hI h src) (hI h dst) sp dp n else hI h b, hR h)
def cp {β : Type} (h : AH) (src : Nat) (sp : Int) (dst : Nat) (dp n : Int) (f : AH → Option β) : Option β :=
  if (hK h src).1 = 21 ∧ (hK h dst).1 = 21 ∧ 0 ≤ sp ∧ 0 ≤ dp ∧ 0 ≤ n ∧ sp + n ≤ ((hK h src).2 : Int) ∧ dp + n ≤ ((hK h dst).2 : Int) then f (cI2 h src sp.toNat dst dp.toNat n.toNat) else none
theorem hI_cI2 (h : AH) (src sp dst dp n b : Nat) : hI (cI2 h src sp dst dp n) b = if b = dst then va_cpy (hI h src) (hI h dst) sp dp n else hI h b := rfl
section SZ
variable {ρ : Type} {M : AMt} {fr lw : Nat} {em : ρ → Option AV} {pc pc' tgt : Nat} {l l' : List (Nat × AV)} {st st' : List AV} {h : AH} {o o1 o2 : Option (ρ × AH)}
def catA (v : AV) : Nat := match v with
  | .inr (.inl _) => 2
  | _ => 1
theorem catA_cv (E : AE) (v : AV) : (cv E v).category = catA v := by
  rcases v with z | z | a
  · rfl
  · rfl
  · show (rv E a).category = 1
    unfold rv; split <;> rfl
theorem catA_sum (E : AE) (st : List AV) : ((st.map (cv E)).map fun v => v.category).sum = (st.map catA).sum := by
  rw [List.map_map]; congr 1; apply List.map_congr_left; intro v _; exact catA_cv E v
theorem cpy_nar {f g : Nat → Int} {sp dp n : Nat} : (fun j => Int32.ofInt (va_cpy f g sp dp n j)) = va_cpy (fun j => Int32.ofInt (f j)) (fun j => Int32.ofInt (g j)) sp dp n := by
  funext j; unfold va_cpy; split <;> rfl
theorem Sd_copy {idx src dst : Nat} {sp dp n : Int} {f : AH → Option (ρ × AH)} (d : decode M.2.1 pc = .ok (.invokestatic idx, 3)) (hp : pc + 3 = pc') (hw1 : Cond.methodLink M.1.cls idx arraycopyName ∈ Tb) (hw2 : Cond.native arraycopyName ∈ Tb) (hw3 : Cond.static arraycopyName ∈ Tb) (hw4 : Cond.initialized "java/lang/System" ∈ Tb) (hfr : 1 ≤ fr)
    (hlw : (st.map catA).sum + (nativeFrameWords "java/lang/System" "arraycopy" 5 + 11) ≤ lw) (kk : Sd M fr lw em pc' l st (cI2 h src sp.toNat dst dp.toNat n.toNat) (f (cI2 h src sp.toNat dst dp.toNat n.toNat))) : Sd M fr lw em pc l (vi n :: vi dp :: vr dst :: vi sp :: vr src :: st) h (cp h src sp dst dp n f) := by
  subst hp
  refine Sd.ite' ?_
  intro ⟨hc0, hc1, hs0, hd0, hn0, hb1, hb2⟩
  refine Sd.write (h1 := cI2 h src sp.toNat dst dp.toNat n.toNat) rfl rfl (fun hs hi => ⟨vok_tl (vok_tl (vok_tl (vok_tl (vok_tl hs)))), fun E p lc e R s m args below meth c H locs ls cells slots Q C hfr1 hH hl hS w => ?_⟩) hfr kk
  have hsp : inR sp := iv (vok_tl (vok_tl (vok_tl hs)))
  have hdp : inR dp := iv (vok_tl hs)
  have hn : inR n := iv hs
  have hts := C.2.2.2.2.2.2.2.1
  have hKK := C.2.2.2.2.2.2.2.2.2.2.1
  obtain ⟨s1, s2⟩ := hH.in hc0 (by decide) (by decide)
  obtain ⟨g1, g2⟩ := hH.in hc1 (by decide) (by decide)
  rw [List.map_cons, List.map_cons, List.map_cons, List.map_cons, List.map_cons, cvr_ref s1, cvr_ref g1]
  have x0 := hH.2.1 (src - 16) _ (wsO_get E s1 s2)
  rw [cel_int hc0 (by decide) (by decide)] at x0
  have x1 := hH.2.1 (dst - 16) _ (wsO_get E g1 g2)
  rw [cel_int hc1 (by decide) (by decide)] at x1
  have hx0 : H[cad E src]? = some (vp_cell (E.2.2.2.2 21) ((hK h src).2, .inl fun i => Int32.ofInt (hI h src i))) := x0
  have hx1 : H[cad E dst]? = some (vp_cell (E.2.2.2.2 21) ((hK h dst).2, .inl fun i => Int32.ofInt (hI h dst i))) := x1
  intro T hT X
  obtain ⟨-, k0, hk0, cm0, hkk0⟩ := (hKK.2 0 _ (aTs_get E (j := 0) rfl)).1 (hK h src).2 (fun j => .int (Int32.ofInt (hI h src j)))
  obtain ⟨-, k1, hk1, cm1, hkk1⟩ := (hKK.2 0 _ (aTs_get E (j := 0) rfl)).1 (hK h dst).2 (fun j => .int (Int32.ofInt (hI h dst j)))
  obtain ⟨vm', X', step⟩ := X.arraycopy C.1 C.2.2.2.2.1 (hts _ hw1) (hts _ hw2) (hts _ hw3) (hts _ hw4) (src := cad E src) (dst := cad E dst) (cs := vp_cell (E.2.2.2.2 21) ((hK h src).2, .inl fun i => Int32.ofInt (hI h src i))) (cd := vp_cell (E.2.2.2.2 21) ((hK h dst).2, .inl fun i => Int32.ofInt (hI h dst i))) (srcPos := Int32.ofInt sp) (destPos := Int32.ofInt dp) (n := Int32.ofInt n) (by rw [hT]; exact hx0) (by rw [hT]; exact hx1)
    (fun _ h => by cases h) (fun _ h => by cases h) (fun h => by cases h) (fun h => by cases h) hk0 hk1 hkk0 hkk1 (by simp [refKind]) ((i32_nneg hsp).mpr hs0) ((i32_nneg hdp).mpr hd0) ((i32_nneg hn).mpr hn0)
    (by rw [inR_ofInt hsp, inR_ofInt hn]; show ¬ _ > ((arrV _ (hK h src).2 _).slots.size : Int); rw [arrV_size]; omega)
    (by rw [inR_ofInt hdp, inR_ofInt hn]; show ¬ _ > ((arrV _ (hK h dst).2 _).slots.size : Int); rw [arrV_size]; omega)
    (fun vm₁ _ i hi1 => by
      rw [i32_clamp hn] at hi1
      have e : (vp_cell (E.2.2.2.2 21) ((hK h src).2, .inl fun i => Int32.ofInt (hI h src i))).slots.getD ((Int32.ofInt sp).toNatClampNeg + i) .null = .int (Int32.ofInt (hI h src (sp.toNat + i))) := by
        show (arrV _ (hK h src).2 (fun j => .int (Int32.ofInt (hI h src j)))).slots.getD _ _ = _
        rw [i32_clamp hsp, Array.getD_eq_getD_getElem?, arrV_read _ _ (by omega)]
        rfl
      refine ⟨?_, ?_⟩
      · rw [e]; rfl
      · rw [e]
        exact trivial)
    (g := F0 m pc ls (.int (Int32.ofInt n) :: .int (Int32.ofInt dp) :: .ref (cad E dst) :: .int (Int32.ofInt sp) :: .ref (cad E src) :: st.map (cv E))) rfl (by rw [C.2.2.1]; exact hl.1) (rest := st.map (cv E)) rfl (by rw [C.2.1]; exact d) hfr1 (by show 2 * 0 + _ + _ ≤ _; rw [catA_sum, C.2.2.2.2.2.2.2.2.2.1]; omega)
  have h4 : (Int32.ofInt sp).toNatClampNeg + (Int32.ofInt n).toNatClampNeg ≤ (hK h src).2 := by rw [i32_clamp hsp, i32_clamp hn]; omega
  have e1 : copied (vp_cell (E.2.2.2.2 21) ((hK h src).2, .inl fun i => Int32.ofInt (hI h src i))) (vp_cell (E.2.2.2.2 21) ((hK h dst).2, .inl fun i => Int32.ofInt (hI h dst i))) (Int32.ofInt sp) (Int32.ofInt dp) (Int32.ofInt n) = vp_cell (E.2.2.2.2 21) ((hK h dst).2, .inl (va_cpy (fun i => Int32.ofInt (hI h src i)) (fun i => Int32.ofInt (hI h dst i)) (Int32.ofInt sp).toNatClampNeg (Int32.ofInt dp).toNatClampNeg (Int32.ofInt n).toNatClampNeg)) := va_copied (fun z => .int z) (E.2.2.2.2 21) (E.2.2.2.2 21) (fun i => Int32.ofInt (hI h src i)) (fun i => Int32.ofInt (hI h dst i)) h4
  rw [e1] at X' step
  have hlt : cad E dst < H.size := (Array.getElem?_eq_some_iff.mp hx1).1
  generalize hcell : vp_cell (E.2.2.2.2 21) ((hK h dst).2, .inl (va_cpy (fun i => Int32.ofInt (hI h src i)) (fun i => Int32.ofInt (hI h dst i)) (Int32.ofInt sp).toNatClampNeg (Int32.ofInt dp).toNatClampNeg (Int32.ofInt n).toNatClampNeg)) = cellN at X' step
  have hheap : ((T.setVm vm').setCell (cad E dst) cellN).heap = H.setIfInBounds (cad E dst) cellN := by rw [← hT]; rfl
  have oq : ∀ q : Nat, q ≠ cad E dst → (H.setIfInBounds (cad E dst) cellN)[q]? = H[q]? := fun q hq => by simp [Array.getElem?_setIfInBounds, Ne.symm hq]
  have oz : (H.setIfInBounds (cad E dst) cellN).size = H.size := by simp
  have oa : (H.setIfInBounds (cad E dst) cellN)[cad E dst]? = some cellN := by simp [Array.getElem?_setIfInBounds, hlt]
  have hR1 : RH E (cI2 h src sp.toNat dst dp.toNat n.toNat) s (H.setIfInBounds (cad E dst) cellN) := by
    refine hH.upd g1 g2 rfl rfl (fun b k => ?_) (by rw [hI_cI2, if_neg (by omega)]) (fun b hb => cel_congr rfl (by rw [hI_cI2, if_neg hb]) rfl) ?_ oz oq
    · rw [hI_cI2]; split
      · unfold va_cpy; split
        · exact hi _ _
        · exact hi _ _
      · exact hi _ _
    · rw [cel_int (E := E) (h := cI2 h src sp.toNat dst dp.toNat n.toNat) (a := dst) (t := 21) hc1 (by decide) (by decide)]
      show (H.setIfInBounds (cad E dst) cellN)[cad E dst]? = some (vp_cell _ _)
      rw [oa, ← hcell, hI_cI2, if_pos rfl, cpy_nar, i32_clamp hsp, i32_clamp hdp, i32_clamp hn]; rfl
  have hlo : aLo E (cad E dst) := by show E.1 ≤ cad E dst; rw [cad_hi E g1]; omega
  obtain ⟨t, a1, b1⟩ := w _ _ hR1 ⟨by rw [oz]; exact hS.1, fun q z1 z2 => by
      rw [oq q (fun e => z2 (by rw [e]; exact hlo))]
      exact hS.2.1 q z1 z2, fun q hq => by
      rcases List.mem_append.mp hq with h | h
      · exact hS.2.2 q h
      · obtain ⟨z, -, hz⟩ := List.mem_map.mp h
        rw [← hz]
        exact hlo⟩ _ hheap X'
  exact ⟨t, step t a1, b1⟩
/-! ends -/
def emI (r : Int) : Option AV := some (vi r)
def emV (_ : Unit) : Option AV := none
def emR (r : Nat) : Option AV := some (vr r)
theorem Qe_of {E : AE} {em : ρ → Option AV} {r : ρ} {args : Array Value} {s t : State} {H : Heap} {locs : List Loc} {v : Option Value} (hv : v = (em r).map (cv E)) (hH : RH E h s H) (hS : va_S (aLo E) s.heap H locs) (hvk : ∀ w, em r = some w → vok w) (ht : t.heap = H) (hW : s.WarmedH t.vm) : Qe E em r h args s (.returned v) t :=
  ⟨by rw [hv], by rw [ht]; exact hH.moved hW.alike, hS.F ht, hvk⟩
theorem Sd_iret {x : Int} (d : decode M.2.1 pc = .ok (.ireturn, 1)) (hr : M.2.2.2 = some .int) : Sd M fr lw emI pc l [vi x] h (some (x, h)) := by
  intro r h' ho
  cases ho
  refine ⟨⟨Nat.le_refl _, Nat.le_refl _⟩, fun E p lc e R s m args below meth c n0 s0 H locs ls C hc hs hn hn2 hH hS hl hvl hvs => ?_⟩
  exact W.iret C.1 C.2.1 (C.2.2.2.1.trans hr) (fun t ht hW => Qe_of rfl hH hS (fun w hw => by cases hw; exact vok_hd hvs) ht hW) hS.2.2 d C.2.2.2.2.2.1
theorem Sd_zret {x : Int} (d : decode M.2.1 pc = .ok (.ireturn, 1)) (hr : M.2.2.2 = some .boolean) (hx : x = 0 ∨ x = 1) : Sd M fr lw emI pc l [vi x] h (some (x, h)) := by
  intro r h' ho
  cases ho
  refine ⟨⟨Nat.le_refl _, Nat.le_refl _⟩, fun E p lc e R s m args below meth c n0 s0 H locs ls C hc hs hn hn2 hH hS hl hvl hvs => ?_⟩
  exact W.zret C.1 C.2.1 (C.2.2.2.1.trans hr) (by rcases hx with rfl | rfl <;> rfl) (fun t ht hW => Qe_of rfl hH hS (fun w hw => by cases hw; exact vok_hd hvs) ht hW) hS.2.2 d C.2.2.2.2.2.1
/-- a boolean that isn't known to be one -/
def rz (x : Int) (h : AH) : Option (Int × AH) := if x = 0 ∨ x = 1 then some (x, h) else none
theorem Sd_zret' {x : Int} (d : decode M.2.1 pc = .ok (.ireturn, 1)) (hr : M.2.2.2 = some .boolean) : Sd M fr lw emI pc l [vi x] h (rz x h) := Sd.ite' (fun hx => Sd_zret d hr hx)
theorem Sd_vret (d : decode M.2.1 pc = .ok (.return_, 1)) (hr : M.2.2.2 = none) : Sd M fr lw emV pc l [] h (some ((), h)) := by
  intro r h' ho
  cases ho
  refine ⟨⟨Nat.le_refl _, Nat.le_refl _⟩, fun E p lc e R s m args below meth c n0 s0 H locs ls C hc hs hn hn2 hH hS hl hvl hvs => ?_⟩
  exact W.vret C.1 C.2.1 (C.2.2.2.1.trans hr) (fun t ht hW => Qe_of rfl hH hS (fun w hw => by cases hw) ht hW) hS.2.2 d C.2.2.2.2.2.1
theorem Sd_aret {a : Nat} {C0 : String} (d : decode M.2.1 pc = .ok (.areturn, 1)) (hr : M.2.2.2 = some (.object C0)) : Sd M fr lw emR pc l [vr a] h (some (a, h)) := by
  intro r h' ho
  cases ho
  refine ⟨⟨Nat.le_refl _, Nat.le_refl _⟩, fun E p lc e R s m args below meth c n0 s0 H locs ls C hc hs hn hn2 hH hS hl hvl hvs => ?_⟩
  exact W.aret C.1 C.2.1 (C.2.2.2.1.trans hr) (Or.inl ⟨_, rfl⟩) (by show rv E a = .null ∨ ∃ b, rv E a = .ref b; unfold rv; split; exact Or.inl rfl; exact Or.inr ⟨_, rfl⟩) (fun t ht hW => Qe_of rfl hH hS (fun w hw => by cases hw; exact trivial) ht hW) hS.2.2 d C.2.2.2.2.2.1
end SZ
end
section
/-! AM: methods and calls -/
def Pe (E : AE) (as : List AV) (h : AH) : Array Value → State → Prop := fun v U => v = (as.map (cv E)).toArray ∧ RH E h U U.heap ∧ va_K (aD E) vwCl (atys E) U ∧ Ext E U
/-- a method, called with these on this heap, comes to its end as 'o' says -/
def CS {ρ : Type} (M : AMt) (fr lw : Nat) (em : ρ → Option AV) (as : List AV) (h : AH) (o : Option (ρ × AH)) : Prop :=
  ∀ (r : ρ) (h' : AH), o = some (r, h') → (hN h ≤ hN h' ∧ hS h ≤ hS h') ∧ ((∀ v ∈ as, vok v) → ∀ (E : AE) (lc : Launch),
    Met lc M.1 (Cond.code M.1 M.2.1 M.2.2.1 M.2.2.2 :: Tb) ({ frames := fr, cells := hN h' - hN h, slots := hS h' - hS h, locals := lw }) (Pe E as h) (Qe E em r h') (hN h' - hN h) (hS h' - hS h) (aLo E))
def lvA : Nat → List AV → List (Nat × AV)
  | _, [] => []
  | i, v :: vs => (i, v) :: lvA (if isL v then i + 2 else i + 1) vs
theorem lvA_map (E : AE) : ∀ (vs : List AV) (i : Nat), lv_args i (vs.map (cv E)) = (lvA i vs).map (cvp E)
  | [], _ => rfl
  | v :: vs, i => by
    show (i, cv E v) :: lv_args _ (vs.map (cv E)) = (i, cv E v) :: (lvA _ vs).map (cvp E)
    rw [lvA_map E vs]
    congr 3
    have := cat_isL E v
    cases hv : isL v
    · rw [hv] at this; rw [if_neg (by simpa using this)]; rfl
    · rw [hv] at this; rw [if_pos (by simpa using this)]; rfl
theorem lvA_vok : ∀ (vs : List AV) (i : Nat), (∀ v ∈ vs, vok v) → ∀ q ∈ lvA i vs, vok q.2
  | [], _, _, q, hq => by cases hq
  | v :: vs, i, h, q, hq => by
    rcases List.mem_cons.mp hq with rfl | hq
    · exact h v List.mem_cons_self
    · exact lvA_vok vs _ (fun w hw => h w (List.mem_cons_of_mem _ hw)) q hq
theorem lg_len (E : AE) : ∀ vs : List AV, (lg_sl (vs.map (cv E))).length = (vs.map catA).sum
  | [] => rfl
  | v :: vs => by
    have ih := lg_len E vs
    unfold lg_sl at ih ⊢
    rw [List.map_cons, List.flatMap_cons, List.length_append, ih, List.map_cons, List.sum_cons]
    congr 1
    rw [catA_cv]
    rcases v with z | z | a <;> rfl
theorem CS.of {ρ : Type} {M : AMt} {fr lw : Nat} {em : ρ → Option AV} {as : List AV} {h : AH} {o : Option (ρ × AH)} (hy : plainName M.1.cls = true) (hlen : (as.map catA).sum ≤ M.2.2.1) (k : Sd M fr lw em 0 (lvA 0 as) [] h o) : CS M fr lw em as h o := by
  intro r h' ho
  obtain ⟨hm, hk⟩ := k r h' ho
  refine ⟨hm, fun hvk E lc => ?_⟩
  refine Met.ofW (cc := M.2.1) (maxL := M.2.2.1) (ret := M.2.2.2) hy rfl ?_
  intro p e s m args below meth c s₁ B hml hv
  obtain ⟨rfl, hH, hKK, hX⟩ := hv
  have hts := atoms_spec (ws := Cond.code M.1 M.2.1 M.2.2.1 M.2.2.2 :: Tb) B.pre
  have C : Ctx M fr lw E p (headSpec (Cond.code M.1 M.2.1 M.2.2.1 M.2.2.2 :: Tb) ({ frames := fr, cells := hN h' - hN h, slots := hS h' - hS h, locals := lw })).room s m ((as.map (cv E)).toArray) meth c :=
    ⟨B.exec, B.bytes, hml, B.returns, findClass_of_methodNamed B.named, B.notSynchronized, fun hn => by rw [(name_of_methodNamed B.named B.method).1]; exact hn, fun w hw => hts w (List.mem_cons_of_mem _ hw), rfl, rfl, hKK, hX⟩
  have hl := lv_entry (as.map (cv E)) (n := M.2.2.1) (by rw [lg_len]; exact hlen)
  rw [lg_entry_eq]
  rw [lvA_map] at hl
  have := hk E p lc e _ s m _ below meth c (hN h) (hS h) s.heap [] _ C (Nat.le_refl _) (Nat.le_refl _) (Nat.le_refl _) (Nat.le_refl _) hH va_S.rf hl (lvA_vok as 0 hvk) (fun v hv => by cases hv)
  rw [Nat.sub_self, Nat.sub_self] at this
  exact this
theorem Pe_blind (E : AE) (as : List AV) (h : AH) : FrameBlind (Pe E as h) := by
  intro a U g mk ⟨h1, h2, h3, h4⟩
  exact ⟨h1, h2.moved (U := U.calling g mk a) (Vm.Alike.refl U.vm), va_K.moved (u := U) (U := U.calling g mk a) (Vm.Alike.refl U.vm) h3, h4.go (U := U.calling g mk a) (State.WarmedH.refl U) (Nat.le_refl _) (fun _ _ _ => rfl)⟩
theorem Pe_of {E : AE} {as : List AV} {h : AH} {s U : State} {H : Heap} {locs : List Loc} (hH : RH E h s H) (hKK : va_K (aD E) vwCl (atys E) s) (hX : Ext E s) (hS : va_S (aLo E) s.heap H locs) (hU : U.heap = H) (hW : s.WarmedH U.vm) : Pe E as h ((as.map (cv E)).toArray) U :=
  ⟨rfl, by rw [hU]; exact hH.moved hW.alike, va_K.moved hW.alike hKK, hX.go hW (by rw [hU]; exact hS.1) (fun q h1 h2 => by rw [hU]; exact hS.2.1 q h1 h2)⟩
/-- what the tables say of a method that is called -/
def MOk (M : AMt) (n : Nat) : Prop := Cond.initialized M.1.cls ∈ Tb ∧ Cond.code M.1 M.2.1 M.2.2.1 M.2.2.2 ∈ Tb ∧ (M.1.cls ≠ "java/lang/invoke/MethodHandle" ∧ M.1.cls ≠ "java/lang/invoke/VarHandle" ∧ (parseMethodDescriptor M.1.desc).map (fun d => d.parameters.length) = some n)
theorem ws_good {M' : AMt} {n : Nat} (h : MOk M' n) : GoodIn Tb (Cond.code M'.1 M'.2.1 M'.2.2.1 M'.2.2.2 :: Tb) := fun w hw => by
  rcases List.mem_cons.mp hw with rfl | hw
  · exact Tb_good _ h.2.1
  · exact Tb_good w hw
section SC
variable {ρ ρ' : Type} {M M' : AMt} {fr lw fr' lw' : Nat} {em : ρ → Option AV} {em' : ρ' → Option AV} {pc pc' : Nat} {l : List (Nat × AV)} {st stk as : List AV} {h : AH} {o' : Option (ρ' × AH)} {kf : ρ' → AH → Option (ρ × AH)}
def bnd {ρ ρ' : Type} (o' : Option (ρ' × AH)) (k : ρ' → AH → Option (ρ × AH)) : Option (ρ × AH) := match o' with
  | none => none
  | some q => k q.1 q.2
theorem Sd.call (hcs : CS M' fr' lw' em' as h o') (hp : pc + 3 = pc') (hvs : (∀ v ∈ stk, vok v) → (∀ v ∈ as, vok v) ∧ ∀ v ∈ st, vok v)
    (hrun : ∀ (h1 : AH) (r1 : ρ') (E : AE) (p : Program) (lc : Launch) (e : Env) (R : Room) (s : State) (m : MethodId) (args : Array Value) (below : List Frame) (meth : Method) (c : Code) (H : Heap) (locs : List Loc) (ls : Array Slot) (cells slots : Nat),
      Ctx M fr lw E p R s m args meth c → RH E h s H → va_S (aLo E) s.heap H locs → ls.size = M.2.2.1 → Met lc M'.1 (Cond.code M'.1 M'.2.1 M'.2.2.1 M'.2.2.2 :: Tb) ({ frames := fr', cells := hN h1 - hN h, slots := hS h1 - hS h, locals := lw' }) (Pe E as h) (Qe E em' r1 h1) (hN h1 - hN h) (hS h1 - hS h) (aLo E) →
      cells + (hN h1 - hN h) ≤ R.cells ∧ slots + (hS h1 - hS h) ≤ R.slots → va_Run p lc e R s m args below meth c H locs cells slots (hN h1 - hN h) (hS h1 - hS h) (F0 m pc ls (stk.map (cv E))) (st.map (cv E)) (Qe E em' r1 h1 ((as.map (cv E)).toArray)) (aLo E))
    (kk : ∀ r1 h1, Sd M fr lw em pc' l ((em' r1).toList ++ st) h1 (kf r1 h1)) : Sd M fr lw em pc l stk h (bnd o' kf) := by
  subst hp
  intro r h' ho
  cases o' with
  | none => cases ho
  | some q =>
    obtain ⟨r1, h1⟩ := q
    obtain ⟨⟨m1, m2⟩, hM⟩ := hcs r1 h1 rfl
    obtain ⟨⟨m3, m4⟩, hk⟩ := kk r1 h1 r h' ho
    refine ⟨⟨Nat.le_trans m1 m3, Nat.le_trans m2 m4⟩, fun E p lc e R s m args below meth c n0 s0 H locs ls C hc hs hn hn2 hH hSS hl hvl hvs1 => ?_⟩
    obtain ⟨va, vs⟩ := hvs hvs1
    intro T hT X
    obtain ⟨v, st₀, t, T', L, e0, X', hL, e1, e2, ⟨q1, q2, q3, q4⟩, stp⟩ := hrun h1 r1 E p lc e R s m args below meth c H locs ls _ _ C hH hSS hl.1 (hM va E lc) ⟨by omega, by omega⟩ T hT X
    have hv : v = (em' r1).map (cv E) := by injection q1
    subst hv
    have hH' : RH E h1 s T'.heap := by rw [e1]; exact q2.moved (by rw [← e2]; exact X'.warmed.alike.symm)
    have hS' : va_S (aLo E) s.heap T'.heap (locs ++ L) := by
      rw [e1]
      refine ⟨Nat.le_trans hSS.1 (by rw [← e0]; exact q3.1), fun q z1 z2 => ?_, fun q hq => ?_⟩
      · rw [q3.2 q (by rw [e0]; exact Nat.lt_of_lt_of_le z1 hSS.1) z2, e0]
        exact hSS.2.1 q z1 z2
      · rcases List.mem_append.mp hq with h | h
        · exact hSS.2.2 q h
        · exact hL q h
    have hw := hk E p lc e R s m args below meth c n0 s0 T'.heap (locs ++ L) ls C hc hs (by omega) (by omega) hH' hS' hl hvl (fun w hw => by
      rcases List.mem_append.mp hw with h | h
      · cases hem : em' r1 with
        | none => rw [hem] at h; cases h
        | some u => rw [hem] at h; rw [List.mem_singleton.mp h]; exact q4 u hem
      · exact vs w h)
    obtain ⟨t2, a1, b1⟩ := W.cs (by omega) (by omega) hw T' rfl X'
    refine ⟨t2, stp t2 ?_, b1⟩
    have e : (Option.map (cv E) (em' r1)).toList ++ st.map (cv E) = ((em' r1).toList ++ st).map (cv E) := by
      cases em' r1 <;> simp
    rw [e]
    exact a1
theorem rest_ok {E : AE} {m : MethodId} {ls : Array Slot} {xs : List Value} (hcat : (st.map catA).sum ≤ 8) : 2 * (F0 m pc ls xs).monitorRoom + ((st.map (cv E)).map fun v => v.category).sum ≤ 8 := lv_room (rest := xs) (by rw [catA_sum]; exact hcat)
/-- the receiver is an object of the class -/
def rc {β : Type} (h : AH) (t a : Nat) (o : Option β) : Option β := if (hK h a).1 = t then o else none
theorem Sd.callV {idx ci t a n : Nat} (C0 : String) (d : decode M.2.1 pc = .ok (.invokevirtual idx, 3)) (hp : pc + 3 = pc') (ht : ci + 1 = t) (hq0 : (vwCl[ci]?).map (fun q => q.1) = some C0) (hC : M'.1.cls = C0) (hm : MOk M' n) (hl : Cond.methodLink M.1.cls idx M'.1 ∈ Tb) (hi : Cond.instanceMethod M'.1 ∈ Tb) (hsel : Cond.selects C0 M'.1 M'.1 ∈ Tb)
    (hrm : fr' + 1 ≤ fr ∧ 8 + (M'.2.2.1 + 11) + lw' ≤ lw) (hn : as.length = n) (hst : stk = as.reverse ++ vr a :: st) (hcat : (st.map catA).sum ≤ 8) (hcs : CS M' fr' lw' em' (vr a :: as) h o')
    (kk : ∀ r1 h1, Sd M fr lw em pc' l ((em' r1).toList ++ st) h1 (kf r1 h1)) : Sd M fr lw em pc l stk h (rc h t a (bnd o' kf)) := by
  subst ht; subst hC
  obtain ⟨q, hq, hqe⟩ := Option.map_eq_some_iff.mp hq0
  refine Sd.ite' (fun hc => Sd.call hcs hp (fun hv => ?_) (fun h1 r1 E p lc e R s m args below meth c H locs ls cells slots C hH hSS hls hM hf => ?_) kk)
  · subst hst
    refine ⟨fun v hv1 => ?_, fun v hv1 => hv v (List.mem_append_right _ (List.mem_cons_of_mem _ hv1))⟩
    rcases List.mem_cons.mp hv1 with rfl | hv1
    · exact trivial
    · exact hv v (List.mem_append_left _ (List.mem_reverse.mpr hv1))
  · have hlt := tag_lt ci q hq
    obtain ⟨g1, g2⟩ := hH.in hc (by omega) (by omega)
    have hts := C.2.2.2.2.2.2.2.1
    have hKK := C.2.2.2.2.2.2.2.2.2.2.1
    have cw : CallW R s args M.1.cls M'.1.cls idx M'.1 M'.2.1 M'.2.2.1 M'.2.2.2 (Cond.code M'.1 M'.2.1 M'.2.2.1 M'.2.2.2 :: Tb) ({ frames := fr', cells := hN h1 - hN h, slots := hS h1 - hS h, locals := lw' }) (hN h1 - hN h) (hS h1 - hS h) n :=
      ⟨callB_of n hts (ws_good hm) rfl rfl rfl (hts _ hm.1) (hts _ hl) hm.2.2 ⟨by rw [C.2.2.2.2.2.2.2.2.1]; exact hrm.1, by rw [C.2.2.2.2.2.2.2.2.2.1]; exact hrm.2⟩, hts _ hi, hts _ hsel⟩
    have hpre : ∀ U : State, U.heap = H → s.WarmedH U.vm → Pe E (vr a :: as) h ((Value.ref (cad E a) :: as.map (cv E)).toArray) U := fun U hU hW => by
      have := Pe_of (as := vr a :: as) hH hKK C.2.2.2.2.2.2.2.2.2.2.2 hSS hU hW
      rw [List.map_cons, cvr_ref g1] at this
      exact this
    have hstk : stk.map (cv E) = (as.map (cv E)).reverse ++ .ref (cad E a) :: st.map (cv E) := by rw [hst, List.map_append, List.map_reverse, List.map_cons, cvr_ref g1]
    have hrecv : ∃ cellB : Cell, H[cad E a]? = some cellB ∧ cellB.vm.isStatics = false ∧ s.vm.findClass M'.1.cls = some cellB.cls := by
      obtain ⟨cell, r1, r2, r3⟩ := va_recv hKK hH.2.1 hq (a := cad E a) (q0 := a - 16) (ci := ci) (fs := fL E h ci a) (by rw [wsO_get E g1 g2, cel_obj hc hlt])
      exact ⟨cell, r1, r2, by rw [hqe] at r3; exact r3⟩
    have key := va_runV (e := e) (below := below) (meth := meth) (H := H) (locs := locs) (cells := cells) (slots := slots) (b := cad E a) (As := as.map (cv E)) (rest := st.map (cv E)) (g := F0 m pc ls (stk.map (cv E))) ⟨C.1, C.2.1, C.2.2.1, C.2.2.2.2.1, hts⟩ hM cw ⟨Pe_blind E _ h, hrecv, hpre⟩ rfl (by rw [List.length_map]; exact hn) hls hstk (rest_ok hcat) d hf
    rw [← cvr_ref g1] at key
    exact key
theorem Sd.callS {idx n : Nat} (d : decode M.2.1 pc = .ok (.invokestatic idx, 3)) (hp : pc + 3 = pc') (hm : MOk M' n) (hl : Cond.methodLink M.1.cls idx M'.1 ∈ Tb) (hstt : Cond.static M'.1 ∈ Tb)
    (hrm : fr' + 1 ≤ fr ∧ 8 + (M'.2.2.1 + 11) + lw' ≤ lw) (hn : as.length = n) (hst : stk = as.reverse ++ st) (hcat : (st.map catA).sum ≤ 8) (hcs : CS M' fr' lw' em' as h o')
    (kk : ∀ r1 h1, Sd M fr lw em pc' l ((em' r1).toList ++ st) h1 (kf r1 h1)) : Sd M fr lw em pc l stk h (bnd o' kf) := by
  refine Sd.call hcs hp (fun hv => ?_) (fun h1 r1 E p lc e R s m args below meth c H locs ls cells slots C hH hSS hls hM hf => ?_) kk
  · subst hst
    exact ⟨fun v hv1 => hv v (List.mem_append_left _ (List.mem_reverse.mpr hv1)), fun v hv1 => hv v (List.mem_append_right _ hv1)⟩
  · have hts := C.2.2.2.2.2.2.2.1
    have hKK := C.2.2.2.2.2.2.2.2.2.2.1
    refine va_runS (As := as.map (cv E)) ⟨C.1, C.2.1, C.2.2.1, C.2.2.2.2.1, hts⟩ hM ⟨callB_of n hts (ws_good hm) rfl rfl rfl (hts _ hm.1) (hts _ hl) hm.2.2 ⟨by rw [C.2.2.2.2.2.2.2.2.1]; exact hrm.1, by rw [C.2.2.2.2.2.2.2.2.2.1]; exact hrm.2⟩, hts _ hstt⟩ ⟨Pe_blind E _ h, fun U hU hW => Pe_of hH hKK C.2.2.2.2.2.2.2.2.2.2.2 hSS hU hW⟩ rfl (by rw [List.length_map]; exact hn) hls ?_ (rest_ok hcat) d hf
    show stk.map (cv E) = _
    rw [hst, List.map_append, List.map_reverse]
theorem Sd.callI {idx a n : Nat} (d : decode M.2.1 pc = .ok (.invokespecial idx, 3)) (hp : pc + 3 = pc') (ha : 16 ≤ a) (hm : MOk M' n) (hl : Cond.methodLink M.1.cls idx M'.1 ∈ Tb) (hi : Cond.instanceMethod M'.1 ∈ Tb) (hnm : M'.1.name = "<init>") (hret : M'.2.2.2 = Option.none)
    (hrm : fr' + 1 ≤ fr ∧ 8 + (M'.2.2.1 + 11) + lw' ≤ lw) (hn : as.length = n) (hst : stk = as.reverse ++ vr a :: st) (hcat : (st.map catA).sum ≤ 8) (hcs : CS M' fr' lw' em' (vr a :: as) h o')
    (kk : ∀ r1 h1, Sd M fr lw em pc' l ((em' r1).toList ++ st) h1 (kf r1 h1)) : Sd M fr lw em pc l stk h (bnd o' kf) := by
  refine Sd.call hcs hp (fun hv => ?_) (fun h1 r1 E p lc e R s m args below meth c H locs ls cells slots C hH hSS hls hM hf => ?_) kk
  · subst hst
    refine ⟨fun v hv1 => ?_, fun v hv1 => hv v (List.mem_append_right _ (List.mem_cons_of_mem _ hv1))⟩
    rcases List.mem_cons.mp hv1 with rfl | hv1
    · exact trivial
    · exact hv v (List.mem_append_left _ (List.mem_reverse.mpr hv1))
  · have hts := C.2.2.2.2.2.2.2.1
    have hKK := C.2.2.2.2.2.2.2.2.2.2.1
    obtain ⟨M1, M2, M3, M4⟩ := M'
    dsimp only at hret
    subst hret
    have hpre : ∀ U : State, U.heap = H → s.WarmedH U.vm → Pe E (vr a :: as) h ((Value.ref (cad E a) :: as.map (cv E)).toArray) U := fun U hU hW => by
      have := Pe_of (as := vr a :: as) hH hKK C.2.2.2.2.2.2.2.2.2.2.2 hSS hU hW
      rw [List.map_cons, cvr_ref ha] at this
      exact this
    have hstk : stk.map (cv E) = (as.map (cv E)).reverse ++ .ref (cad E a) :: st.map (cv E) := by rw [hst, List.map_append, List.map_reverse, List.map_cons, cvr_ref ha]
    have key := va_runI (e := e) (below := below) (meth := meth) (H := H) (locs := locs) (cells := cells) (slots := slots) (b := cad E a) (As := as.map (cv E)) (rest := st.map (cv E)) (g := F0 m pc ls (stk.map (cv E))) ⟨C.1, C.2.1, C.2.2.1, C.2.2.2.2.1, hts⟩ hM ⟨callB_of n hts (ws_good hm) rfl rfl rfl (hts _ hm.1) (hts _ hl) hm.2.2 ⟨by rw [C.2.2.2.2.2.2.2.2.1]; exact hrm.1, by rw [C.2.2.2.2.2.2.2.2.2.1]; exact hrm.2⟩, hnm, hts _ hi⟩ ⟨Pe_blind E _ h, hpre⟩ rfl (by rw [List.length_map]; exact hn) hls hstk (rest_ok hcat) d hf
    rw [← cvr_ref ha] at key
    exact key
theorem Sd.callN {idx a n : Nat} {host : String} (d : decode M.2.1 pc = .ok (.invokespecial idx, 3)) (hp : pc + 3 = pc') (ha : 16 ≤ a) (hm : MOk M' n) (hl : (M.1.cls, idx, M'.1, host) ∈ nstL) (hi : Cond.instanceMethod M'.1 ∈ Tb) (hnm : M'.1.name = "<init>") (hret : M'.2.2.2 = Option.none)
    (hrm : fr' + 1 ≤ fr ∧ 8 + (M'.2.2.1 + 11) + lw' ≤ lw) (hn : as.length = n) (hst : stk = as.reverse ++ vr a :: st) (hcat : (st.map catA).sum ≤ 8) (hcs : CS M' fr' lw' em' (vr a :: as) h o')
    (kk : ∀ r1 h1, Sd M fr lw em pc' l ((em' r1).toList ++ st) h1 (kf r1 h1)) : Sd M fr lw em pc l stk h (bnd o' kf) := by
  refine Sd.call hcs hp (fun hv => ?_) (fun h1 r1 E p lc e R s m args below meth c H locs ls cells slots C hH hSS hls hM hf => ?_) kk
  · subst hst
    refine ⟨fun v hv1 => ?_, fun v hv1 => hv v (List.mem_append_right _ (List.mem_cons_of_mem _ hv1))⟩
    rcases List.mem_cons.mp hv1 with rfl | hv1
    · exact trivial
    · exact hv v (List.mem_append_left _ (List.mem_reverse.mpr hv1))
  · have hts := C.2.2.2.2.2.2.2.1
    have hKK := C.2.2.2.2.2.2.2.2.2.2.1
    have hX := C.2.2.2.2.2.2.2.2.2.2.2
    obtain ⟨M1, M2, M3, M4⟩ := M'
    dsimp only at hret
    subst hret
    have hpre : ∀ U : State, U.heap = H → s.WarmedH U.vm → Pe E (vr a :: as) h ((Value.ref (cad E a) :: as.map (cv E)).toArray) U := fun U hU hW => by
      have := Pe_of (as := vr a :: as) hH hKK C.2.2.2.2.2.2.2.2.2.2.2 hSS hU hW
      rw [List.map_cons, cvr_ref ha] at this
      exact this
    have hstk : stk.map (cv E) = (as.map (cv E)).reverse ++ .ref (cad E a) :: st.map (cv E) := by rw [hst, List.map_append, List.map_reverse, List.map_cons, cvr_ref ha]
    have key := va_runIN (e := e) (below := below) (meth := meth) (H := H) (locs := locs) (cells := cells) (slots := slots) (b := cad E a) (As := as.map (cv E)) (rest := st.map (cv E)) (g := F0 m pc ls (stk.map (cv E))) ⟨C.1, C.2.1, C.2.2.1, C.2.2.2.2.1, hts⟩ hM ⟨va_cnB n hts (ws_good hm) rfl rfl rfl (hX.2.1 _ hl) (hts _ hm.1) hm.2.2 ⟨by rw [C.2.2.2.2.2.2.2.2.1]; exact hrm.1, by rw [C.2.2.2.2.2.2.2.2.2.1]; exact hrm.2⟩, hnm, hts _ hi⟩ ⟨Pe_blind E _ h, hpre⟩ rfl (by rw [List.length_map]; exact hn) hls hstk (rest_ok hcat) d hf
    rw [← cvr_ref ha] at key
    exact key
/-- the constructor of Object -/
theorem Sd_objInit {ρ : Type} {em : ρ → Option AV} {idx a : Nat} {o : Option (ρ × AH)} (d : decode M.2.1 pc = .ok (.invokespecial idx, 3)) (hp : pc + 3 = pc') (hl : Cond.methodLink M.1.cls idx Lib.objectInit ∈ Tb) (hw2 : Cond.instanceMethod Lib.objectInit ∈ Tb) (hw3 : Cond.code Lib.objectInit ⟨#[0xb1]⟩ 1 none ∈ Tb) (hfr : 1 ≤ fr) (hlw : (st.map catA).sum + 12 ≤ lw) (ha : 16 ≤ a)
    (kk : Sd M fr lw em pc' l st h o) : Sd M fr lw em pc l (vr a :: st) h o := by
  subst hp
  refine Sd.stack (fun hvl hs => ⟨vok_tl hs, fun E p lc e R s m args below meth c H locs ls cells slots Q C hl1 w => ?_⟩) kk
  have hts := C.2.2.2.2.2.2.2.1
  rw [List.map_cons, cvr_ref ha]
  exact W.objInit C.1 C.2.1 C.2.2.2.2.1 (hts _ hl) (hts _ hw2) (hts _ hw3) (g := F0 m pc ls (.ref (cad E a) :: st.map (cv E))) rfl (by rw [C.2.2.1]; exact hl1.1) rfl d (by rw [C.2.2.2.2.2.2.2.2.1]; exact hfr) (by show 2 * 0 + _ + 12 ≤ _; rw [catA_sum, C.2.2.2.2.2.2.2.2.2.1]; omega) w
end SC
end
section
/-! AM: calls by kinds of answers, switches, decode rows by a table -/
theorem dc {cc : ByteArray} {T : List (Nat × Instr × Nat)} (D : (T.all fun q => decide (decode cc q.1 = .ok q.2)) = true) (k : Nat) {pc : Nat} {i : Instr} {n : Nat} (h : T[k]? = some (pc, i, n)) : decode cc pc = .ok (i, n) := by
  have := List.all_eq_true.mp D _ (List.mem_of_getElem? h)
  exact of_decide_eq_true this
def FU : Nat := 1000000
section SK
variable {ρ ρ' : Type} {M M' : AMt} {fr lw fr' lw' : Nat} {em : ρ → Option AV} {em' : ρ' → Option AV} {pc pc' tgt : Nat} {l : List (Nat × AV)} {st stk as : List AV} {h : AH}
theorem Sd.callVI {o' : Option (Int × AH)} {kf : Int → AH → Option (ρ × AH)} {idx ci t a n : Nat} (C0 : String) (d : decode M.2.1 pc = .ok (.invokevirtual idx, 3)) (hp : pc + 3 = pc') (ht : ci + 1 = t) (hq0 : (vwCl[ci]?).map (fun q => q.1) = some C0) (hC : M'.1.cls = C0) (hm : MOk M' n) (hl : Cond.methodLink M.1.cls idx M'.1 ∈ Tb) (hi : Cond.instanceMethod M'.1 ∈ Tb) (hsel : Cond.selects C0 M'.1 M'.1 ∈ Tb) (hrm : fr' + 1 ≤ fr ∧ 8 + (M'.2.2.1 + 11) + lw' ≤ lw) (hn : as.length = n) (hst : stk = as.reverse ++ vr a :: st) (hcat : (st.map catA).sum ≤ 8) (hcs : CS M' fr' lw' emI (vr a :: as) h o') (kk : ∀ r1 h1, Sd M fr lw em pc' l (vi r1 :: st) h1 (kf r1 h1)) : Sd M fr lw em pc l stk h (rc h t a (bnd o' kf)) :=
  Sd.callV C0 d hp ht hq0 hC hm hl hi hsel hrm hn hst hcat hcs (fun r1 h1 => kk r1 h1)
theorem Sd.callVV {o' : Option (Unit × AH)} {kf : Unit → AH → Option (ρ × AH)} {idx ci t a n : Nat} (C0 : String) (d : decode M.2.1 pc = .ok (.invokevirtual idx, 3)) (hp : pc + 3 = pc') (ht : ci + 1 = t) (hq0 : (vwCl[ci]?).map (fun q => q.1) = some C0) (hC : M'.1.cls = C0) (hm : MOk M' n) (hl : Cond.methodLink M.1.cls idx M'.1 ∈ Tb) (hi : Cond.instanceMethod M'.1 ∈ Tb) (hsel : Cond.selects C0 M'.1 M'.1 ∈ Tb) (hrm : fr' + 1 ≤ fr ∧ 8 + (M'.2.2.1 + 11) + lw' ≤ lw) (hn : as.length = n) (hst : stk = as.reverse ++ vr a :: st) (hcat : (st.map catA).sum ≤ 8) (hcs : CS M' fr' lw' emV (vr a :: as) h o') (kk : ∀ r1 h1, Sd M fr lw em pc' l (st) h1 (kf r1 h1)) : Sd M fr lw em pc l stk h (rc h t a (bnd o' kf)) :=
  Sd.callV C0 d hp ht hq0 hC hm hl hi hsel hrm hn hst hcat hcs (fun r1 h1 => kk r1 h1)
theorem Sd.callVR {o' : Option (Nat × AH)} {kf : Nat → AH → Option (ρ × AH)} {idx ci t a n : Nat} (C0 : String) (d : decode M.2.1 pc = .ok (.invokevirtual idx, 3)) (hp : pc + 3 = pc') (ht : ci + 1 = t) (hq0 : (vwCl[ci]?).map (fun q => q.1) = some C0) (hC : M'.1.cls = C0) (hm : MOk M' n) (hl : Cond.methodLink M.1.cls idx M'.1 ∈ Tb) (hi : Cond.instanceMethod M'.1 ∈ Tb) (hsel : Cond.selects C0 M'.1 M'.1 ∈ Tb) (hrm : fr' + 1 ≤ fr ∧ 8 + (M'.2.2.1 + 11) + lw' ≤ lw) (hn : as.length = n) (hst : stk = as.reverse ++ vr a :: st) (hcat : (st.map catA).sum ≤ 8) (hcs : CS M' fr' lw' emR (vr a :: as) h o') (kk : ∀ r1 h1, Sd M fr lw em pc' l (vr r1 :: st) h1 (kf r1 h1)) : Sd M fr lw em pc l stk h (rc h t a (bnd o' kf)) :=
  Sd.callV C0 d hp ht hq0 hC hm hl hi hsel hrm hn hst hcat hcs (fun r1 h1 => kk r1 h1)
theorem Sd.callSI {o' : Option (Int × AH)} {kf : Int → AH → Option (ρ × AH)} {idx n : Nat} (d : decode M.2.1 pc = .ok (.invokestatic idx, 3)) (hp : pc + 3 = pc') (hm : MOk M' n) (hl : Cond.methodLink M.1.cls idx M'.1 ∈ Tb) (hstt : Cond.static M'.1 ∈ Tb) (hrm : fr' + 1 ≤ fr ∧ 8 + (M'.2.2.1 + 11) + lw' ≤ lw) (hn : as.length = n) (hst : stk = as.reverse ++ st) (hcat : (st.map catA).sum ≤ 8) (hcs : CS M' fr' lw' emI as h o') (kk : ∀ r1 h1, Sd M fr lw em pc' l (vi r1 :: st) h1 (kf r1 h1)) : Sd M fr lw em pc l stk h (bnd o' kf) :=
  Sd.callS d hp hm hl hstt hrm hn hst hcat hcs (fun r1 h1 => kk r1 h1)
theorem Sd.callSV {o' : Option (Unit × AH)} {kf : Unit → AH → Option (ρ × AH)} {idx n : Nat} (d : decode M.2.1 pc = .ok (.invokestatic idx, 3)) (hp : pc + 3 = pc') (hm : MOk M' n) (hl : Cond.methodLink M.1.cls idx M'.1 ∈ Tb) (hstt : Cond.static M'.1 ∈ Tb) (hrm : fr' + 1 ≤ fr ∧ 8 + (M'.2.2.1 + 11) + lw' ≤ lw) (hn : as.length = n) (hst : stk = as.reverse ++ st) (hcat : (st.map catA).sum ≤ 8) (hcs : CS M' fr' lw' emV as h o') (kk : ∀ r1 h1, Sd M fr lw em pc' l (st) h1 (kf r1 h1)) : Sd M fr lw em pc l stk h (bnd o' kf) :=
  Sd.callS d hp hm hl hstt hrm hn hst hcat hcs (fun r1 h1 => kk r1 h1)
theorem Sd.callSR {o' : Option (Nat × AH)} {kf : Nat → AH → Option (ρ × AH)} {idx n : Nat} (d : decode M.2.1 pc = .ok (.invokestatic idx, 3)) (hp : pc + 3 = pc') (hm : MOk M' n) (hl : Cond.methodLink M.1.cls idx M'.1 ∈ Tb) (hstt : Cond.static M'.1 ∈ Tb) (hrm : fr' + 1 ≤ fr ∧ 8 + (M'.2.2.1 + 11) + lw' ≤ lw) (hn : as.length = n) (hst : stk = as.reverse ++ st) (hcat : (st.map catA).sum ≤ 8) (hcs : CS M' fr' lw' emR as h o') (kk : ∀ r1 h1, Sd M fr lw em pc' l (vr r1 :: st) h1 (kf r1 h1)) : Sd M fr lw em pc l stk h (bnd o' kf) :=
  Sd.callS d hp hm hl hstt hrm hn hst hcat hcs (fun r1 h1 => kk r1 h1)
theorem Sd.callIV {o' : Option (Unit × AH)} {kf : Unit → AH → Option (ρ × AH)} {idx a n : Nat} (d : decode M.2.1 pc = .ok (.invokespecial idx, 3)) (hp : pc + 3 = pc') (ha : 16 ≤ a) (hm : MOk M' n) (hl : Cond.methodLink M.1.cls idx M'.1 ∈ Tb) (hi : Cond.instanceMethod M'.1 ∈ Tb) (hnm : M'.1.name = "<init>") (hret : M'.2.2.2 = Option.none) (hrm : fr' + 1 ≤ fr ∧ 8 + (M'.2.2.1 + 11) + lw' ≤ lw) (hn : as.length = n) (hst : stk = as.reverse ++ vr a :: st) (hcat : (st.map catA).sum ≤ 8) (hcs : CS M' fr' lw' emV (vr a :: as) h o') (kk : ∀ r1 h1, Sd M fr lw em pc' l (st) h1 (kf r1 h1)) : Sd M fr lw em pc l stk h (bnd o' kf) :=
  Sd.callI d hp ha hm hl hi hnm hret hrm hn hst hcat hcs (fun r1 h1 => kk r1 h1)
theorem Sd.callNV {o' : Option (Unit × AH)} {kf : Unit → AH → Option (ρ × AH)} {idx a n : Nat} {host : String} (d : decode M.2.1 pc = .ok (.invokespecial idx, 3)) (hp : pc + 3 = pc') (ha : 16 ≤ a) (hm : MOk M' n) (hl : (M.1.cls, idx, M'.1, host) ∈ nstL) (hi : Cond.instanceMethod M'.1 ∈ Tb) (hnm : M'.1.name = "<init>") (hret : M'.2.2.2 = Option.none) (hrm : fr' + 1 ≤ fr ∧ 8 + (M'.2.2.1 + 11) + lw' ≤ lw) (hn : as.length = n) (hst : stk = as.reverse ++ vr a :: st) (hcat : (st.map catA).sum ≤ 8) (hcs : CS M' fr' lw' emV (vr a :: as) h o') (kk : ∀ r1 h1, Sd M fr lw em pc' l (st) h1 (kf r1 h1)) : Sd M fr lw em pc l stk h (bnd o' kf) :=
  Sd.callN d hp ha hm hl hi hnm hret hrm hn hst hcat hcs (fun r1 h1 => kk r1 h1)
def oi {β : Type} (a : Nat) (o : Option β) : Option β := if 16 ≤ a then o else none
theorem Sd_oi {idx a : Nat} {o : Option (ρ × AH)} (d : decode M.2.1 pc = .ok (.invokespecial idx, 3)) (hp : pc + 3 = pc') (hl : Cond.methodLink M.1.cls idx Lib.objectInit ∈ Tb) (hw2 : Cond.instanceMethod Lib.objectInit ∈ Tb) (hw3 : Cond.code Lib.objectInit ⟨#[0xb1]⟩ 1 none ∈ Tb) (hfr : 1 ≤ fr) (hlw : (st.map catA).sum + 12 ≤ lw)
    (kk : Sd M fr lw em pc' l st h o) : Sd M fr lw em pc l (vr a :: st) h (oi a o) := Sd.ite' (fun ha => Sd_objInit d hp hl hw2 hw3 hfr hlw ha kk)
theorem Sd_tcase {x i dflt lo hi off : Int} {offs : Array Int} {len : Nat} {o1 o2 : Option (ρ × AH)} (d : decode M.2.1 pc = .ok (.tableswitch dflt lo hi offs, len)) (ho : offs[(i - lo).toNat]? = some off) (h1 : lo ≤ i) (h2 : i ≤ hi) (ht : (pc : Int) + off = (tgt : Int)) {inst : Decidable (x = i)} (k1 : x = i → Sd M fr lw em tgt l st h o1) (k2 : ¬ x = i → Sd M fr lw em pc l (vi x :: st) h o2) : Sd M fr lw em pc l (vi x :: st) h (@ite _ (x = i) inst o1 o2) := by
  by_cases hx : x = i
  · rw [if_pos hx]
    refine Sd.stack (fun hvl hs => ⟨vok_tl hs, fun E p lc e R s m args below meth c H locs ls cells slots Q C hl w => ?_⟩) (k1 hx)
    have hz : (Int32.ofInt x).toInt = i := by rw [inR_ofInt (iv hs)]; exact hx
    exact lv_tableIn C.1 C.2.1 d (by rw [hz]; omega) (by rw [hz]; omega) (by rw [hz]; exact ho) ht w
  · rw [if_neg hx]; exact k2 hx
theorem Sd_tdef {x dflt lo hi : Int} {offs : Array Int} {len : Nat} {o : Option (ρ × AH)} (d : decode M.2.1 pc = .ok (.tableswitch dflt lo hi offs, len)) (hx : x < lo ∨ hi < x) (ht : (pc : Int) + dflt = (tgt : Int)) (k : Sd M fr lw em tgt l st h o) : Sd M fr lw em pc l (vi x :: st) h o := by
  refine Sd.stack (fun hvl hs => ⟨vok_tl hs, fun E p lc e R s m args below meth c H locs ls cells slots Q C hl w => ?_⟩) k
  exact lv_tableOut C.1 C.2.1 d (by rw [inR_ofInt (iv hs)]; exact hx) ht w
theorem Sd_lcase {x i dflt off : Int} {ps : Array (Int × Int)} {len : Nat} {o1 o2 : Option (ρ × AH)} (d : decode M.2.1 pc = .ok (.lookupswitch dflt ps, len)) (hp : (ps.toList.zip (ps.toList.drop 1)).all (fun (a, next) => a.1 < next.1) = true) (ho : Op.lookupswitch.offset ps.toList dflt i = off) (ht : (pc : Int) + off = (tgt : Int)) {inst : Decidable (x = i)} (k1 : x = i → Sd M fr lw em tgt l st h o1) (k2 : ¬ x = i → Sd M fr lw em pc l (vi x :: st) h o2) : Sd M fr lw em pc l (vi x :: st) h (@ite _ (x = i) inst o1 o2) := by
  by_cases hx : x = i
  · rw [if_pos hx]
    refine Sd.stack (fun hvl hs => ⟨vok_tl hs, fun E p lc e R s m args below meth c H locs ls cells slots Q C hl w => ?_⟩) (k1 hx)
    have hz : (Int32.ofInt x).toInt = i := by rw [inR_ofInt (iv hs)]; exact hx
    exact lv_lookup C.1 C.2.1 d hp (by rw [hz]; exact ho) ht w
  · rw [if_neg hx]; exact k2 hx
theorem Sd_ldef {x dflt : Int} {ps : Array (Int × Int)} {len : Nat} {o : Option (ρ × AH)} (d : decode M.2.1 pc = .ok (.lookupswitch dflt ps, len)) (hp : (ps.toList.zip (ps.toList.drop 1)).all (fun (a, next) => a.1 < next.1) = true) (ho : Op.lookupswitch.offset ps.toList dflt x = dflt) (ht : (pc : Int) + dflt = (tgt : Int)) (k : Sd M fr lw em tgt l st h o) : Sd M fr lw em pc l (vi x :: st) h o := by
  refine Sd.stack (fun hvl hs => ⟨vok_tl hs, fun E p lc e R s m args below meth c H locs ls cells slots Q C hl w => ?_⟩) k
  exact lv_lookup C.1 C.2.1 d hp (by rw [inR_ofInt (iv hs)]; exact ho) ht w
end SK
theorem W_obj2 : Cond.instanceMethod Lib.objectInit ∈ Tb := Tb_at 148 (by decide +kernel) rfl
theorem W_obj3 : Cond.code Lib.objectInit ⟨#[0xb1]⟩ 1 none ∈ Tb := Tb_at 149 (by decide +kernel) rfl
theorem W_cp2 : Cond.native arraycopyName ∈ Tb := Tb_at 647 (by decide +kernel) rfl
theorem W_cp3 : Cond.static arraycopyName ∈ Tb := Tb_at 646 (by decide +kernel) rfl
theorem W_cp4 : Cond.initialized "java/lang/System" ∈ Tb := Tb_at 139 (by decide +kernel) rfl
theorem W_aI : Cond.arrayClass .int ∈ Tb := Tb_at 172 (by decide +kernel) rfl
theorem W_aB : Cond.arrayClass .byte ∈ Tb := Tb_at 662 (by decide +kernel) rfl
theorem W_aZ : Cond.arrayClass .boolean ∈ Tb := Tb_at 1367 (by decide +kernel) rfl
end
section
/-! AM: String constants -/
def sLn (a : Nat) : Nat := sLens.getD (a - 1) 0
def sCh (a i : Nat) : Int := ((sByts.getD (a - 1) []).getD i 0).toInt
def sLen {β : Type} (a : Nat) (f : Int → Option β) : Option β := if 1 ≤ a ∧ a < 8 then f (sLn a : Int) else none
def sAt {β : Type} (a : Nat) (i : Int) (f : Int → Option β) : Option β := if (1 ≤ a ∧ a < 8) ∧ 0 ≤ i ∧ i < (sLn a : Int) then f (sCh a i.toNat) else none
section SS
variable {ρ : Type} {M : AMt} {fr lw : Nat} {em : ρ → Option AV} {pc pc' : Nat} {l : List (Nat × AV)} {st : List AV} {h : AH} {o : Option (ρ × AH)}
theorem Sd_ldcw {n : Int} {index : Nat} (d : decode M.2.1 pc = .ok (.ldc_w index, 3)) (hp : pc + 3 = pc') (hn : inR n) (hw : Cond.constant M.1.cls index (Int32.ofInt n) ∈ Tb) (k : Sd M fr lw em pc' l (vi n :: st) h o) : Sd M fr lw em pc l st h o := by
  subst hp
  exact Sd.stack (fun hvl hs => ⟨vok_i hn hs, fun E p lc e R s m args below meth c H locs ls cells slots Q C hl w => lv_ldcw C.1 C.2.1 C.2.2.2.2.1 (C.2.2.2.2.2.2.2.1 _ hw) d w⟩) k
def mMax (x y : Int) : Int := if x < y then y else x
def mMin (x y : Int) : Int := if y < x then y else x
theorem Sd_mmax {idx : Nat} {x y : Int} (d : decode M.2.1 pc = .ok (.invokestatic idx, 3)) (hp : pc + 3 = pc') (hl : Cond.methodLink M.1.cls idx Lib.Math.max.name ∈ Tb) (hw1 : Cond.static Lib.Math.max.name ∈ Tb) (hw2 : Cond.initialized "java/lang/Math" ∈ Tb) (hw3 : Cond.code Lib.Math.max.name Lib.Math.max.code 2 (some .int) ∈ Tb) (hfr : 1 ≤ fr) (hlw : (st.map catA).sum + 13 ≤ lw) (k : Sd M fr lw em pc' l (vi (mMax x y) :: st) h o) : Sd M fr lw em pc l (vi y :: vi x :: st) h o := by
  subst hp
  intro r h' ho
  obtain ⟨hm, hk⟩ := k r h' ho
  refine ⟨hm, fun E p lc e R s m args below meth c n0 s0 H locs ls C hc hs hn hn2 hH hSS hl1 hvl hvs => ?_⟩
  have hts := C.2.2.2.2.2.2.2.1
  have hx := iv (vok_tl hvs)
  have hy := iv hvs
  have hr : inR (mMax x y) := by unfold mMax; split <;> assumption
  refine va_mmax C.1 C.2.1 (by rw [C.2.2.1]; exact hl1.1.symm) C.2.2.2.2.1 (hts _ hl) (hts _ hw1) (hts _ hw2) (hts _ hw3) (by rw [C.2.2.2.2.2.2.2.2.1]; exact hfr) (by rw [catA_sum, C.2.2.2.2.2.2.2.2.2.1]; exact hlw) (by omega) (by omega) d ?_
  have e1 : (if Int32.ofInt x < Int32.ofInt y then Int32.ofInt y else Int32.ofInt x) = Int32.ofInt (mMax x y) := by
    unfold mMax; simp only [i32_lt hx hy]; split <;> rfl
  rw [e1]
  exact hk E p lc e R s m args below meth c n0 s0 H locs ls C hc hs hn hn2 hH hSS hl1 hvl (vok_i hr (vok_tl (vok_tl hvs)))
theorem Sd_mmin {idx : Nat} {x y : Int} (d : decode M.2.1 pc = .ok (.invokestatic idx, 3)) (hp : pc + 3 = pc') (hl : Cond.methodLink M.1.cls idx Lib.Math.min.name ∈ Tb) (hw1 : Cond.static Lib.Math.min.name ∈ Tb) (hw2 : Cond.initialized "java/lang/Math" ∈ Tb) (hw3 : Cond.code Lib.Math.min.name Lib.Math.min.code 2 (some .int) ∈ Tb) (hfr : 1 ≤ fr) (hlw : (st.map catA).sum + 13 ≤ lw) (k : Sd M fr lw em pc' l (vi (mMin x y) :: st) h o) : Sd M fr lw em pc l (vi y :: vi x :: st) h o := by
  subst hp
  intro r h' ho
  obtain ⟨hm, hk⟩ := k r h' ho
  refine ⟨hm, fun E p lc e R s m args below meth c n0 s0 H locs ls C hc hs hn hn2 hH hSS hl1 hvl hvs => ?_⟩
  have hts := C.2.2.2.2.2.2.2.1
  have hx := iv (vok_tl hvs)
  have hy := iv hvs
  have hr : inR (mMin x y) := by unfold mMin; split <;> assumption
  refine va_mmin C.1 C.2.1 (by rw [C.2.2.1]; exact hl1.1.symm) C.2.2.2.2.1 (hts _ hl) (hts _ hw1) (hts _ hw2) (hts _ hw3) (by rw [C.2.2.2.2.2.2.2.2.1]; exact hfr) (by rw [catA_sum, C.2.2.2.2.2.2.2.2.2.1]; exact hlw) (by omega) (by omega) d ?_
  have e1 : (if Int32.ofInt y < Int32.ofInt x then Int32.ofInt y else Int32.ofInt x) = Int32.ofInt (mMin x y) := by
    unfold mMin; simp only [i32_lt hy hx]; split <;> rfl
  rw [e1]
  exact hk E p lc e R s m args below meth c n0 s0 H locs ls C hc hs hn hn2 hH hSS hl1 hvl (vok_i hr (vok_tl (vok_tl hvs)))
theorem cvr_lo {E : AE} {a : Nat} (h0 : a ≠ 0) (h : a < 16) : cv E (vr a) = .ref (E.2.1 a) := by show rv E a = _; unfold rv cad; rw [if_neg h0, if_pos h]
theorem Sd.readS {st' : List AV}
    (hst : (∀ v ∈ st, vok v) → (∀ v ∈ st', vok v) ∧ ∀ (E : AE) (p : Program) (lc : Launch) (e : Env) (R : Room) (s : State) (m : MethodId) (args : Array Value) (below : List Frame) (meth : Method) (c : Code) (H : Heap) (locs : List Loc) (ls : Array Slot) (cells slots : Nat) (Q : State → Prop),
      Ctx M fr lw E p R s m args meth c → va_S (aLo E) s.heap H locs → W p lc e R s m args below meth c H locs cells slots Q (F0 m pc' ls (st'.map (cv E))) → W p lc e R s m args below meth c H locs cells slots Q (F0 m pc ls (st.map (cv E))))
    (k : Sd M fr lw em pc' l st' h o) : Sd M fr lw em pc l st h o := by
  intro r h' ho
  obtain ⟨hm, hk⟩ := k r h' ho
  refine ⟨hm, fun E p lc e R s m args below meth c n0 s0 H locs ls C hc hs hn hn2 hH hSS hl hvl hvs => ?_⟩
  obtain ⟨hv, hw⟩ := hst hvs
  exact hw E p lc e R s m args below meth c H locs ls _ _ _ C hSS (hk E p lc e R s m args below meth c n0 s0 H locs ls C hc hs hn hn2 hH hSS hl hvl hv)
def sOk (a : Nat) : Prop := 1 ≤ a ∧ a < 8
theorem Sd_sval {idx a : Nat} (ha : sOk a) (d : decode M.2.1 pc = .ok (.getfield idx, 3)) (hp : pc + 3 = pc') (hF : Cond.fieldLink M.1.cls idx "java/lang/String" "value" "[B" ∈ Tb) (k : Sd M fr lw em pc' l (vr (a + 7) :: st) h o) : Sd M fr lw em pc l (vr a :: st) h o := by
  subst hp
  obtain ⟨a1, a2⟩ := ha
  refine Sd.readS (fun hs => ⟨vok_r (vok_tl hs), fun E p lc e R s m args below meth c H locs ls cells slots Q C hSS w => ?_⟩) k
  have hX := C.2.2.2.2.2.2.2.2.2.2.2
  have hv := (hX.2.2.2.2.1.1 (a - 1) (by omega)).2.2.1
  rw [List.map_cons, cvr_lo (by omega) (by omega)] at w ⊢
  dsimp only at hv
  rw [show a - 1 + 1 = a by omega, show a - 1 + 8 = a + 7 by omega] at hv
  exact vk_getf C.1 C.2.1 hv hSS C.2.2.2.2.1 (C.2.2.2.2.2.2.2.1 _ hF) (fun _ z => z) d w
theorem Sd_scod {idx a : Nat} (ha : sOk a) (d : decode M.2.1 pc = .ok (.getfield idx, 3)) (hp : pc + 3 = pc') (hF : Cond.fieldLink M.1.cls idx "java/lang/String" "coder" "B" ∈ Tb) (k : Sd M fr lw em pc' l (vi 0 :: st) h o) : Sd M fr lw em pc l (vr a :: st) h o := by
  subst hp
  obtain ⟨a1, a2⟩ := ha
  refine Sd.readS (fun hs => ⟨vok_i inR0 (vok_tl hs), fun E p lc e R s m args below meth c H locs ls cells slots Q C hSS w => ?_⟩) k
  have hX := C.2.2.2.2.2.2.2.2.2.2.2
  have hv := (hX.2.2.2.2.1.1 (a - 1) (by omega)).2.1
  rw [List.map_cons, cvr_lo (by omega) (by omega)]
  dsimp only at hv
  rw [show a - 1 + 1 = a by omega] at hv
  exact vk_getf C.1 C.2.1 hv hSS C.2.2.2.2.1 (C.2.2.2.2.2.2.2.1 _ hF) (fun _ z => z) d w
theorem Sd_scmp {idx : Nat} (d : decode M.2.1 pc = .ok (.getstatic idx, 3)) (hp : pc + 3 = pc') (hF : Cond.fieldLink M.1.cls idx "java/lang/String" "COMPACT_STRINGS" "Z" ∈ Tb) (k : Sd M fr lw em pc' l (vi 1 :: st) h o) : Sd M fr lw em pc l st h o := by
  subst hp
  refine Sd.readS (fun hs => ⟨vok_i ⟨by decide, by decide⟩ hs, fun E p lc e R s m args below meth c H locs ls cells slots Q C hSS w => ?_⟩) k
  have hX := C.2.2.2.2.2.2.2.2.2.2.2
  exact va_gets C.1 C.2.1 hX.2.2.2.2.2.2 hSS C.2.2.2.2.1 (C.2.2.2.2.2.2.2.1 _ hF) (fun _ z => z) d w
theorem sLn_lt : ∀ a, a < 8 → sLn a < 5 := by decide
theorem Sd_sblen {a : Nat} (ha : sOk a) (d : decode M.2.1 pc = .ok (.arraylength, 1)) (hp : pc + 1 = pc') (k : Sd M fr lw em pc' l (vi (sLn a : Int) :: st) h o) : Sd M fr lw em pc l (vr (a + 7) :: st) h o := by
  subst hp
  obtain ⟨a1, a2⟩ := ha
  have hlt := sLn_lt a a2
  refine Sd.readS (fun hs => ⟨vok_i ⟨by omega, by omega⟩ (vok_tl hs), fun E p lc e R s m args below meth c H locs ls cells slots Q C hSS w => ?_⟩) k
  have hX := C.2.2.2.2.2.2.2.2.2.2.2
  have hv := (hX.2.2.2.2.1.1 (a - 1) (by omega)).2.2.2
  rw [List.map_cons, cvr_lo (by omega) (by omega)]
  dsimp only at hv
  rw [show a - 1 + 8 = a + 7 by omega] at hv
  exact va_tlen C.1 C.2.1 hv hSS (v := Int32.ofInt (sLn a : Int)) (ofInt_nat _).symm d w
theorem Sd_sbald {a : Nat} {i : Int} (ha : sOk a) (hi0 : 0 ≤ i) (hi1 : i < (sLn a : Int)) (d : decode M.2.1 pc = .ok (.baload, 1)) (hp : pc + 1 = pc') (k : Sd M fr lw em pc' l (vi (sCh a i.toNat) :: st) h o) : Sd M fr lw em pc l (vi i :: vr (a + 7) :: st) h o := by
  subst hp
  obtain ⟨a1, a2⟩ := ha
  have hlt := sLn_lt a a2
  refine Sd.readS (fun hs => ⟨vok_i (inR_toInt _) (vok_tl (vok_tl hs)), fun E p lc e R s m args below meth c H locs ls cells slots Q C hSS w => ?_⟩) k
  have hX := C.2.2.2.2.2.2.2.2.2.2.2
  have hv := (hX.2.2.2.2.1.1 (a - 1) (by omega)).2.2.2
  rw [List.map_cons, List.map_cons, cvr_lo (by omega) (by omega)]
  dsimp only at hv
  rw [show a - 1 + 8 = a + 7 by omega] at hv
  refine va_tb C.1 C.2.1 hv hSS (i32_in (iv hs) hi0 hi1) (v := .int (Int32.ofInt (sCh a i.toNat))) ?_ d w
  rw [i32_clamp (iv hs)]
  exact congrArg Value.int (of_toInt _).symm
theorem Sd_tret {x : Int} {ty : FieldType} (d : decode M.2.1 pc = .ok (.ireturn, 1)) (hr : M.2.2.2 = some ty) (hn : narrow ty (.int (Int32.ofInt x)) = .int (Int32.ofInt x)) : Sd M fr lw emI pc l [vi x] h (some (x, h)) := by
  intro r h' ho
  cases ho
  refine ⟨⟨Nat.le_refl _, Nat.le_refl _⟩, fun E p lc e R s m args below meth c n0 s0 H locs ls C hc hs hn1 hn2 hH hSS hl hvl hvs => ?_⟩
  exact W.zret C.1 C.2.1 (C.2.2.2.1.trans hr) hn (fun t ht hW => Qe_of rfl hH hSS (fun w hw => by cases hw; exact vok_hd hvs) ht hW) hSS.2.2 d C.2.2.2.2.2.1
def i2c (x : Int) : Int := ((Int32.ofInt x).toUInt32 % 65536).toInt32.toInt
theorem Sd_i2c {x : Int} (d : decode M.2.1 pc = .ok (.i2c, 1)) (hp : pc + 1 = pc') (k : Sd M fr lw em pc' l (vi (i2c x) :: st) h o) : Sd M fr lw em pc l (vi x :: st) h o := by
  subst hp
  exact Sd.stack (fun hvl hs => ⟨vok_i (inR_toInt _) (vok_tl hs), fun E p lc e R s m args below meth c H locs ls cells slots Q C hl w => lv_i2c C.1 C.2.1 d (of_toInt _).symm w⟩) k
/-- a call on a String constant -/
theorem Sd.callStr {ρ' : Type} {M' : AMt} {fr' lw' : Nat} {em' : ρ' → Option AV} {stk as : List AV} {o' : Option (ρ' × AH)} {kf : ρ' → AH → Option (ρ × AH)} {idx a n : Nat} (ha : sOk a) (d : decode M.2.1 pc = .ok (.invokevirtual idx, 3)) (hp : pc + 3 = pc') (hC : M'.1.cls = "java/lang/String") (hm : MOk M' n) (hl : Cond.methodLink M.1.cls idx M'.1 ∈ Tb) (hi : Cond.instanceMethod M'.1 ∈ Tb) (hsel : Cond.selects "java/lang/String" M'.1 M'.1 ∈ Tb)
    (hrm : fr' + 1 ≤ fr ∧ 8 + (M'.2.2.1 + 11) + lw' ≤ lw) (hn : as.length = n) (hst : stk = as.reverse ++ vr a :: st) (hcat : (st.map catA).sum ≤ 8) (hcs : CS M' fr' lw' em' (vr a :: as) h o')
    (kk : ∀ r1 h1, Sd M fr lw em pc' l ((em' r1).toList ++ st) h1 (kf r1 h1)) : Sd M fr lw em pc l stk h (bnd o' kf) := by
  obtain ⟨a1, a2⟩ := ha
  refine Sd.call hcs hp (fun hv => ?_) (fun h1 r1 E p lc e R s m args below meth c H locs ls cells slots C hH hSS hls hM hf => ?_) kk
  · subst hst
    refine ⟨fun v hv1 => ?_, fun v hv1 => hv v (List.mem_append_right _ (List.mem_cons_of_mem _ hv1))⟩
    rcases List.mem_cons.mp hv1 with rfl | hv1
    · exact trivial
    · exact hv v (List.mem_append_left _ (List.mem_reverse.mpr hv1))
  · have hts := C.2.2.2.2.2.2.2.1
    have hKK := C.2.2.2.2.2.2.2.2.2.2.1
    have hX := C.2.2.2.2.2.2.2.2.2.2.2
    have cw : CallW R s args M.1.cls M'.1.cls idx M'.1 M'.2.1 M'.2.2.1 M'.2.2.2 (Cond.code M'.1 M'.2.1 M'.2.2.1 M'.2.2.2 :: Tb) ({ frames := fr', cells := hN h1 - hN h, slots := hS h1 - hS h, locals := lw' }) (hN h1 - hN h) (hS h1 - hS h) n :=
      ⟨callB_of n hts (ws_good hm) rfl rfl rfl (hts _ hm.1) (hts _ hl) hm.2.2 ⟨by rw [C.2.2.2.2.2.2.2.2.1]; exact hrm.1, by rw [C.2.2.2.2.2.2.2.2.2.1]; exact hrm.2⟩, hts _ hi, by rw [hC]; exact hts _ hsel⟩
    have hpre : ∀ U : State, U.heap = H → s.WarmedH U.vm → Pe E (vr a :: as) h ((Value.ref (E.2.1 a) :: as.map (cv E)).toArray) U := fun U hU hW => by
      have := Pe_of (as := vr a :: as) hH hKK hX hSS hU hW
      rw [List.map_cons, cvr_lo (by omega) (by omega)] at this
      exact this
    have hstk : stk.map (cv E) = (as.map (cv E)).reverse ++ .ref (E.2.1 a) :: st.map (cv E) := by rw [hst, List.map_append, List.map_reverse, List.map_cons, cvr_lo (by omega) (by omega)]
    have hrecv : ∃ cellB : Cell, H[E.2.1 a]? = some cellB ∧ cellB.vm.isStatics = false ∧ s.vm.findClass M'.1.cls = some cellB.cls := by
      have := vk_recv (i := a - 1) hX.2.2.2.2.1 (by omega) hSS
      rw [show a - 1 + 1 = a by omega] at this
      rw [hC]; exact this
    have key := va_runV (e := e) (below := below) (meth := meth) (H := H) (locs := locs) (cells := cells) (slots := slots) (b := E.2.1 a) (As := as.map (cv E)) (rest := st.map (cv E)) (g := F0 m pc ls (stk.map (cv E))) ⟨C.1, C.2.1, C.2.2.1, C.2.2.2.2.1, hts⟩ hM cw ⟨Pe_blind E _ h, hrecv, hpre⟩ rfl (by rw [List.length_map]; exact hn) hls hstk (rest_ok hcat) d hf
    rw [← cvr_lo (E := E) (a := a) (by omega) (by omega)] at key
    exact key
theorem Sd.callStr1 {ρ' : Type} {M' : AMt} {fr' lw' : Nat} {em' : ρ' → Option AV} {stk as : List AV} {r0 : ρ'} {h0 : AH} {idx a n : Nat} (ha : sOk a) (d : decode M.2.1 pc = .ok (.invokevirtual idx, 3)) (hp : pc + 3 = pc') (hC : M'.1.cls = "java/lang/String") (hm : MOk M' n) (hl : Cond.methodLink M.1.cls idx M'.1 ∈ Tb) (hi : Cond.instanceMethod M'.1 ∈ Tb) (hsel : Cond.selects "java/lang/String" M'.1 M'.1 ∈ Tb)
    (hrm : fr' + 1 ≤ fr ∧ 8 + (M'.2.2.1 + 11) + lw' ≤ lw) (hn : as.length = n) (hst : stk = as.reverse ++ vr a :: st) (hcat : (st.map catA).sum ≤ 8) (hcs : CS M' fr' lw' em' (vr a :: as) h (some (r0, h0)))
    (k : Sd M fr lw em pc' l ((em' r0).toList ++ st) h0 o) : Sd M fr lw em pc l stk h o := by
  have key := Sd.callStr (kf := fun r1 h1 => @ite _ (r1 = r0 ∧ h1 = h0) (Classical.propDecidable _) o Option.none) (pc' := pc') ha d hp hC hm hl hi hsel hrm hn hst hcat hcs (fun r1 h1 => Sd.ite' (fun hc => by obtain ⟨rfl, rfl⟩ := hc; exact k))
  have e : bnd (some (r0, h0)) (fun r1 h1 => @ite _ (r1 = r0 ∧ h1 = h0) (Classical.propDecidable _) o Option.none) = o := if_pos ⟨rfl, rfl⟩
  rw [e] at key
  exact key
theorem Sd.callS1 {ρ' : Type} {M' : AMt} {fr' lw' : Nat} {em' : ρ' → Option AV} {stk as : List AV} {r0 : ρ'} {h0 : AH} {idx n : Nat} (d : decode M.2.1 pc = .ok (.invokestatic idx, 3)) (hp : pc + 3 = pc') (hm : MOk M' n) (hl : Cond.methodLink M.1.cls idx M'.1 ∈ Tb) (hstt : Cond.static M'.1 ∈ Tb)
    (hrm : fr' + 1 ≤ fr ∧ 8 + (M'.2.2.1 + 11) + lw' ≤ lw) (hn : as.length = n) (hst : stk = as.reverse ++ st) (hcat : (st.map catA).sum ≤ 8) (hcs : CS M' fr' lw' em' as h (some (r0, h0)))
    (k : Sd M fr lw em pc' l ((em' r0).toList ++ st) h0 o) : Sd M fr lw em pc l stk h o := by
  have key := Sd.callS (kf := fun r1 h1 => @ite _ (r1 = r0 ∧ h1 = h0) (Classical.propDecidable _) o Option.none) (pc' := pc') d hp hm hl hstt hrm hn hst hcat hcs (fun r1 h1 => Sd.ite' (fun hc => by obtain ⟨rfl, rfl⟩ := hc; exact k))
  have e : bnd (some (r0, h0)) (fun r1 h1 => @ite _ (r1 = r0 ∧ h1 = h0) (Classical.propDecidable _) o Option.none) = o := if_pos ⟨rfl, rfl⟩
  rw [e] at key
  exact key
end SS
/-- Preconditions.checkIndex, in range -/
def T_pck : List (Nat × Instr × Nat) := [(0, .iload_n 0, 1), (1, .ifCond .lt 8, 3), (4, .iload_n 0, 1), (5, .iload_n 1, 1), (6, .if_icmp .lt 10, 3), (9, .aload_n 2, 1), (10, .iload_n 0, 1), (11, .iload_n 1, 1), (12, .invokestatic 95, 3), (15, .athrow, 1), (16, .iload_n 0, 1), (17, .ireturn, 1)]
theorem D_pck : (T_pck.all fun q => decide (decode cJ3_checkIndex_8e157 q.1 = .ok q.2)) = true := by decide +kernel
theorem pck_met (lc : Launch) (E : AE) (i n : Int) (v : Value) (hi : inR i) (hn : inR n) (h0 : 0 ≤ i) (h1 : i < n) (hv : v = .null ∨ ∃ t, v = .ref t) : Met lc yJ3_checkIndex_8e157 (Cond.code yJ3_checkIndex_8e157 cJ3_checkIndex_8e157 3 (some .int) :: Tb) ({ frames := 1, cells := 0, slots := 0, locals := 0 }) (fun a _ => a = [Value.int (Int32.ofInt i), .int (Int32.ofInt n), v].toArray) (fun _ st oc t => oc = .returned (some (.int (Int32.ofInt i))) ∧ t.heap = st.heap) 0 0 (aLo E) := by
  refine Met.ofW (cc := cJ3_checkIndex_8e157) (maxL := 3) (ret := some .int) (by decide) rfl ?_
  intro p e s m args below meth c s₁ B hml hv1
  subst hv1
  have hx := B.exec
  have hb := B.bytes
  have hl := lv_entry [Value.int (Int32.ofInt i), .int (Int32.ofInt n), v] (n := 3) (by rcases hv with rfl | ⟨t, rfl⟩ <;> simp [lg_sl, Value.category])
  rw [lg_entry_eq]
  generalize (lg_sl [Value.int (Int32.ofInt i), .int (Int32.ofInt n), v] ++ List.replicate (3 - (lg_sl [Value.int (Int32.ofInt i), .int (Int32.ofInt n), v]).length) Slot.unset).toArray = ls at hl ⊢
  refine lv_iload_n hx hb (dc D_pck 0 rfl) rfl (lv_at hl 0 rfl) ?_
  refine lv_if_lt (tgt := 9) hx hb (dc D_pck 1 rfl) (by decide) (fun q => absurd q ((i32_nneg hi).mpr h0)) (fun _ => ?_)
  refine lv_iload_n hx hb (dc D_pck 2 rfl) rfl (lv_at hl 0 rfl) ?_
  refine lv_iload_n hx hb (dc D_pck 3 rfl) rfl (lv_at hl 1 rfl) ?_
  refine lv_icmp_lt (tgt := 16) hx hb (dc D_pck 4 rfl) (by decide) (fun _ => ?_) (fun q => absurd ((i32_lt hi hn).mpr h1) q)
  refine lv_iload_n hx hb (dc D_pck 10 rfl) rfl (lv_at hl 0 rfl) ?_
  exact W.iret hx hb B.returns (fun t ht _ => ⟨rfl, ht⟩) (fun q hq => by cases hq) (dc D_pck 11 rfl) B.notSynchronized
section ST
variable {ρ : Type} {M : AMt} {fr lw : Nat} {em : ρ → Option AV} {pc pc' : Nat} {l : List (Nat × AV)} {st : List AV} {h : AH} {o : Option (ρ × AH)}
theorem Sd_pck {idx idx2 : Nat} {i n : Int} (h0 : 0 ≤ i) (h1 : i < n) (d : decode M.2.1 pc = .ok (.getstatic idx, 3)) (d2 : decode M.2.1 (pc + 3) = .ok (.invokestatic idx2, 3)) (hp : pc + 6 = pc') (hF : Cond.fieldLink M.1.cls idx "jdk/internal/util/Preconditions" "SIOOBE_FORMATTER" "Ljava/util/function/BiFunction;" ∈ Tb)
    (hm : MOk (yJ3_checkIndex_8e157, cJ3_checkIndex_8e157, 3, some .int) 3) (hl2 : Cond.methodLink M.1.cls idx2 yJ3_checkIndex_8e157 ∈ Tb) (hst : Cond.static yJ3_checkIndex_8e157 ∈ Tb) (hrm : 2 ≤ fr ∧ 22 ≤ lw) (k : Sd M fr lw em pc' l [vi i] h o) : Sd M fr lw em pc l [vi n, vi i] h o := by
  subst hp
  intro r h' ho
  obtain ⟨hmm, hk⟩ := k r h' ho
  refine ⟨hmm, fun E p lc e R s m args below meth c n0 s0 H locs ls C hc hs hn hn2 hH hSS hl hvl hvs => ?_⟩
  have hX := C.2.2.2.2.2.2.2.2.2.2.2
  have hts := C.2.2.2.2.2.2.2.1
  have hn' : inR n := iv hvs
  have hi' : inR i := iv (vok_tl hvs)
  have key : ∀ v : Value, (v = .null ∨ ∃ t, v = .ref t) → W p lc e R s m args below meth c H locs (hN h - n0) (hS h - s0) (MQ below (Qe E em r h') args s (hN h' - n0) (hS h' - s0) (aLo E)) (F0 m (pc + 3) ls [v, .int (Int32.ofInt n), .int (Int32.ofInt i)]) := by
    intro v hv
    have run := va_runS (e := e) (below := below) (meth := meth) (H := H) (locs := locs) (cells := hN h - n0) (slots := hS h - s0) (n := 3) (As := [Value.int (Int32.ofInt i), .int (Int32.ofInt n), v]) (rest := []) (g := F0 m (pc + 3) ls [v, .int (Int32.ofInt n), .int (Int32.ofInt i)]) ⟨C.1, C.2.1, C.2.2.1, C.2.2.2.2.1, hts⟩ (pck_met lc E i n v hi' hn' h0 h1 hv) ⟨callB_of 3 hts (ws_good hm) rfl rfl rfl (hts _ hm.1) (hts _ hl2) hm.2.2 ⟨by rw [C.2.2.2.2.2.2.2.2.1]; exact hrm.1, by rw [C.2.2.2.2.2.2.2.2.2.1]; exact hrm.2⟩, hts _ hst⟩ ⟨fun _ _ _ _ q => q, fun _ _ _ => rfl⟩ rfl rfl hl.1 rfl (lv_room (m := m) (pc := pc + 3) (ls := ls) (st := []) (rest := [v, .int (Int32.ofInt n), .int (Int32.ofInt i)]) (by simp)) d2 ⟨by omega, by omega⟩
    intro T hT X
    obtain ⟨v1, st₀, t, T', L, e0, X', hL, e1, e2, ⟨q1, q2⟩, stp⟩ := run T hT X
    have hv1 : v1 = some (.int (Int32.ofInt i)) := by injection q1
    subst hv1
    have hH' : T'.heap = H := by rw [e1, q2, e0]
    obtain ⟨t2, a1, b1⟩ := hk E p lc e R s m args below meth c n0 s0 H (locs ++ L) ls C hc hs hn hn2 hH ⟨hSS.1, hSS.2.1, fun q hq => by
      rcases List.mem_append.mp hq with z | z
      · exact hSS.2.2 q z
      · exact hL q z⟩ hl hvl (vok_i hi' (fun _ z => by cases z)) T' hH' X'
    exact ⟨t2, stp t2 a1, b1⟩
  rcases hX.2.2.2.2.2.1 with hz | ⟨t, hz⟩
  · exact va_gets C.1 C.2.1 hz hSS C.2.2.2.2.1 (hts _ hF) (fun _ z => z) d (key .null (Or.inl rfl))
  · exact va_gets C.1 C.2.1 hz hSS C.2.2.2.2.1 (hts _ hF) (fun _ z => z) d (key (.ref t) (Or.inr ⟨t, rfl⟩))
end ST
abbrev M_sck : AMt := (yJ0_checkIndex_df160, cJ0_checkIndex_df160, 2, none)
def T_sck : List (Nat × Instr × Nat) := [(0, .iload_n 0, 1), (1, .iload_n 1, 1), (2, .getstatic 1053, 3), (5, .invokestatic 1059, 3), (8, .pop, 1), (9, .return_, 1)]
theorem D_sck : (T_sck.all fun q => decide (decode M_sck.2.1 q.1 = .ok q.2)) = true := by decide +kernel
theorem K_pck : MOk (yJ3_checkIndex_8e157, cJ3_checkIndex_8e157, 3, some .int) 3 := ⟨Tb_at 137 (by decide +kernel) rfl, Tb_at 569 (by decide +kernel) rfl, by decide +kernel, by decide +kernel, by decide +kernel⟩
theorem s_sck (i n : Int) (h : AH) (h0 : 0 ≤ i) (h1 : i < n) : CS M_sck 2 22 emV [vi i, vi n] h (some ((), h)) := by
  refine CS.of (by decide) (Nat.le_of_ble_eq_true rfl) ?_
  show Sd M_sck 2 22 emV 0 [(0, vi i), (1, vi n)] [] h _
  refine Sd_iload_n (pc' := 1) (dc D_sck 0 rfl) rfl 0 rfl rfl ?_
  refine Sd_iload_n (pc' := 2) (dc D_sck 1 rfl) rfl 1 rfl rfl ?_
  refine Sd_pck (pc' := 8) h0 h1 (dc D_sck 2 rfl) (dc D_sck 3 rfl) rfl (Tb_at 565 (by decide +kernel) rfl) K_pck (Tb_at 567 (by decide +kernel) rfl) (Tb_at 568 (by decide +kernel) rfl) ⟨by decide, by decide⟩ ?_
  refine Sd_pop (pc' := 9) (dc D_sck 4 rfl) rfl (cat_i _) ?_
  exact Sd_vret (dc D_sck 5 rfl) rfl
abbrev M_scoder : AMt := (yJ0_coder_7d493, cJ0_coder_7d493, 1, some .byte)
def T_scoder : List (Nat × Instr × Nat) := [(0, .getstatic 38, 3), (3, .ifCond .eq 10, 3), (6, .aload_n 0, 1), (7, .getfield 15, 3), (10, .goto 4, 3), (13, .iconst 1, 1), (14, .ireturn, 1)]
theorem D_scoder : (T_scoder.all fun q => decide (decode M_scoder.2.1 q.1 = .ok q.2)) = true := by decide +kernel
theorem s_scoder (a : Nat) (ha : sOk a) (h : AH) : CS M_scoder 1 0 emI [vr a] h (some (0, h)) := by
  refine CS.of (by decide) (Nat.le_of_ble_eq_true rfl) ?_
  show Sd M_scoder 1 0 emI 0 [(0, vr a)] [] h _
  refine Sd_scmp (pc' := 3) (dc D_scoder 0 rfl) rfl (Tb_at 549 (by decide +kernel) rfl) ?_
  refine Sd.eq (o' := if (1 : Int) = 0 then none else some (0, h)) rfl ?_
  refine Sd_if_eq (tgt := 13) (pc' := 6) (dc D_scoder 1 rfl) (by decide) rfl (fun q => absurd q (by decide)) (fun _ => ?_)
  refine Sd_aload_n (pc' := 7) (dc D_scoder 2 rfl) rfl 0 rfl rfl ?_
  refine Sd_scod (pc' := 10) ha (dc D_scoder 3 rfl) rfl (Tb_at 1901 (by decide +kernel) rfl) ?_
  refine Sd_goto (tgt := 14) (dc D_scoder 4 rfl) (by decide) ?_
  exact Sd_tret (dc D_scoder 6 rfl) rfl rfl
abbrev M_slat : AMt := (yJ0_isLatin1_aae02, cJ0_isLatin1_aae02, 1, some .boolean)
def T_slat : List (Nat × Instr × Nat) := [(0, .getstatic 38, 3), (3, .ifCond .eq 14, 3), (6, .aload_n 0, 1), (7, .getfield 15, 3), (10, .ifCond .ne 7, 3), (13, .iconst 1, 1), (14, .goto 4, 3), (17, .iconst 0, 1), (18, .ireturn, 1)]
theorem D_slat : (T_slat.all fun q => decide (decode M_slat.2.1 q.1 = .ok q.2)) = true := by decide +kernel
theorem s_slat (a : Nat) (ha : sOk a) (h : AH) : CS M_slat 1 0 emI [vr a] h (some (1, h)) := by
  refine CS.of (by decide) (Nat.le_of_ble_eq_true rfl) ?_
  show Sd M_slat 1 0 emI 0 [(0, vr a)] [] h _
  refine Sd_scmp (pc' := 3) (dc D_slat 0 rfl) rfl (Tb_at 549 (by decide +kernel) rfl) ?_
  refine Sd.eq (o' := if (1 : Int) = 0 then none else some (1, h)) rfl ?_
  refine Sd_if_eq (tgt := 17) (pc' := 6) (dc D_slat 1 rfl) (by decide) rfl (fun q => absurd q (by decide)) (fun _ => ?_)
  refine Sd_aload_n (pc' := 7) (dc D_slat 2 rfl) rfl 0 rfl rfl ?_
  refine Sd_scod (pc' := 10) ha (dc D_slat 3 rfl) rfl (Tb_at 1901 (by decide +kernel) rfl) ?_
  refine Sd.eq (o' := if ¬ (0 : Int) = 0 then none else some (1, h)) rfl ?_
  refine Sd_if_ne (tgt := 17) (pc' := 13) (dc D_slat 4 rfl) (by decide) rfl (fun q => absurd rfl q) (fun _ => ?_)
  refine Sd_iconst (pc' := 14) (dc D_slat 5 rfl) rfl ⟨by decide, by decide⟩ ?_
  refine Sd_goto (tgt := 18) (dc D_slat 6 rfl) (by decide) ?_
  exact Sd_zret (dc D_slat 8 rfl) rfl (Or.inr rfl)
abbrev M_slen : AMt := (yJ0_length_8abf5, cJ0_length_8abf5, 1, some .int)
def T_slen : List (Nat × Instr × Nat) := [(0, .aload_n 0, 1), (1, .getfield 9, 3), (4, .arraylength, 1), (5, .aload_n 0, 1), (6, .invokevirtual 335, 3), (9, .ishr, 1), (10, .ireturn, 1)]
theorem D_slen : (T_slen.all fun q => decide (decode M_slen.2.1 q.1 = .ok q.2)) = true := by decide +kernel
theorem K_scoder : MOk M_scoder 0 := ⟨Tb_at 135 (by decide +kernel) rfl, Tb_at 548 (by decide +kernel) rfl, by decide +kernel, by decide +kernel, by decide +kernel⟩
theorem K_slat : MOk M_slat 0 := ⟨Tb_at 135 (by decide +kernel) rfl, Tb_at 558 (by decide +kernel) rfl, by decide +kernel, by decide +kernel, by decide +kernel⟩
theorem iShr0 {x : Int} (hx : inR x) : iShr x 0 = x := by
  unfold iShr
  rw [show Int32.ofInt x >>> (Int32.ofInt 0 &&& 31) = Int32.ofInt x from sb_shr0 _, inR_ofInt hx]
theorem s_slen (a : Nat) (ha : sOk a) (h : AH) : CS M_slen 2 20 emI [vr a] h (some ((sLn a : Int), h)) := by
  refine CS.of (by decide) (Nat.le_of_ble_eq_true rfl) ?_
  show Sd M_slen 2 20 emI 0 [(0, vr a)] [] h _
  refine Sd_aload_n (pc' := 1) (dc D_slen 0 rfl) rfl 0 rfl rfl ?_
  refine Sd_sval (pc' := 4) ha (dc D_slen 1 rfl) rfl (Tb_at 1900 (by decide +kernel) rfl) ?_
  refine Sd_sblen (pc' := 5) ha (dc D_slen 2 rfl) rfl ?_
  refine Sd_aload_n (pc' := 6) (dc D_slen 3 rfl) rfl 0 rfl rfl ?_
  refine Sd.callStr1 (as := []) (pc' := 9) ha (dc D_slen 4 rfl) rfl rfl K_scoder (Tb_at 545 (by decide +kernel) rfl) (Tb_at 546 (by decide +kernel) rfl) (Tb_at 547 (by decide +kernel) rfl) ⟨by decide, by decide⟩ rfl rfl (Nat.le_of_ble_eq_true rfl) (s_scoder a ha h) ?_
  show Sd M_slen 2 20 emI 9 [(0, vr a)] [vi 0, vi (sLn a : Int)] h _
  refine Sd_ishr (pc' := 10) (dc D_slen 5 rfl) rfl ?_
  rw [iShr0 ⟨by have := sLn_lt a ha.2; omega, by have := sLn_lt a ha.2; omega⟩]
  exact Sd_iret (dc D_slen 6 rfl) rfl
abbrev M_lch : AMt := (yJ1_charAt_3b067, cJ1_charAt_3b067, 2, some .char)
def T_lch : List (Nat × Instr × Nat) := [(0, .iload_n 1, 1), (1, .aload_n 0, 1), (2, .arraylength, 1), (3, .invokestatic 9, 3), (6, .aload_n 0, 1), (7, .iload_n 1, 1), (8, .baload, 1), (9, .sipush 255, 3), (12, .iand, 1), (13, .i2c, 1), (14, .ireturn, 1)]
theorem D_lch : (T_lch.all fun q => decide (decode M_lch.2.1 q.1 = .ok q.2)) = true := by decide +kernel
theorem K_sck : MOk M_sck 2 := ⟨Tb_at 135 (by decide +kernel) rfl, Tb_at 564 (by decide +kernel) rfl, by decide +kernel, by decide +kernel, by decide +kernel⟩
theorem sCh_ok : ∀ a, a < 8 → ∀ i, i < sLn a → i2c (iAnd (sCh a i) 255) = sCh a i ∧ narrow .char (.int (Int32.ofInt (sCh a i))) = .int (Int32.ofInt (sCh a i)) := by decide +kernel
theorem s_lch (a : Nat) (i : Int) (ha : sOk a) (h0 : 0 ≤ i) (h1 : i < (sLn a : Int)) (h : AH) : CS M_lch 3 43 emI [vr (a + 7), vi i] h (some (sCh a i.toNat, h)) := by
  refine CS.of (by decide) (Nat.le_of_ble_eq_true rfl) ?_
  show Sd M_lch 3 43 emI 0 [(0, vr (a + 7)), (1, vi i)] [] h _
  obtain ⟨e1, e2⟩ := sCh_ok a ha.2 i.toNat (by omega)
  refine Sd_iload_n (pc' := 1) (dc D_lch 0 rfl) rfl 1 rfl rfl ?_
  refine Sd_aload_n (pc' := 2) (dc D_lch 1 rfl) rfl 0 rfl rfl ?_
  refine Sd_sblen (pc' := 3) ha (dc D_lch 2 rfl) rfl ?_
  refine Sd.callS1 (as := [vi i, vi (sLn a : Int)]) (pc' := 6) (dc D_lch 3 rfl) rfl K_sck (Tb_at 562 (by decide +kernel) rfl) (Tb_at 563 (by decide +kernel) rfl) ⟨by decide, by decide⟩ rfl rfl (Nat.le_of_ble_eq_true rfl) (s_sck i (sLn a : Int) h h0 h1) ?_
  show Sd M_lch 3 43 emI 6 [(0, vr (a + 7)), (1, vi i)] [] h _
  refine Sd_aload_n (pc' := 7) (dc D_lch 4 rfl) rfl 0 rfl rfl ?_
  refine Sd_iload_n (pc' := 8) (dc D_lch 5 rfl) rfl 1 rfl rfl ?_
  refine Sd_sbald (pc' := 9) ha h0 h1 (dc D_lch 6 rfl) rfl ?_
  refine Sd_sipush (pc' := 12) (dc D_lch 7 rfl) rfl ⟨by decide, by decide⟩ (by decide) ?_
  refine Sd_iand (pc' := 13) (dc D_lch 8 rfl) rfl ?_
  refine Sd_i2c (pc' := 14) (dc D_lch 9 rfl) rfl ?_
  rw [e1]
  exact Sd_tret (dc D_lch 10 rfl) rfl e2
abbrev M_sch : AMt := (yJ0_charAt_5068e, cJ0_charAt_5068e, 2, some .char)
def T_sch : List (Nat × Instr × Nat) := [(0, .aload_n 0, 1), (1, .invokevirtual 492, 3), (4, .ifCond .eq 12, 3), (7, .aload_n 0, 1), (8, .getfield 9, 3), (11, .iload_n 1, 1), (12, .invokestatic 495, 3), (15, .ireturn, 1), (16, .aload_n 0, 1), (17, .getfield 9, 3), (20, .iload_n 1, 1), (21, .invokestatic 498, 3), (24, .ireturn, 1)]
theorem D_sch : (T_sch.all fun q => decide (decode M_sch.2.1 q.1 = .ok q.2)) = true := by decide +kernel
theorem K_lch : MOk M_lch 2 := ⟨Tb_at 136 (by decide +kernel) rfl, Tb_at 561 (by decide +kernel) rfl, by decide +kernel, by decide +kernel, by decide +kernel⟩
theorem s_sch (a : Nat) (i : Int) (ha : sOk a) (h0 : 0 ≤ i) (h1 : i < (sLn a : Int)) (h : AH) : CS M_sch 4 64 emI [vr a, vi i] h (some (sCh a i.toNat, h)) := by
  refine CS.of (by decide) (Nat.le_of_ble_eq_true rfl) ?_
  show Sd M_sch 4 64 emI 0 [(0, vr a), (1, vi i)] [] h _
  obtain ⟨e1, e2⟩ := sCh_ok a ha.2 i.toNat (by omega)
  refine Sd_aload_n (pc' := 1) (dc D_sch 0 rfl) rfl 0 rfl rfl ?_
  refine Sd.callStr1 (as := []) (pc' := 4) ha (dc D_sch 1 rfl) rfl rfl K_slat (Tb_at 555 (by decide +kernel) rfl) (Tb_at 556 (by decide +kernel) rfl) (Tb_at 557 (by decide +kernel) rfl) ⟨by decide, by decide⟩ rfl rfl (Nat.le_of_ble_eq_true rfl) (s_slat a ha h) ?_
  show Sd M_sch 4 64 emI 4 [(0, vr a), (1, vi i)] [vi 1] h _
  refine Sd.eq (o' := if (1 : Int) = 0 then none else some (sCh a i.toNat, h)) rfl ?_
  refine Sd_if_eq (tgt := 16) (pc' := 7) (dc D_sch 2 rfl) (by decide) rfl (fun q => absurd q (by decide)) (fun _ => ?_)
  refine Sd_aload_n (pc' := 8) (dc D_sch 3 rfl) rfl 0 rfl rfl ?_
  refine Sd_sval (pc' := 11) ha (dc D_sch 4 rfl) rfl (Tb_at 1900 (by decide +kernel) rfl) ?_
  refine Sd_iload_n (pc' := 12) (dc D_sch 5 rfl) rfl 1 rfl rfl ?_
  refine Sd.callS1 (as := [vr (a + 7), vi i]) (pc' := 15) (dc D_sch 6 rfl) rfl K_lch (Tb_at 559 (by decide +kernel) rfl) (Tb_at 560 (by decide +kernel) rfl) ⟨by decide, by decide⟩ rfl rfl (Nat.le_of_ble_eq_true rfl) (s_lch a i ha h0 h1 h) ?_
  show Sd M_sch 4 64 emI 15 [(0, vr a), (1, vi i)] [vi (sCh a i.toNat)] h _
  exact Sd_tret (dc D_sch 7 rfl) rfl e2
theorem K_slen : MOk M_slen 0 := ⟨Tb_at 135 (by decide +kernel) rfl, Tb_at 544 (by decide +kernel) rfl, by decide +kernel, by decide +kernel, by decide +kernel⟩
theorem K_sch : MOk M_sch 1 := ⟨Tb_at 135 (by decide +kernel) rfl, Tb_at 554 (by decide +kernel) rfl, by decide +kernel, by decide +kernel, by decide +kernel⟩
section SU
variable {ρ : Type} {M : AMt} {fr lw : Nat} {em : ρ → Option AV} {pc pc' : Nat} {l : List (Nat × AV)} {st : List AV} {h : AH} {o : Option (ρ × AH)}
theorem Sd_strlen {idx a : Nat} {f : Int → Option (ρ × AH)} (d : decode M.2.1 pc = .ok (.invokevirtual idx, 3)) (hp : pc + 3 = pc') (hl : Cond.methodLink M.1.cls idx yJ0_length_8abf5 ∈ Tb) (hrm : 4 ≤ fr ∧ 80 ≤ lw) (hcat : (st.map catA).sum ≤ 8) (k : Sd M fr lw em pc' l (vi (sLn a : Int) :: st) h (f (sLn a : Int))) : Sd M fr lw em pc l (vr a :: st) h (sLen a f) := by
  refine Sd.ite' ?_
  intro ha
  exact Sd.callStr1 (as := []) ha d hp rfl K_slen hl (Tb_at 542 (by decide +kernel) rfl) (Tb_at 543 (by decide +kernel) rfl) ⟨by omega, by show 8 + (1 + 11) + 20 ≤ lw; omega⟩ rfl rfl hcat (s_slen a ha h) k
theorem Sd_strat {idx a : Nat} {i : Int} {f : Int → Option (ρ × AH)} (d : decode M.2.1 pc = .ok (.invokevirtual idx, 3)) (hp : pc + 3 = pc') (hl : Cond.methodLink M.1.cls idx yJ0_charAt_5068e ∈ Tb) (hrm : 6 ≤ fr ∧ 150 ≤ lw) (hcat : (st.map catA).sum ≤ 8) (k : Sd M fr lw em pc' l (vi (sCh a i.toNat) :: st) h (f (sCh a i.toNat))) : Sd M fr lw em pc l (vi i :: vr a :: st) h (sAt a i f) := by
  refine Sd.ite' ?_
  intro ⟨ha, h0, h1⟩
  exact Sd.callStr1 (as := [vi i]) ha d hp rfl K_sch hl (Tb_at 552 (by decide +kernel) rfl) (Tb_at 553 (by decide +kernel) rfl) ⟨by omega, by show 8 + (2 + 11) + 64 ≤ lw; omega⟩ rfl rfl hcat (s_sch a i ha h0 h1 h) k
end SU
theorem W_mmax1 : Cond.static Lib.Math.max.name ∈ Tb := Tb_at 728 (by decide +kernel) rfl
theorem W_mmax3 : Cond.code Lib.Math.max.name Lib.Math.max.code 2 (some .int) ∈ Tb := Tb_at 729 (by decide +kernel) rfl
theorem W_mmin1 : Cond.static Lib.Math.min.name ∈ Tb := Tb_at 514 (by decide +kernel) rfl
theorem W_mmin3 : Cond.code Lib.Math.min.name Lib.Math.min.code 2 (some .int) ∈ Tb := Tb_at 515 (by decide +kernel) rfl
theorem W_m2 : Cond.initialized "java/lang/Math" ∈ Tb := Tb_at 134 (by decide +kernel) rfl
end
section
def R_law : String := "BatchShareLaw"
def lw_P (b : Addr) (xs : List Int32) (args : Array Value) (s : State) : Prop := args = #[.ref b] ∧ s.IntsAt b xs ∧ xs.length ≤ 3072 ∧ (Jvm.Cond.and given_1 narrow_1).before args s = true
def lw_Q (_ : Array Value) (s : State) (o : Outcome) (t : State) : Prop := o = .returned (some (.int 1)) ∧ Framed s o t [] 600000 7302250
def lw_Z (below : List Frame) (a : Array Value) (s : State) : State → Prop := fun t => ∃ o, t.status = .running ∧ Ended t below o ∧ lw_Q a s o t
/-- the law's own end, with 1 on the stack, nothing written that was there before, its room as the claim has it -/
theorem lw_ret {p : Program} {l : Launch} {e : Env} {s : State} {m : MethodId} {below : List Frame} {meth : Method} {c : Code} {b : Nat} (hx : p.tables.exec = Jvm.exec) (hb : c.code = code) (hr : meth.sig.returnType = ret) (hlocks : meth.locks = false) {pc : Nat} {H : Heap} {ls : Array Slot} (hdg : decode code pc = .ok (.ireturn, 1)) : W p l e room_1 s m #[Value.ref b] below meth c H [] 600000 7302250 (lw_Z below #[Value.ref b] s) (F0 m pc ls [.int 1]) := by
  intro T hT X
  obtain ⟨fs, hret, hrun, hended, hW, hframe⟩ := X.leave (v := some (.int 1)) (hlocks := hlocks) (fun h => by rw [hr] at h; cases h)
  have hmeth' : T.vm.method? m = some meth := X.method'
  refine ⟨T.setFrames fs, ?_, .returned (some (.int 1)), hrun, hended, rfl, ⟨_, rfl⟩, hW, hframe⟩
  jvm_step X.here [X.here.top, hx, hb, hdg, hmeth', hr, ret, narrow_b1]
  (try refine ⟨rfl, ?_⟩); (try refine ⟨rfl, ?_⟩)
  first | (intro acts; rw [hret _ acts rfl rfl rfl]) | rw [hret _ _ rfl rfl rfl]
  exact Steps.refl _
/-- what holds at the law's entry: the machine, the code, the tables' words (any of lw_tbl by 'hts w (by decide +kernel)'), the script of L ints xs at the cell b, what the Statement gives of the start (any of its parts by flat_of_before) -/
def lw_At (p : Program) (s : State) (m : MethodId) (meth : Method) (c : Code) (b L : Nat) (xs : Nat → Int32) : Prop :=
  p.tables.exec = Jvm.exec ∧ c.code = code ∧ meth.sig.returnType = ret ∧ c.maxLocals = 4 ∧ s.vm.findClass R_law = some m.cls ∧ (∀ w ∈ lw_tbl, w.before #[Value.ref b] s = true) ∧ va_X b L xs s s.heap ∧ b < s.heap.size ∧ meth.locks = false ∧ (Jvm.Cond.and given_1 narrow_1).before #[Value.ref b] s = true

/-- the AM's heap at the law's entry: no cell, and the script -/
def h0 (L : Nat) (xs : Nat → Int) : AH := (0, 0, fun a => if a = 15 then (24, L) else (0, 0), fun a => if a = 15 then xs else fun _ => 0, fun _ _ => 0)
def tmS (i : Nat) : Term := Term.string RX6 ([47, 64, 74, 111, 93, 120, 98].getD i 0)
def tmM (i : Nat) : Term := Term.string RX12 ([163, 165, 167, 204, 221, 219, 226].getD i 0)
def gvn : List Cond := flatC (Jvm.Cond.and given_1 narrow_1)
theorem gv_ex : ∀ i, i < 7 → Cond.exactly (tmS i) "java/lang/String" ∈ gvn := by decide +kernel
theorem gv_co : ∀ i, i < 7 → Cond.eq (.field (tmS i) "java/lang/String" "coder" "B") (.int 0) ∈ gvn := by decide +kernel
theorem gv_ar : ∀ i, i < 7 → Cond.arrayOf (.field (tmS i) "java/lang/String" "value" "[B") .byte ∈ gvn := by decide +kernel
theorem gv_le : ∀ i, i < 7 → Cond.eq (.length (.field (tmS i) "java/lang/String" "value" "[B")) (.int (Int32.ofNat (sLens.getD i 0))) ∈ gvn := by decide +kernel
theorem gv_el : ∀ i, i < 7 → ∀ j, j < sLens.getD i 0 → Cond.eq (.elem (.field (tmS i) "java/lang/String" "value" "[B") (.int (Int32.ofNat j))) (.int ((sByts.getD i []).getD j 0)) ∈ gvn := by decide +kernel
theorem gv_ne : ∀ i, i < 7 → ∀ j, j < 7 → i ≠ j → Cond.not (Cond.eq (tmS i) (tmS j)) ∈ gvn ∨ Cond.not (Cond.eq (tmS j) (tmS i)) ∈ gvn := by decide +kernel
theorem gv_sm : ∀ i, i < 7 → Cond.eq (tmS i) (tmM i) ∈ gvn ∨ Cond.eq (tmM i) (tmS i) ∈ gvn := by decide +kernel
theorem gv_cm : Cond.eq (.static "java/lang/String" "COMPACT_STRINGS" "Z") (.int 1) ∈ gvn := by decide +kernel
theorem gv_fm : Cond.isRef (.static "jdk/internal/util/Preconditions" "SIOOBE_FORMATTER" "Ljava/util/function/BiFunction;") ∈ gvn := by decide +kernel
theorem sL31 : ∀ i, i < 7 → sLens.getD i 0 < 2 ^ 31 := by decide
theorem W.mono {p : Program} {l : Launch} {e : Env} {R : Room} {s : State} {m : MethodId} {args : Array Value} {below : List Frame} {meth : Method} {c : Code} {H : Heap} {locs : List Loc} {cells slots : Nat} {Q Q' : State → Prop} {g : JFrame} (hq : ∀ t, Q t → Q' t) (k : W p l e R s m args below meth c H locs cells slots Q g) : W p l e R s m args below meth c H locs cells slots Q' g := by
  intro T hT X
  obtain ⟨t, a, b⟩ := k T hT X
  exact ⟨t, a, hq t b⟩
theorem eqR2 {args : Array Value} {s : State} {t u : Term} {a : Nat} (h : (Cond.eq t u).before args s = true) (hu : u.eval args s none [] s = some (.ref a)) : t.eval args s none [] s = some (.ref a) := by
  cases ht : t.eval args s none [] s with
  | none => simp [Cond.before, Cond.holds, Cond.value, ht, hu] at h
  | some v =>
    simp only [Cond.before, Cond.holds, Cond.value, ht, hu] at h
    cases v <;> simp_all
abbrev M_law0 : AMt := (x, code, 4, some .boolean)
set_option maxHeartbeats 4000000 in
set_option maxRecDepth 20000 in
/-- the world at the law's entry -/
theorem env0 {p : Program} {s : State} {m : MethodId} {meth : Method} {c : Code} {b L : Nat} {xs : Nat → Int32} (hL : L ≤ 3072) (C0 : lw_At p s m meth c b L xs) : ∃ E : AE, E.1 = s.heap.size ∧ E.2.1 15 = b ∧ Ctx M_law0 14 554 E p room_1 s m #[Value.ref b] meth c ∧ RH E (h0 L (fun j => (xs j).toInt)) s s.heap := by
  obtain ⟨hx, hb, hr, hml, hown, hts, hX, hbl, hlocks, hgv⟩ := id C0
  have hg : ∀ w ∈ gvn, w.before #[Value.ref b] s = true := flat_of_before _ hgv
  obtain ⟨c0, iS0, hKn0⟩ := u_known (C := RX0) (T := TX0) (N := 5) (n := 5) hts (fun w hw => (inX0 w hw).1) (hts (.instantiable RX0 5) (List.mem_of_getElem? (i := 365) (by decide +kernel)))
  obtain ⟨c1, iS1, hKn1⟩ := u_known (C := RX1) (T := TX1) (N := 7) (n := 7) hts (fun w hw => (inX1 w hw).1) (hts (.instantiable RX1 7) (List.mem_of_getElem? (i := 396) (by decide +kernel)))
  obtain ⟨c2, iS2, hKn2⟩ := u_known (C := RX2) (T := TX2) (N := 4) (n := 4) hts (fun w hw => (inX2 w hw).1) (hts (.instantiable RX2 4) (List.mem_of_getElem? (i := 197) (by decide +kernel)))
  obtain ⟨c3, iS3, hKn3⟩ := u_known (C := RX3) (T := TX3) (N := 1) (n := 1) hts (fun w hw => (inX3 w hw).1) (hts (.instantiable RX3 1) (List.mem_of_getElem? (i := 203) (by decide +kernel)))
  obtain ⟨c4, iS4, hKn4⟩ := u_known (C := RX4) (T := TX4) (N := 6) (n := 6) hts (fun w hw => (inX4 w hw).1) (hts (.instantiable RX4 6) (List.mem_of_getElem? (i := 339) (by decide +kernel)))
  obtain ⟨c5, iS5, hKn5⟩ := u_known (C := RX5) (T := TX5) (N := 3) (n := 3) hts (fun w hw => (inX5 w hw).1) (hts (.instantiable RX5 3) (List.mem_of_getElem? (i := 430) (by decide +kernel)))
  obtain ⟨c6, iS6, hKn6⟩ := u_known (C := RX6) (T := TX6) (N := 5) (n := 5) hts (fun w hw => (inX6 w hw).1) (hts (.instantiable RX6 5) (List.mem_of_getElem? (i := 151) (by decide +kernel)))
  obtain ⟨c7, iS7, hKn7⟩ := u_known (C := RX7) (T := TX7) (N := 2) (n := 2) hts (fun w hw => (inX7 w hw).1) (hts (.instantiable RX7 2) (List.mem_of_getElem? (i := 190) (by decide +kernel)))
  obtain ⟨c8, iS8, hKn8⟩ := u_known (C := RX8) (T := TX8) (N := 7) (n := 7) hts (fun w hw => (inX8 w hw).1) (hts (.instantiable RX8 7) (List.mem_of_getElem? (i := 182) (by decide +kernel)))
  obtain ⟨c9, iS9, hKn9⟩ := u_known (C := RX9) (T := TX9) (N := 4) (n := 4) hts (fun w hw => (inX9 w hw).1) (hts (.instantiable RX9 4) (List.mem_of_getElem? (i := 254) (by decide +kernel)))
  obtain ⟨c10, iS10, hKn10⟩ := u_known (C := RX10) (T := TX10) (N := 5) (n := 5) hts (fun w hw => (inX10 w hw).1) (hts (.instantiable RX10 5) (List.mem_of_getElem? (i := 176) (by decide +kernel)))
  obtain ⟨c11, iS11, hKn11⟩ := u_known (C := RX11) (T := TX11) (N := 12) (n := 12) hts (fun w hw => (inX11 w hw).1) (hts (.instantiable RX11 12) (List.mem_of_getElem? (i := 143) (by decide +kernel)))
  obtain ⟨c12, iS12, hKn12⟩ := u_known (C := RX12) (T := TX12) (N := 50) (n := 50) hts (fun w hw => (inX12 w hw).1) (hts (.instantiable RX12 50) (List.mem_of_getElem? (i := 1212) (by decide +kernel)))
  obtain ⟨dC, dI, hKc⟩ : ∃ (dC : Nat → ClassId) (dI : Nat → Nat → Nat), ∀ (k : Nat) (q : vw_C), vwCl[k]? = some q → u_Kn s q.1 q.2.1 q.2.2 (dC k) (dI k) := by
    refine ⟨fun k => [c0, c1, c2, c3, c4, c5, c6, c7, c8, c9, c10, c11, c12].getD k 0, fun k => [iS0, iS1, iS2, iS3, iS4, iS5, iS6, iS7, iS8, iS9, iS10, iS11, iS12].getD k (fun _ => 0), ?_⟩
    intro k q hq
    match k, hq with
    | 0, hq => cases hq; exact hKn0
    | 1, hq => cases hq; exact hKn1
    | 2, hq => cases hq; exact hKn2
    | 3, hq => cases hq; exact hKn3
    | 4, hq => cases hq; exact hKn4
    | 5, hq => cases hq; exact hKn5
    | 6, hq => cases hq; exact hKn6
    | 7, hq => cases hq; exact hKn7
    | 8, hq => cases hq; exact hKn8
    | 9, hq => cases hq; exact hKn9
    | 10, hq => cases hq; exact hKn10
    | 11, hq => cases hq; exact hKn11
    | 12, hq => cases hq; exact hKn12
    | k + 13, hq => simp [vwCl] at hq
  have hA : ∀ a : Nat, a < s.heap.size → ¬ s.heap.size ≤ a := fun a h => by omega
  have prim : ∀ ty : FieldType, (∀ U cA, U.vm.findClass ("[" ++ ty.toString) = some cA → va_RA U cA ty) → (Cond.arrayClass ty).before #[Value.ref b] s = true → ∃ cA, ArrOfT s cA ty ∧ va_RA s cA ty := by
    intro ty hty hw
    obtain ⟨cA, k, comp, f1, f2, f3⟩ := Cond.arrayClass_spec hw
    exact ⟨cA, fun N z => ⟨(fun k h => by cases h), k, f2, comp, f3⟩, hty _ _ f1⟩
  have obj : ∀ C1 : String, (Cond.arrayOver (.object C1)).before #[Value.ref b] s = true → ∃ cA, ArrOfT s cA (.object C1) ∧ va_RA s cA (.object C1) := by
    intro C1 hw
    obtain ⟨comp, cA, k, f1, f2, f3, f4, f5⟩ := Cond.arrayOver_spec hw
    exact ⟨cA, fun N z => ⟨(fun k h => by cases h), k, f3, comp, f4⟩, k, comp, f3, f4, f1, f5⟩
  obtain ⟨a0, A0⟩ := prim .int (fun _ _ h => h) (hts _ (List.mem_of_getElem? (i := 172) (by decide +kernel)))
  obtain ⟨a1, A1⟩ := prim .byte (fun _ _ h => h) (hts _ (List.mem_of_getElem? (i := 662) (by decide +kernel)))
  obtain ⟨a2, A2⟩ := prim .boolean (fun _ _ h => h) (hts _ (List.mem_of_getElem? (i := 1367) (by decide +kernel)))
  have w0 := hts (.arrayOver (.object RX5)) (List.mem_of_getElem? (i := 174) (by decide +kernel))
  obtain ⟨b0, B0⟩ := obj RX5 w0
  have w1 := hts (.arrayOver (.object RX10)) (List.mem_of_getElem? (i := 335) (by decide +kernel))
  obtain ⟨b1, B1⟩ := obj RX10 w1
  have w2 := hts (.arrayOver (.object RX8)) (List.mem_of_getElem? (i := 315) (by decide +kernel))
  obtain ⟨b2, B2⟩ := obj RX8 w2
  have w3 := hts (.arrayOver (.object RX9)) (List.mem_of_getElem? (i := 188) (by decide +kernel))
  obtain ⟨b3, B3⟩ := obj RX9 w3
  have w4 := hts (.arrayOver (.object RX2)) (List.mem_of_getElem? (i := 196) (by decide +kernel))
  obtain ⟨b4, B4⟩ := obj RX2 w4
  have w5 := hts (.arrayOver (.object RX3)) (List.mem_of_getElem? (i := 371) (by decide +kernel))
  obtain ⟨b5, B5⟩ := obj RX3 w5
  obtain ⟨adK, adV, hS, hSe⟩ := vk_Sof (args := #[Value.ref b]) (s := s) (N := 7) (tm := tmS) (len := sLens) (byt := sByts) (A := fun a => s.heap.size ≤ a) sL31 (fun i hi => hg _ (gv_ex i hi)) (fun i hi => hg _ (gv_co i hi)) (fun i hi => hg _ (gv_ar i hi)) (fun i hi => hg _ (gv_le i hi)) (fun i hi j hj => hg _ (gv_el i hi j hj)) (fun i j hi hj hij => (gv_ne i hi j hj hij).imp (hg _) (hg _)) hA
  have hSm : ∀ i, i < 7 → (tmM i).eval #[Value.ref b] s none [] s = some (.ref (adK i)) := fun i hi => (gv_sm i hi).elim (fun h => va_eqR (hg _ h) (hSe i hi)) (fun h => eqR2 (hg _ h) (hSe i hi))
  obtain ⟨E, hE⟩ : ∃ E : AE, E = (s.heap.size, (fun a => if a < 8 then adK (a - 1) else if a < 15 then adV (a - 8) else b), dC, dI, fun t => ([(21, a0), (22, a1), (23, a2), (31, b0), (32, b1), (33, b2), (34, b3), (35, b4), (36, b5)].lookup t).getD 0) := ⟨_, rfl⟩
  have e1 : E.1 = s.heap.size := by rw [hE]
  have e15 : E.2.1 15 = b := by rw [hE]; rfl
  have eK : ∀ i, i < 7 → E.2.1 (i + 1) = adK i := fun i hi => by rw [hE]; show (if i + 1 < 8 then _ else _) = _; rw [if_pos (by omega)]; rfl
  have eV : ∀ i, i < 7 → E.2.1 (i + 8) = adV i := fun i hi => by rw [hE]; show (if i + 8 < 8 then adK (i + 8 - 1) else if i + 8 < 15 then adV (i + 8 - 8) else b) = adV i; rw [if_neg (by omega), if_pos (by omega)]; rfl
  have eA : aLo E = fun a => s.heap.size ≤ a := by funext a; show (E.1 ≤ a) = _; rw [e1]
  have hKK : va_K (aD E) vwCl (atys E) s := by
    rw [hE]
    refine ⟨hKc, fun k q hk => ?_⟩
    match k, hk with
    | 0, hk => cases hk; exact A0
    | 1, hk => cases hk; exact A1
    | 2, hk => cases hk; exact A2
    | 3, hk => cases hk; exact B0
    | 4, hk => cases hk; exact B1
    | 5, hk => cases hk; exact B2
    | 6, hk => cases hk; exact B3
    | 7, hk => cases hk; exact B4
    | 8, hk => cases hk; exact B5
    | k + 9, hk => simp [atys, aTs] at hk
  have hExt : Ext E s := by
    refine ⟨?_, ?_, ?_, by rw [e1]; exact Nat.le_refl _, ?_, ?_, ?_⟩
    · intro C1 hC
      simp only [aoL, List.mem_cons, List.not_mem_nil, or_false] at hC
      rcases hC with rfl | rfl | rfl | rfl | rfl | rfl
      · exact va_AO.of w0
      · exact va_AO.of w1
      · exact va_AO.of w2
      · exact va_AO.of w3
      · exact va_AO.of w4
      · exact va_AO.of w5
    · intro q hq
      simp only [nstL, List.mem_cons, List.not_mem_nil, or_false] at hq
      rcases hq with rfl | rfl | rfl | rfl | rfl
      · exact va_Nw.of rfl (hts _ (List.mem_of_getElem? (i := 177) (by decide +kernel)))
      · exact va_Nw.of rfl (hts _ (List.mem_of_getElem? (i := 198) (by decide +kernel)))
      · exact va_Nw.of rfl (hts _ (List.mem_of_getElem? (i := 204) (by decide +kernel)))
      · exact va_Nw.of rfl (hts _ (List.mem_of_getElem? (i := 372) (by decide +kernel)))
      · exact va_Nw.of rfl (hts _ (List.mem_of_getElem? (i := 436) (by decide +kernel)))
    · intro q hq
      simp only [strL, List.mem_cons, List.not_mem_nil, or_false] at hq
      rcases hq with rfl | rfl | rfl | rfl | rfl | rfl | rfl | rfl | rfl | rfl | rfl | rfl | rfl | rfl
      · exact vk_R.of (A := #[Value.ref b]) (hts _ (List.mem_of_getElem? (i := 532) (by decide +kernel))) (by rw [show E.2.1 1 = adK 0 from eK 0 (by decide)]; exact hSe 0 (by decide))
      · exact vk_R.of (A := #[Value.ref b]) (hts _ (List.mem_of_getElem? (i := 597) (by decide +kernel))) (by rw [show E.2.1 2 = adK 1 from eK 1 (by decide)]; exact hSe 1 (by decide))
      · exact vk_R.of (A := #[Value.ref b]) (hts _ (List.mem_of_getElem? (i := 623) (by decide +kernel))) (by rw [show E.2.1 3 = adK 2 from eK 2 (by decide)]; exact hSe 2 (by decide))
      · exact vk_R.of (A := #[Value.ref b]) (hts _ (List.mem_of_getElem? (i := 703) (by decide +kernel))) (by rw [show E.2.1 4 = adK 3 from eK 3 (by decide)]; exact hSe 3 (by decide))
      · exact vk_R.of (A := #[Value.ref b]) (hts _ (List.mem_of_getElem? (i := 708) (by decide +kernel))) (by rw [show E.2.1 5 = adK 4 from eK 4 (by decide)]; exact hSe 4 (by decide))
      · exact vk_R.of (A := #[Value.ref b]) (hts _ (List.mem_of_getElem? (i := 731) (by decide +kernel))) (by rw [show E.2.1 6 = adK 5 from eK 5 (by decide)]; exact hSe 5 (by decide))
      · exact vk_R.of (A := #[Value.ref b]) (hts _ (List.mem_of_getElem? (i := 732) (by decide +kernel))) (by rw [show E.2.1 7 = adK 6 from eK 6 (by decide)]; exact hSe 6 (by decide))
      · exact vk_R.of (A := #[Value.ref b]) (hts _ (List.mem_of_getElem? (i := 1392) (by decide +kernel))) (by rw [show E.2.1 1 = adK 0 from eK 0 (by decide)]; exact hSm 0 (by decide))
      · exact vk_R.of (A := #[Value.ref b]) (hts _ (List.mem_of_getElem? (i := 1404) (by decide +kernel))) (by rw [show E.2.1 2 = adK 1 from eK 1 (by decide)]; exact hSm 1 (by decide))
      · exact vk_R.of (A := #[Value.ref b]) (hts _ (List.mem_of_getElem? (i := 1405) (by decide +kernel))) (by rw [show E.2.1 3 = adK 2 from eK 2 (by decide)]; exact hSm 2 (by decide))
      · exact vk_R.of (A := #[Value.ref b]) (hts _ (List.mem_of_getElem? (i := 1443) (by decide +kernel))) (by rw [show E.2.1 4 = adK 3 from eK 3 (by decide)]; exact hSm 3 (by decide))
      · exact vk_R.of (A := #[Value.ref b]) (hts _ (List.mem_of_getElem? (i := 1460) (by decide +kernel))) (by rw [show E.2.1 5 = adK 4 from eK 4 (by decide)]; exact hSm 4 (by decide))
      · exact vk_R.of (A := #[Value.ref b]) (hts _ (List.mem_of_getElem? (i := 1477) (by decide +kernel))) (by rw [show E.2.1 6 = adK 5 from eK 5 (by decide)]; exact hSm 5 (by decide))
      · exact vk_R.of (A := #[Value.ref b]) (hts _ (List.mem_of_getElem? (i := 1478) (by decide +kernel))) (by rw [show E.2.1 7 = adK 6 from eK 6 (by decide)]; exact hSm 6 (by decide))
    · rw [eA]
      refine ⟨fun i hi => ?_, fun i j hi hj h => ?_⟩
      · have := hS.1 i hi
        dsimp only
        rw [eK i hi, eV i hi]
        exact this
      · dsimp only at h
        rw [eK i hi, eK j hj] at h
        exact hS.2 i j hi hj h
    · rw [eA]
      exact va_Zqof (hts _ (List.mem_of_getElem? (i := 566) (by decide +kernel))) (hts _ (List.mem_of_getElem? (i := 137) (by decide +kernel))) (hg _ gv_fm) hA
    · rw [eA]
      exact va_Zof (hts _ (List.mem_of_getElem? (i := 550) (by decide +kernel))) (hts _ (List.mem_of_getElem? (i := 135) (by decide +kernel))) (va_eqt (hg _ gv_cm)) hA
  refine ⟨E, e1, e15, ⟨hx, hb, hml, hr, hown, hlocks, fun h => absurd h (by decide), fun w hw => hts w (List.mem_filter.mp hw).1, rfl, rfl, hKK, hExt⟩, ?_⟩
  refine ⟨by rw [e1]; rfl, fun k q hk => by simp [wsO, hN, h0] at hk, ?_, ?_, ?_, Or.inr ⟨rfl, by rw [e15, e1]; exact hbl, ?_⟩, fun a g1 g2 => by have : a < 16 + 0 := g2; omega⟩
  · intro a ha
    show (if a = 15 then _ else _) = _
    rw [if_neg (by have : (0 : Nat) = hN (h0 L fun j => (xs j).toInt) := rfl; omega)]
  · intro a k
    show inR ((if a = 15 then (fun j => (xs j).toInt) else fun _ => 0) k)
    split
    · exact inR_toInt _
    · exact inR0
  · intro a
    show (if a = 15 then (24, L) else (0, 0)).2 < 2 ^ 31
    split
    · show L < 2 ^ 31; omega
    · show 0 < 2 ^ 31; decide
  · rw [e15]
    show va_X b L (fun j => Int32.ofInt (xs j).toInt) s s.heap
    have : (fun j => Int32.ofInt (xs j).toInt) = xs := by funext j; exact of_toInt _
    rw [this]
    exact hX
set_option maxHeartbeats 4000000 in
/-- the claim, from the AM's run of the law -/
theorem start_of (law : Nat → AH → Option (Int × AH)) (hsd : ∀ h : AH, Sd M_law0 14 554 emI 0 [(0, vr 15)] [] h (law 15 h))
    (hlaw : ∀ (L : Nat) (xs : Nat → Int), L ≤ 3072 → (∀ j, inR (xs j)) → ∃ h' : AH, law 15 (h0 L xs) = some (1, h') ∧ hN h' ≤ 600000 ∧ hS h' ≤ 7302250)
    {p : Program} {e : Env} {s : State} {m : MethodId} {below : List Frame} {meth : Method} {c : Code} (l : Launch) {b L : Nat} {xs : Nat → Int32} (hL : L ≤ 3072) (C0 : lw_At p s m meth c b L xs) : W p l e room_1 s m #[Value.ref b] below meth c s.heap [] 0 0 (lw_Z below #[Value.ref b] s) (entryFrame m ([Value.ref b] : List Value).toArray 4) := by
  obtain ⟨E, e1, e15, C, hH⟩ := env0 hL C0
  obtain ⟨h', hrun, hn, hs⟩ := hlaw L (fun j => (xs j).toInt) hL (fun j => inR_toInt _)
  obtain ⟨-, hk⟩ := hsd _ 1 h' hrun
  have hv : cv E (vr 15) = .ref b := by rw [cvr_lo (by decide) (by decide), e15]
  have hl := lv_entry ([Value.ref b]) (n := 4) (Nat.le_of_ble_eq_true rfl)
  rw [lg_entry_eq]
  generalize (lg_sl ([Value.ref b]) ++ List.replicate (4 - (lg_sl ([Value.ref b])).length) Slot.unset).toArray = ls at hl ⊢
  have hl : lv_has ls 4 ([(0, vr 15)].map (cvp E)) := by
    show lv_has ls 4 [(0, cv E (vr 15))]
    rw [hv]; exact hl
  have key := hk E p l e room_1 s m #[Value.ref b] below meth c 0 0 s.heap [] _ C (by show hN h' - 0 ≤ 600000; omega) (by show hS h' - 0 ≤ 7302250; omega) (Nat.zero_le _) (Nat.zero_le _) hH va_S.rf hl (fun q hq => by rw [List.mem_singleton.mp hq]; exact trivial) (fun v hv => by cases hv)
  refine W.mono (fun t ht => ?_) key
  obtain ⟨o, g1, g2, ⟨q1, -, -, -⟩, L', ⟨f1, f2, f3⟩, f4⟩ := ht
  refine ⟨o, g1, g2, q1, f1, f2, f3.weaken (fun y hy hlt => ?_) (by omega) (by omega)⟩
  have := f4 y hy
  have h3 : E.1 ≤ y.base := this
  rw [e1] at h3
  exact absurd hlt (Nat.not_lt.mpr h3)
end
