section
-- ===== PART A: goes FIRST, ahead of the names: the tables' words, and 'selects' of the private methods out of them =====
/-- a private method of a class that the tables say can be made, by its rows of tables_1 -/
def lw_okq (q : MethodName × Nat) : Prop := (q.1.cls ≠ "java/lang/invoke/MethodHandle" ∧ q.1.cls ≠ "java/lang/invoke/VarHandle") ∧ Cond.instantiable q.1.cls q.2 ∈ tables_1 ∧ Cond.privateMethod q.1 ∈ tables_1 ∧ Cond.instanceMethod q.1 ∈ tables_1
theorem lw_p0 : lw_okq (⟨"DeckBench", "feedBytes", "(I)V"⟩, 14) := ⟨⟨by decide +kernel, by decide +kernel⟩, List.mem_of_getElem? (i := 22) (by decide +kernel), List.mem_of_getElem? (i := 359) (by decide +kernel), List.mem_of_getElem? (i := 360) (by decide +kernel)⟩
theorem lw_p1 : lw_okq (⟨"DeckBench$TextReader", "begin", "(I)V"⟩, 12) := ⟨⟨by decide +kernel, by decide +kernel⟩, List.mem_of_getElem? (i := 258) (by decide +kernel), List.mem_of_getElem? (i := 371) (by decide +kernel), List.mem_of_getElem? (i := 372) (by decide +kernel)⟩
theorem lw_p2 : lw_okq (⟨"DeckBench$TextReader", "advance", "()V"⟩, 12) := ⟨⟨by decide +kernel, by decide +kernel⟩, List.mem_of_getElem? (i := 258) (by decide +kernel), List.mem_of_getElem? (i := 391) (by decide +kernel), List.mem_of_getElem? (i := 392) (by decide +kernel)⟩
theorem lw_p3 : lw_okq (⟨"DeckBench$TextReader", "isWord", "(Ljava/lang/String;)Z"⟩, 12) := ⟨⟨by decide +kernel, by decide +kernel⟩, List.mem_of_getElem? (i := 258) (by decide +kernel), List.mem_of_getElem? (i := 399) (by decide +kernel), List.mem_of_getElem? (i := 400) (by decide +kernel)⟩
theorem lw_p4 : lw_okq (⟨"DeckBench$TextReader", "readNet", "()V"⟩, 12) := ⟨⟨by decide +kernel, by decide +kernel⟩, List.mem_of_getElem? (i := 258) (by decide +kernel), List.mem_of_getElem? (i := 451) (by decide +kernel), List.mem_of_getElem? (i := 452) (by decide +kernel)⟩
theorem lw_p5 : lw_okq (⟨"DeckBench$TextReader", "readDigit", "(II)I"⟩, 12) := ⟨⟨by decide +kernel, by decide +kernel⟩, List.mem_of_getElem? (i := 258) (by decide +kernel), List.mem_of_getElem? (i := 455) (by decide +kernel), List.mem_of_getElem? (i := 456) (by decide +kernel)⟩
theorem lw_p6 : lw_okq (⟨"DeckBench$TextReader", "refuse", "(I)V"⟩, 12) := ⟨⟨by decide +kernel, by decide +kernel⟩, List.mem_of_getElem? (i := 258) (by decide +kernel), List.mem_of_getElem? (i := 459) (by decide +kernel), List.mem_of_getElem? (i := 460) (by decide +kernel)⟩
theorem lw_p7 : lw_okq (⟨"DeckBench$TextReader", "readPairs", "(LDeckBench$Net;)V"⟩, 12) := ⟨⟨by decide +kernel, by decide +kernel⟩, List.mem_of_getElem? (i := 258) (by decide +kernel), List.mem_of_getElem? (i := 463) (by decide +kernel), List.mem_of_getElem? (i := 464) (by decide +kernel)⟩
theorem lw_p8 : lw_okq (⟨"DeckBench$TextReader", "readPair", "(LDeckBench$Net;)V"⟩, 12) := ⟨⟨by decide +kernel, by decide +kernel⟩, List.mem_of_getElem? (i := 258) (by decide +kernel), List.mem_of_getElem? (i := 467) (by decide +kernel), List.mem_of_getElem? (i := 468) (by decide +kernel)⟩
theorem lw_p9 : lw_okq (⟨"DeckBench$TextReader", "readLineEnd", "()V"⟩, 12) := ⟨⟨by decide +kernel, by decide +kernel⟩, List.mem_of_getElem? (i := 258) (by decide +kernel), List.mem_of_getElem? (i := 484) (by decide +kernel), List.mem_of_getElem? (i := 485) (by decide +kernel)⟩
theorem lw_p10 : lw_okq (⟨"DeckBench$TextReader", "isLineEnd", "()Z"⟩, 12) := ⟨⟨by decide +kernel, by decide +kernel⟩, List.mem_of_getElem? (i := 258) (by decide +kernel), List.mem_of_getElem? (i := 488) (by decide +kernel), List.mem_of_getElem? (i := 489) (by decide +kernel)⟩
theorem lw_p11 : lw_okq (⟨"DeckBench$TextReader", "readDeck", "()V"⟩, 12) := ⟨⟨by decide +kernel, by decide +kernel⟩, List.mem_of_getElem? (i := 258) (by decide +kernel), List.mem_of_getElem? (i := 493) (by decide +kernel), List.mem_of_getElem? (i := 494) (by decide +kernel)⟩
theorem lw_p12 : lw_okq (⟨"DeckBench$TextReader", "readCard", "(LDeckBench$Deck;I)V"⟩, 12) := ⟨⟨by decide +kernel, by decide +kernel⟩, List.mem_of_getElem? (i := 258) (by decide +kernel), List.mem_of_getElem? (i := 498) (by decide +kernel), List.mem_of_getElem? (i := 499) (by decide +kernel)⟩
theorem lw_p13 : lw_okq (⟨"DeckBench$TextReader", "sortDecks", "()V"⟩, 12) := ⟨⟨by decide +kernel, by decide +kernel⟩, List.mem_of_getElem? (i := 258) (by decide +kernel), List.mem_of_getElem? (i := 509) (by decide +kernel), List.mem_of_getElem? (i := 510) (by decide +kernel)⟩
theorem lw_p14 : lw_okq (⟨"DeckBench$FormSearch", "nodesOfLeastRow", "(LDeckBench$Net;I)I"⟩, 4) := ⟨⟨by decide +kernel, by decide +kernel⟩, List.mem_of_getElem? (i := 53) (by decide +kernel), List.mem_of_getElem? (i := 532) (by decide +kernel), List.mem_of_getElem? (i := 533) (by decide +kernel)⟩
theorem lw_p15 : lw_okq (⟨"DeckBench$FormSearch", "splitCells", "(LDeckBench$Net;II)V"⟩, 4) := ⟨⟨by decide +kernel, by decide +kernel⟩, List.mem_of_getElem? (i := 53) (by decide +kernel), List.mem_of_getElem? (i := 546) (by decide +kernel), List.mem_of_getElem? (i := 547) (by decide +kernel)⟩
def lw_privs_1 : List (MethodName × Nat) := [(⟨"DeckBench", "feedBytes", "(I)V"⟩, 14), (⟨"DeckBench$TextReader", "begin", "(I)V"⟩, 12), (⟨"DeckBench$TextReader", "advance", "()V"⟩, 12), (⟨"DeckBench$TextReader", "isWord", "(Ljava/lang/String;)Z"⟩, 12), (⟨"DeckBench$TextReader", "readNet", "()V"⟩, 12), (⟨"DeckBench$TextReader", "readDigit", "(II)I"⟩, 12), (⟨"DeckBench$TextReader", "refuse", "(I)V"⟩, 12), (⟨"DeckBench$TextReader", "readPairs", "(LDeckBench$Net;)V"⟩, 12), (⟨"DeckBench$TextReader", "readPair", "(LDeckBench$Net;)V"⟩, 12), (⟨"DeckBench$TextReader", "readLineEnd", "()V"⟩, 12), (⟨"DeckBench$TextReader", "isLineEnd", "()Z"⟩, 12), (⟨"DeckBench$TextReader", "readDeck", "()V"⟩, 12), (⟨"DeckBench$TextReader", "readCard", "(LDeckBench$Deck;I)V"⟩, 12), (⟨"DeckBench$TextReader", "sortDecks", "()V"⟩, 12), (⟨"DeckBench$FormSearch", "nodesOfLeastRow", "(LDeckBench$Net;I)I"⟩, 4), (⟨"DeckBench$FormSearch", "splitCells", "(LDeckBench$Net;II)V"⟩, 4)]
theorem lw_r1 : ∀ q ∈ lw_privs_1, lw_okq q := List.forall_mem_cons.mpr ⟨lw_p0, List.forall_mem_cons.mpr ⟨lw_p1, List.forall_mem_cons.mpr ⟨lw_p2, List.forall_mem_cons.mpr ⟨lw_p3, List.forall_mem_cons.mpr ⟨lw_p4, List.forall_mem_cons.mpr ⟨lw_p5, List.forall_mem_cons.mpr ⟨lw_p6, List.forall_mem_cons.mpr ⟨lw_p7, List.forall_mem_cons.mpr ⟨lw_p8, List.forall_mem_cons.mpr ⟨lw_p9, List.forall_mem_cons.mpr ⟨lw_p10, List.forall_mem_cons.mpr ⟨lw_p11, List.forall_mem_cons.mpr ⟨lw_p12, List.forall_mem_cons.mpr ⟨lw_p13, List.forall_mem_cons.mpr ⟨lw_p14, List.forall_mem_cons.mpr ⟨lw_p15, fun _ h => absurd h List.not_mem_nil⟩⟩⟩⟩⟩⟩⟩⟩⟩⟩⟩⟩⟩⟩⟩⟩
theorem lw_p16 : lw_okq (⟨"DeckBench$FormSearch", "addCell", "(II)V"⟩, 4) := ⟨⟨by decide +kernel, by decide +kernel⟩, List.mem_of_getElem? (i := 53) (by decide +kernel), List.mem_of_getElem? (i := 550) (by decide +kernel), List.mem_of_getElem? (i := 551) (by decide +kernel)⟩
theorem lw_p17 : lw_okq (⟨"DeckBench", "isNoNode", "(II)Z"⟩, 14) := ⟨⟨by decide +kernel, by decide +kernel⟩, List.mem_of_getElem? (i := 22) (by decide +kernel), List.mem_of_getElem? (i := 585) (by decide +kernel), List.mem_of_getElem? (i := 586) (by decide +kernel)⟩
theorem lw_p18 : lw_okq (⟨"DeckBench$History", "keep", "(III[I)V"⟩, 3) := ⟨⟨by decide +kernel, by decide +kernel⟩, List.mem_of_getElem? (i := 34) (by decide +kernel), List.mem_of_getElem? (i := 596) (by decide +kernel), List.mem_of_getElem? (i := 597) (by decide +kernel)⟩
theorem lw_p19 : lw_okq (⟨"DeckBench", "isNoCard", "(II)Z"⟩, 14) := ⟨⟨by decide +kernel, by decide +kernel⟩, List.mem_of_getElem? (i := 22) (by decide +kernel), List.mem_of_getElem? (i := 677) (by decide +kernel), List.mem_of_getElem? (i := 678) (by decide +kernel)⟩
theorem lw_p20 : lw_okq (⟨"DeckBench", "isNoDeck", "(I)Z"⟩, 14) := ⟨⟨by decide +kernel, by decide +kernel⟩, List.mem_of_getElem? (i := 22) (by decide +kernel), List.mem_of_getElem? (i := 690) (by decide +kernel), List.mem_of_getElem? (i := 691) (by decide +kernel)⟩
theorem lw_p21 : lw_okq (⟨"DeckBench$Solver", "hasDeck", "(LDeckBench$Net;LDeckBench$Deck;)Z"⟩, 8) := ⟨⟨by decide +kernel, by decide +kernel⟩, List.mem_of_getElem? (i := 170) (by decide +kernel), List.mem_of_getElem? (i := 713) (by decide +kernel), List.mem_of_getElem? (i := 714) (by decide +kernel)⟩
theorem lw_p22 : lw_okq (⟨"DeckBench$Solver", "takeCard", "(II)Z"⟩, 8) := ⟨⟨by decide +kernel, by decide +kernel⟩, List.mem_of_getElem? (i := 170) (by decide +kernel), List.mem_of_getElem? (i := 719) (by decide +kernel), List.mem_of_getElem? (i := 720) (by decide +kernel)⟩
theorem lw_p23 : lw_okq (⟨"DeckBench$Solver", "addFound", "(I)V"⟩, 8) := ⟨⟨by decide +kernel, by decide +kernel⟩, List.mem_of_getElem? (i := 170) (by decide +kernel), List.mem_of_getElem? (i := 727) (by decide +kernel), List.mem_of_getElem? (i := 728) (by decide +kernel)⟩
theorem lw_p24 : lw_okq (⟨"DeckBench$SymmetrySearch", "mayGo", "(LDeckBench$Net;II)Z"⟩, 2) := ⟨⟨by decide +kernel, by decide +kernel⟩, List.mem_of_getElem? (i := 72) (by decide +kernel), List.mem_of_getElem? (i := 760) (by decide +kernel), List.mem_of_getElem? (i := 761) (by decide +kernel)⟩
theorem lw_p25 : lw_okq (⟨"DeckBench", "countTwins", "(LDeckBench$Net;)I"⟩, 14) := ⟨⟨by decide +kernel, by decide +kernel⟩, List.mem_of_getElem? (i := 22) (by decide +kernel), List.mem_of_getElem? (i := 785) (by decide +kernel), List.mem_of_getElem? (i := 786) (by decide +kernel)⟩
theorem lw_p26 : lw_okq (⟨"DeckBench$SmallNets", "askFor", "(II)V"⟩, 6) := ⟨⟨by decide +kernel, by decide +kernel⟩, List.mem_of_getElem? (i := 204) (by decide +kernel), List.mem_of_getElem? (i := 835) (by decide +kernel), List.mem_of_getElem? (i := 836) (by decide +kernel)⟩
theorem lw_p27 : lw_okq (⟨"DeckBench$SmallNets", "isInAnother", "(III)Z"⟩, 6) := ⟨⟨by decide +kernel, by decide +kernel⟩, List.mem_of_getElem? (i := 204) (by decide +kernel), List.mem_of_getElem? (i := 841) (by decide +kernel), List.mem_of_getElem? (i := 842) (by decide +kernel)⟩
theorem lw_p28 : lw_okq (⟨"DeckBench$SmallNets", "hasChosen", "(LDeckBench$Deck;I)Z"⟩, 6) := ⟨⟨by decide +kernel, by decide +kernel⟩, List.mem_of_getElem? (i := 204) (by decide +kernel), List.mem_of_getElem? (i := 845) (by decide +kernel), List.mem_of_getElem? (i := 846) (by decide +kernel)⟩
theorem lw_p29 : lw_okq (⟨"DeckBench$Figures", "hasRing", "(LDeckBench$Net;)Z"⟩, 6) := ⟨⟨by decide +kernel, by decide +kernel⟩, List.mem_of_getElem? (i := 85) (by decide +kernel), List.mem_of_getElem? (i := 929) (by decide +kernel), List.mem_of_getElem? (i := 930) (by decide +kernel)⟩
theorem lw_p30 : lw_okq (⟨"DeckBench$Figures", "lengthenRows", "(LDeckBench$Net;I)V"⟩, 6) := ⟨⟨by decide +kernel, by decide +kernel⟩, List.mem_of_getElem? (i := 85) (by decide +kernel), List.mem_of_getElem? (i := 933) (by decide +kernel), List.mem_of_getElem? (i := 934) (by decide +kernel)⟩
theorem lw_p31 : lw_okq (⟨"DeckBench$Figures", "clearColumn", "(IIJ)V"⟩, 6) := ⟨⟨by decide +kernel, by decide +kernel⟩, List.mem_of_getElem? (i := 85) (by decide +kernel), List.mem_of_getElem? (i := 949) (by decide +kernel), List.mem_of_getElem? (i := 950) (by decide +kernel)⟩
def lw_privs_2 : List (MethodName × Nat) := [(⟨"DeckBench$FormSearch", "addCell", "(II)V"⟩, 4), (⟨"DeckBench", "isNoNode", "(II)Z"⟩, 14), (⟨"DeckBench$History", "keep", "(III[I)V"⟩, 3), (⟨"DeckBench", "isNoCard", "(II)Z"⟩, 14), (⟨"DeckBench", "isNoDeck", "(I)Z"⟩, 14), (⟨"DeckBench$Solver", "hasDeck", "(LDeckBench$Net;LDeckBench$Deck;)Z"⟩, 8), (⟨"DeckBench$Solver", "takeCard", "(II)Z"⟩, 8), (⟨"DeckBench$Solver", "addFound", "(I)V"⟩, 8), (⟨"DeckBench$SymmetrySearch", "mayGo", "(LDeckBench$Net;II)Z"⟩, 2), (⟨"DeckBench", "countTwins", "(LDeckBench$Net;)I"⟩, 14), (⟨"DeckBench$SmallNets", "askFor", "(II)V"⟩, 6), (⟨"DeckBench$SmallNets", "isInAnother", "(III)Z"⟩, 6), (⟨"DeckBench$SmallNets", "hasChosen", "(LDeckBench$Deck;I)Z"⟩, 6), (⟨"DeckBench$Figures", "hasRing", "(LDeckBench$Net;)Z"⟩, 6), (⟨"DeckBench$Figures", "lengthenRows", "(LDeckBench$Net;I)V"⟩, 6), (⟨"DeckBench$Figures", "clearColumn", "(IIJ)V"⟩, 6)]
theorem lw_r2 : ∀ q ∈ lw_privs_2, lw_okq q := List.forall_mem_cons.mpr ⟨lw_p16, List.forall_mem_cons.mpr ⟨lw_p17, List.forall_mem_cons.mpr ⟨lw_p18, List.forall_mem_cons.mpr ⟨lw_p19, List.forall_mem_cons.mpr ⟨lw_p20, List.forall_mem_cons.mpr ⟨lw_p21, List.forall_mem_cons.mpr ⟨lw_p22, List.forall_mem_cons.mpr ⟨lw_p23, List.forall_mem_cons.mpr ⟨lw_p24, List.forall_mem_cons.mpr ⟨lw_p25, List.forall_mem_cons.mpr ⟨lw_p26, List.forall_mem_cons.mpr ⟨lw_p27, List.forall_mem_cons.mpr ⟨lw_p28, List.forall_mem_cons.mpr ⟨lw_p29, List.forall_mem_cons.mpr ⟨lw_p30, List.forall_mem_cons.mpr ⟨lw_p31, fun _ h => absurd h List.not_mem_nil⟩⟩⟩⟩⟩⟩⟩⟩⟩⟩⟩⟩⟩⟩⟩⟩
theorem lw_p32 : lw_okq (⟨"DeckBench$Figures", "copyWithDiagonal", "(II)V"⟩, 6) := ⟨⟨by decide +kernel, by decide +kernel⟩, List.mem_of_getElem? (i := 85) (by decide +kernel), List.mem_of_getElem? (i := 961) (by decide +kernel), List.mem_of_getElem? (i := 962) (by decide +kernel)⟩
theorem lw_p33 : lw_okq (⟨"DeckBench$Figures", "multiply", "(LDeckBench$Net;)V"⟩, 6) := ⟨⟨by decide +kernel, by decide +kernel⟩, List.mem_of_getElem? (i := 85) (by decide +kernel), List.mem_of_getElem? (i := 966) (by decide +kernel), List.mem_of_getElem? (i := 967) (by decide +kernel)⟩
theorem lw_p34 : lw_okq (⟨"DeckBench$Figures", "trace", "(I)I"⟩, 6) := ⟨⟨by decide +kernel, by decide +kernel⟩, List.mem_of_getElem? (i := 85) (by decide +kernel), List.mem_of_getElem? (i := 970) (by decide +kernel), List.mem_of_getElem? (i := 971) (by decide +kernel)⟩
theorem lw_p35 : lw_okq (⟨"DeckBench$Solver", "hasWholeTriples", "(LDeckBench$Deck;)Z"⟩, 8) := ⟨⟨by decide +kernel, by decide +kernel⟩, List.mem_of_getElem? (i := 170) (by decide +kernel), List.mem_of_getElem? (i := 1053) (by decide +kernel), List.mem_of_getElem? (i := 1054) (by decide +kernel)⟩
theorem lw_p36 : lw_okq (⟨"DeckBench$Solver", "addTriples", "()V"⟩, 8) := ⟨⟨by decide +kernel, by decide +kernel⟩, List.mem_of_getElem? (i := 170) (by decide +kernel), List.mem_of_getElem? (i := 1057) (by decide +kernel), List.mem_of_getElem? (i := 1058) (by decide +kernel)⟩
theorem lw_p37 : lw_okq (⟨"DeckBench", "countSlotsWithNodes", "()I"⟩, 14) := ⟨⟨by decide +kernel, by decide +kernel⟩, List.mem_of_getElem? (i := 22) (by decide +kernel), List.mem_of_getElem? (i := 1077) (by decide +kernel), List.mem_of_getElem? (i := 1078) (by decide +kernel)⟩
theorem lw_p38 : lw_okq (⟨"DeckBench", "countDecks", "()I"⟩, 14) := ⟨⟨by decide +kernel, by decide +kernel⟩, List.mem_of_getElem? (i := 22) (by decide +kernel), List.mem_of_getElem? (i := 1081) (by decide +kernel), List.mem_of_getElem? (i := 1082) (by decide +kernel)⟩
theorem lw_p39 : lw_okq (⟨"DeckBenchModel", "peek", "()I"⟩, 31) := ⟨⟨by decide +kernel, by decide +kernel⟩, List.mem_of_getElem? (i := 1089) (by decide +kernel), List.mem_of_getElem? (i := 1200) (by decide +kernel), List.mem_of_getElem? (i := 1201) (by decide +kernel)⟩
theorem lw_p40 : lw_okq (⟨"DeckBenchModel", "lineRead", "()V"⟩, 31) := ⟨⟨by decide +kernel, by decide +kernel⟩, List.mem_of_getElem? (i := 1089) (by decide +kernel), List.mem_of_getElem? (i := 1204) (by decide +kernel), List.mem_of_getElem? (i := 1205) (by decide +kernel)⟩
theorem lw_p41 : lw_okq (⟨"DeckBenchModel", "wordHere", "()I"⟩, 31) := ⟨⟨by decide +kernel, by decide +kernel⟩, List.mem_of_getElem? (i := 1089) (by decide +kernel), List.mem_of_getElem? (i := 1208) (by decide +kernel), List.mem_of_getElem? (i := 1209) (by decide +kernel)⟩
theorem lw_p42 : lw_okq (⟨"DeckBenchModel", "lettersHere", "()I"⟩, 31) := ⟨⟨by decide +kernel, by decide +kernel⟩, List.mem_of_getElem? (i := 1089) (by decide +kernel), List.mem_of_getElem? (i := 1217) (by decide +kernel), List.mem_of_getElem? (i := 1218) (by decide +kernel)⟩
theorem lw_p43 : lw_okq (⟨"DeckBenchModel", "fails", "(II)V"⟩, 31) := ⟨⟨by decide +kernel, by decide +kernel⟩, List.mem_of_getElem? (i := 1089) (by decide +kernel), List.mem_of_getElem? (i := 1224) (by decide +kernel), List.mem_of_getElem? (i := 1225) (by decide +kernel)⟩
theorem lw_p44 : lw_okq (⟨"DeckBenchModel", "numeral", "(III)I"⟩, 31) := ⟨⟨by decide +kernel, by decide +kernel⟩, List.mem_of_getElem? (i := 1089) (by decide +kernel), List.mem_of_getElem? (i := 1228) (by decide +kernel), List.mem_of_getElem? (i := 1229) (by decide +kernel)⟩
theorem lw_p45 : lw_okq (⟨"DeckBenchModel", "pairsRead", "(I)I"⟩, 31) := ⟨⟨by decide +kernel, by decide +kernel⟩, List.mem_of_getElem? (i := 1089) (by decide +kernel), List.mem_of_getElem? (i := 1237) (by decide +kernel), List.mem_of_getElem? (i := 1238) (by decide +kernel)⟩
theorem lw_p46 : lw_okq (⟨"DeckBenchModel", "becomes", "(III)V"⟩, 31) := ⟨⟨by decide +kernel, by decide +kernel⟩, List.mem_of_getElem? (i := 1089) (by decide +kernel), List.mem_of_getElem? (i := 1247) (by decide +kernel), List.mem_of_getElem? (i := 1248) (by decide +kernel)⟩
theorem lw_p47 : lw_okq (⟨"DeckBenchModel", "deckRead", "(I)V"⟩, 31) := ⟨⟨by decide +kernel, by decide +kernel⟩, List.mem_of_getElem? (i := 1089) (by decide +kernel), List.mem_of_getElem? (i := 1251) (by decide +kernel), List.mem_of_getElem? (i := 1252) (by decide +kernel)⟩
def lw_privs_3 : List (MethodName × Nat) := [(⟨"DeckBench$Figures", "copyWithDiagonal", "(II)V"⟩, 6), (⟨"DeckBench$Figures", "multiply", "(LDeckBench$Net;)V"⟩, 6), (⟨"DeckBench$Figures", "trace", "(I)I"⟩, 6), (⟨"DeckBench$Solver", "hasWholeTriples", "(LDeckBench$Deck;)Z"⟩, 8), (⟨"DeckBench$Solver", "addTriples", "()V"⟩, 8), (⟨"DeckBench", "countSlotsWithNodes", "()I"⟩, 14), (⟨"DeckBench", "countDecks", "()I"⟩, 14), (⟨"DeckBenchModel", "peek", "()I"⟩, 31), (⟨"DeckBenchModel", "lineRead", "()V"⟩, 31), (⟨"DeckBenchModel", "wordHere", "()I"⟩, 31), (⟨"DeckBenchModel", "lettersHere", "()I"⟩, 31), (⟨"DeckBenchModel", "fails", "(II)V"⟩, 31), (⟨"DeckBenchModel", "numeral", "(III)I"⟩, 31), (⟨"DeckBenchModel", "pairsRead", "(I)I"⟩, 31), (⟨"DeckBenchModel", "becomes", "(III)V"⟩, 31), (⟨"DeckBenchModel", "deckRead", "(I)V"⟩, 31)]
theorem lw_r3 : ∀ q ∈ lw_privs_3, lw_okq q := List.forall_mem_cons.mpr ⟨lw_p32, List.forall_mem_cons.mpr ⟨lw_p33, List.forall_mem_cons.mpr ⟨lw_p34, List.forall_mem_cons.mpr ⟨lw_p35, List.forall_mem_cons.mpr ⟨lw_p36, List.forall_mem_cons.mpr ⟨lw_p37, List.forall_mem_cons.mpr ⟨lw_p38, List.forall_mem_cons.mpr ⟨lw_p39, List.forall_mem_cons.mpr ⟨lw_p40, List.forall_mem_cons.mpr ⟨lw_p41, List.forall_mem_cons.mpr ⟨lw_p42, List.forall_mem_cons.mpr ⟨lw_p43, List.forall_mem_cons.mpr ⟨lw_p44, List.forall_mem_cons.mpr ⟨lw_p45, List.forall_mem_cons.mpr ⟨lw_p46, List.forall_mem_cons.mpr ⟨lw_p47, fun _ h => absurd h List.not_mem_nil⟩⟩⟩⟩⟩⟩⟩⟩⟩⟩⟩⟩⟩⟩⟩⟩
theorem lw_p48 : lw_okq (⟨"DeckBenchModel", "form", "(II)I"⟩, 31) := ⟨⟨by decide +kernel, by decide +kernel⟩, List.mem_of_getElem? (i := 1089) (by decide +kernel), List.mem_of_getElem? (i := 1255) (by decide +kernel), List.mem_of_getElem? (i := 1256) (by decide +kernel)⟩
theorem lw_p49 : lw_okq (⟨"DeckBenchModel", "numbers", "(II)V"⟩, 31) := ⟨⟨by decide +kernel, by decide +kernel⟩, List.mem_of_getElem? (i := 1089) (by decide +kernel), List.mem_of_getElem? (i := 1259) (by decide +kernel), List.mem_of_getElem? (i := 1260) (by decide +kernel)⟩
theorem lw_p50 : lw_okq (⟨"DeckBenchModel", "goes", "(IIIII)V"⟩, 31) := ⟨⟨by decide +kernel, by decide +kernel⟩, List.mem_of_getElem? (i := 1089) (by decide +kernel), List.mem_of_getElem? (i := 1264) (by decide +kernel), List.mem_of_getElem? (i := 1265) (by decide +kernel)⟩
theorem lw_p51 : lw_okq (⟨"DeckBenchModel", "laysDeck", "(II)V"⟩, 31) := ⟨⟨by decide +kernel, by decide +kernel⟩, List.mem_of_getElem? (i := 1089) (by decide +kernel), List.mem_of_getElem? (i := 1268) (by decide +kernel), List.mem_of_getElem? (i := 1269) (by decide +kernel)⟩
theorem lw_p52 : lw_okq (⟨"DeckBenchModel", "isNode", "(II)Z"⟩, 31) := ⟨⟨by decide +kernel, by decide +kernel⟩, List.mem_of_getElem? (i := 1089) (by decide +kernel), List.mem_of_getElem? (i := 1287) (by decide +kernel), List.mem_of_getElem? (i := 1288) (by decide +kernel)⟩
theorem lw_p53 : lw_okq (⟨"DeckBenchModel", "nodes", "(I)I"⟩, 31) := ⟨⟨by decide +kernel, by decide +kernel⟩, List.mem_of_getElem? (i := 1089) (by decide +kernel), List.mem_of_getElem? (i := 1291) (by decide +kernel), List.mem_of_getElem? (i := 1292) (by decide +kernel)⟩
theorem lw_p54 : lw_okq (⟨"DeckBenchModel", "remembers", "()V"⟩, 31) := ⟨⟨by decide +kernel, by decide +kernel⟩, List.mem_of_getElem? (i := 1089) (by decide +kernel), List.mem_of_getElem? (i := 1295) (by decide +kernel), List.mem_of_getElem? (i := 1296) (by decide +kernel)⟩
theorem lw_p55 : lw_okq (⟨"DeckBenchModel", "code", "(I)I"⟩, 31) := ⟨⟨by decide +kernel, by decide +kernel⟩, List.mem_of_getElem? (i := 1089) (by decide +kernel), List.mem_of_getElem? (i := 1299) (by decide +kernel), List.mem_of_getElem? (i := 1300) (by decide +kernel)⟩
theorem lw_p56 : lw_okq (⟨"DeckBenchModel", "formOf", "(I)I"⟩, 31) := ⟨⟨by decide +kernel, by decide +kernel⟩, List.mem_of_getElem? (i := 1089) (by decide +kernel), List.mem_of_getElem? (i := 1332) (by decide +kernel), List.mem_of_getElem? (i := 1333) (by decide +kernel)⟩
theorem lw_p57 : lw_okq (⟨"DeckBenchModel", "deals", "(II[I)V"⟩, 31) := ⟨⟨by decide +kernel, by decide +kernel⟩, List.mem_of_getElem? (i := 1089) (by decide +kernel), List.mem_of_getElem? (i := 1341) (by decide +kernel), List.mem_of_getElem? (i := 1342) (by decide +kernel)⟩
theorem lw_p58 : lw_okq (⟨"DeckBenchModel", "isCard", "(II)Z"⟩, 31) := ⟨⟨by decide +kernel, by decide +kernel⟩, List.mem_of_getElem? (i := 1089) (by decide +kernel), List.mem_of_getElem? (i := 1352) (by decide +kernel), List.mem_of_getElem? (i := 1353) (by decide +kernel)⟩
theorem lw_p59 : lw_okq (⟨"DeckBenchModel", "deckOf", "(I)I"⟩, 31) := ⟨⟨by decide +kernel, by decide +kernel⟩, List.mem_of_getElem? (i := 1089) (by decide +kernel), List.mem_of_getElem? (i := 1356) (by decide +kernel), List.mem_of_getElem? (i := 1357) (by decide +kernel)⟩
theorem lw_p60 : lw_okq (⟨"DeckBenchModel", "takesDeck", "(I)V"⟩, 31) := ⟨⟨by decide +kernel, by decide +kernel⟩, List.mem_of_getElem? (i := 1089) (by decide +kernel), List.mem_of_getElem? (i := 1360) (by decide +kernel), List.mem_of_getElem? (i := 1361) (by decide +kernel)⟩
theorem lw_p61 : lw_okq (⟨"DeckBenchModel", "cardOf", "(II)I"⟩, 31) := ⟨⟨by decide +kernel, by decide +kernel⟩, List.mem_of_getElem? (i := 1089) (by decide +kernel), List.mem_of_getElem? (i := 1364) (by decide +kernel), List.mem_of_getElem? (i := 1365) (by decide +kernel)⟩
theorem lw_p62 : lw_okq (⟨"DeckBenchModel", "answersOf", "(I)I"⟩, 31) := ⟨⟨by decide +kernel, by decide +kernel⟩, List.mem_of_getElem? (i := 1089) (by decide +kernel), List.mem_of_getElem? (i := 1372) (by decide +kernel), List.mem_of_getElem? (i := 1373) (by decide +kernel)⟩
theorem lw_p63 : lw_okq (⟨"DeckBenchModel", "twins", "(I)I"⟩, 31) := ⟨⟨by decide +kernel, by decide +kernel⟩, List.mem_of_getElem? (i := 1089) (by decide +kernel), List.mem_of_getElem? (i := 1391) (by decide +kernel), List.mem_of_getElem? (i := 1392) (by decide +kernel)⟩
def lw_privs_4 : List (MethodName × Nat) := [(⟨"DeckBenchModel", "form", "(II)I"⟩, 31), (⟨"DeckBenchModel", "numbers", "(II)V"⟩, 31), (⟨"DeckBenchModel", "goes", "(IIIII)V"⟩, 31), (⟨"DeckBenchModel", "laysDeck", "(II)V"⟩, 31), (⟨"DeckBenchModel", "isNode", "(II)Z"⟩, 31), (⟨"DeckBenchModel", "nodes", "(I)I"⟩, 31), (⟨"DeckBenchModel", "remembers", "()V"⟩, 31), (⟨"DeckBenchModel", "code", "(I)I"⟩, 31), (⟨"DeckBenchModel", "formOf", "(I)I"⟩, 31), (⟨"DeckBenchModel", "deals", "(II[I)V"⟩, 31), (⟨"DeckBenchModel", "isCard", "(II)Z"⟩, 31), (⟨"DeckBenchModel", "deckOf", "(I)I"⟩, 31), (⟨"DeckBenchModel", "takesDeck", "(I)V"⟩, 31), (⟨"DeckBenchModel", "cardOf", "(II)I"⟩, 31), (⟨"DeckBenchModel", "answersOf", "(I)I"⟩, 31), (⟨"DeckBenchModel", "twins", "(I)I"⟩, 31)]
theorem lw_r4 : ∀ q ∈ lw_privs_4, lw_okq q := List.forall_mem_cons.mpr ⟨lw_p48, List.forall_mem_cons.mpr ⟨lw_p49, List.forall_mem_cons.mpr ⟨lw_p50, List.forall_mem_cons.mpr ⟨lw_p51, List.forall_mem_cons.mpr ⟨lw_p52, List.forall_mem_cons.mpr ⟨lw_p53, List.forall_mem_cons.mpr ⟨lw_p54, List.forall_mem_cons.mpr ⟨lw_p55, List.forall_mem_cons.mpr ⟨lw_p56, List.forall_mem_cons.mpr ⟨lw_p57, List.forall_mem_cons.mpr ⟨lw_p58, List.forall_mem_cons.mpr ⟨lw_p59, List.forall_mem_cons.mpr ⟨lw_p60, List.forall_mem_cons.mpr ⟨lw_p61, List.forall_mem_cons.mpr ⟨lw_p62, List.forall_mem_cons.mpr ⟨lw_p63, fun _ h => absurd h List.not_mem_nil⟩⟩⟩⟩⟩⟩⟩⟩⟩⟩⟩⟩⟩⟩⟩⟩
theorem lw_p64 : lw_okq (⟨"DeckBenchModel", "orbits", "(I)I"⟩, 31) := ⟨⟨by decide +kernel, by decide +kernel⟩, List.mem_of_getElem? (i := 1089) (by decide +kernel), List.mem_of_getElem? (i := 1395) (by decide +kernel), List.mem_of_getElem? (i := 1396) (by decide +kernel)⟩
theorem lw_p65 : lw_okq (⟨"DeckBenchModel", "partsOf", "(IIII)I"⟩, 31) := ⟨⟨by decide +kernel, by decide +kernel⟩, List.mem_of_getElem? (i := 1089) (by decide +kernel), List.mem_of_getElem? (i := 1412) (by decide +kernel), List.mem_of_getElem? (i := 1413) (by decide +kernel)⟩
theorem lw_p66 : lw_okq (⟨"DeckBenchModel", "laysAll", "(I)V"⟩, 31) := ⟨⟨by decide +kernel, by decide +kernel⟩, List.mem_of_getElem? (i := 1089) (by decide +kernel), List.mem_of_getElem? (i := 1420) (by decide +kernel), List.mem_of_getElem? (i := 1421) (by decide +kernel)⟩
theorem lw_p67 : lw_okq (⟨"DeckBenchModel", "tells", "(III)Z"⟩, 31) := ⟨⟨by decide +kernel, by decide +kernel⟩, List.mem_of_getElem? (i := 1089) (by decide +kernel), List.mem_of_getElem? (i := 1424) (by decide +kernel), List.mem_of_getElem? (i := 1425) (by decide +kernel)⟩
theorem lw_p68 : lw_okq (⟨"DeckBenchModel", "hasAll", "(III)Z"⟩, 31) := ⟨⟨by decide +kernel, by decide +kernel⟩, List.mem_of_getElem? (i := 1089) (by decide +kernel), List.mem_of_getElem? (i := 1428) (by decide +kernel), List.mem_of_getElem? (i := 1429) (by decide +kernel)⟩
theorem lw_p69 : lw_okq (⟨"DeckBenchModel", "laysLines", "(II[I)I"⟩, 31) := ⟨⟨by decide +kernel, by decide +kernel⟩, List.mem_of_getElem? (i := 1089) (by decide +kernel), List.mem_of_getElem? (i := 1436) (by decide +kernel), List.mem_of_getElem? (i := 1437) (by decide +kernel)⟩
theorem lw_p70 : lw_okq (⟨"DeckBenchModel", "areRivals", "(III)Z"⟩, 31) := ⟨⟨by decide +kernel, by decide +kernel⟩, List.mem_of_getElem? (i := 1089) (by decide +kernel), List.mem_of_getElem? (i := 1440) (by decide +kernel), List.mem_of_getElem? (i := 1441) (by decide +kernel)⟩
theorem lw_p71 : lw_okq (⟨"DeckBenchModel", "isOf", "(III)Z"⟩, 31) := ⟨⟨by decide +kernel, by decide +kernel⟩, List.mem_of_getElem? (i := 1089) (by decide +kernel), List.mem_of_getElem? (i := 1455) (by decide +kernel), List.mem_of_getElem? (i := 1456) (by decide +kernel)⟩
theorem lw_p72 : lw_okq (⟨"DeckBenchModel", "laysTerms", "(II)V"⟩, 31) := ⟨⟨by decide +kernel, by decide +kernel⟩, List.mem_of_getElem? (i := 1089) (by decide +kernel), List.mem_of_getElem? (i := 1483) (by decide +kernel), List.mem_of_getElem? (i := 1484) (by decide +kernel)⟩
theorem lw_p73 : lw_okq (⟨"DeckBenchModel", "toldLines", "(I)I"⟩, 31) := ⟨⟨by decide +kernel, by decide +kernel⟩, List.mem_of_getElem? (i := 1089) (by decide +kernel), List.mem_of_getElem? (i := 1508) (by decide +kernel), List.mem_of_getElem? (i := 1509) (by decide +kernel)⟩
theorem lw_p74 : lw_okq (⟨"DeckBenchModel", "toldOf", "(III)I"⟩, 31) := ⟨⟨by decide +kernel, by decide +kernel⟩, List.mem_of_getElem? (i := 1089) (by decide +kernel), List.mem_of_getElem? (i := 1520) (by decide +kernel), List.mem_of_getElem? (i := 1521) (by decide +kernel)⟩
theorem lw_p75 : lw_okq (⟨"DeckBenchModel", "why", "(I)I"⟩, 31) := ⟨⟨by decide +kernel, by decide +kernel⟩, List.mem_of_getElem? (i := 1089) (by decide +kernel), List.mem_of_getElem? (i := 1528) (by decide +kernel), List.mem_of_getElem? (i := 1529) (by decide +kernel)⟩
def lw_privs_5 : List (MethodName × Nat) := [(⟨"DeckBenchModel", "orbits", "(I)I"⟩, 31), (⟨"DeckBenchModel", "partsOf", "(IIII)I"⟩, 31), (⟨"DeckBenchModel", "laysAll", "(I)V"⟩, 31), (⟨"DeckBenchModel", "tells", "(III)Z"⟩, 31), (⟨"DeckBenchModel", "hasAll", "(III)Z"⟩, 31), (⟨"DeckBenchModel", "laysLines", "(II[I)I"⟩, 31), (⟨"DeckBenchModel", "areRivals", "(III)Z"⟩, 31), (⟨"DeckBenchModel", "isOf", "(III)Z"⟩, 31), (⟨"DeckBenchModel", "laysTerms", "(II)V"⟩, 31), (⟨"DeckBenchModel", "toldLines", "(I)I"⟩, 31), (⟨"DeckBenchModel", "toldOf", "(III)I"⟩, 31), (⟨"DeckBenchModel", "why", "(I)I"⟩, 31)]
theorem lw_r5 : ∀ q ∈ lw_privs_5, lw_okq q := List.forall_mem_cons.mpr ⟨lw_p64, List.forall_mem_cons.mpr ⟨lw_p65, List.forall_mem_cons.mpr ⟨lw_p66, List.forall_mem_cons.mpr ⟨lw_p67, List.forall_mem_cons.mpr ⟨lw_p68, List.forall_mem_cons.mpr ⟨lw_p69, List.forall_mem_cons.mpr ⟨lw_p70, List.forall_mem_cons.mpr ⟨lw_p71, List.forall_mem_cons.mpr ⟨lw_p72, List.forall_mem_cons.mpr ⟨lw_p73, List.forall_mem_cons.mpr ⟨lw_p74, List.forall_mem_cons.mpr ⟨lw_p75, fun _ h => absurd h List.not_mem_nil⟩⟩⟩⟩⟩⟩⟩⟩⟩⟩⟩⟩
def lw_privs : List (MethodName × Nat) := lw_privs_1 ++ (lw_privs_2 ++ (lw_privs_3 ++ (lw_privs_4 ++ (lw_privs_5))))
def lw_tbl : List Cond := k2_sels lw_privs ++ tables_1
theorem lw_privs_ok : ∀ q ∈ lw_privs, lw_okq q := by
  show ∀ q ∈ lw_privs_1 ++ (lw_privs_2 ++ (lw_privs_3 ++ (lw_privs_4 ++ (lw_privs_5)))), lw_okq q
  exact List.forall_mem_append.mpr ⟨lw_r1, List.forall_mem_append.mpr ⟨lw_r2, List.forall_mem_append.mpr ⟨lw_r3, List.forall_mem_append.mpr ⟨lw_r4, lw_r5⟩⟩⟩⟩
end
section
def RX0 : String := "DeckBench$Dealer"
def TX0 : u_T := fun k => match k with
  | 0 => ("DeckBench$Dealer", "forms", "LDeckBench$FormSearch;", true)
  | 1 => ("DeckBench$Dealer", "rest", "LDeckBench$Net;", true)
  | _ => ("DeckBench$Dealer", "lineDeck", "LDeckBench$LineDeck;", true)
def tyX0 : Nat → FieldType := fun k => match k with
  | 0 => .object "DeckBench$FormSearch"
  | 1 => .object "DeckBench$Net"
  | _ => .object "DeckBench$LineDeck"
theorem nmX0 : ∀ a, a < 3 → ∀ b, b < 3 → a ≠ b → (TX0 a).2.1 ≠ (TX0 b).2.1 := by decide +kernel
theorem tyX0_ok : ∀ k, k < 3 → parseFieldDescriptor (TX0 k).2.2.1 = some (tyX0 k) := by decide +kernel
def RX1 : String := "DeckBench$Deck"
def TX1 : u_T := fun k => match k with
  | 0 => ("DeckBench$Deck", "size", "I", false)
  | _ => ("DeckBench$Deck", "cards", "[I", true)
def tyX1 : Nat → FieldType := fun k => match k with
  | 0 => .int
  | _ => .array .int
theorem nmX1 : ∀ a, a < 2 → ∀ b, b < 2 → a ≠ b → (TX1 a).2.1 ≠ (TX1 b).2.1 := by decide +kernel
theorem tyX1_ok : ∀ k, k < 2 → parseFieldDescriptor (TX1 k).2.2.1 = some (tyX1 k) := by decide +kernel
def RX2 : String := "DeckBench$Figures"
def TX2 : u_T := fun k => match k with
  | 0 => ("DeckBench$Figures", "forms", "LDeckBench$FormSearch;", true)
  | 1 => ("DeckBench$Figures", "inverse", "LDeckBench$Net;", true)
  | 2 => ("DeckBench$Figures", "rowEnds", "[I", true)
  | 3 => ("DeckBench$Figures", "matrix", "[I", true)
  | 4 => ("DeckBench$Figures", "product", "[I", true)
  | _ => ("DeckBench$Figures", "minor", "[J", true)
def tyX2 : Nat → FieldType := fun k => match k with
  | 0 => .object "DeckBench$FormSearch"
  | 1 => .object "DeckBench$Net"
  | 2 => .array .int
  | 3 => .array .int
  | 4 => .array .int
  | _ => .array .long
theorem nmX2 : ∀ a, a < 6 → ∀ b, b < 6 → a ≠ b → (TX2 a).2.1 ≠ (TX2 b).2.1 := by decide +kernel
theorem tyX2_ok : ∀ k, k < 6 → parseFieldDescriptor (TX2 k).2.2.1 = some (tyX2 k) := by decide +kernel
def RX3 : String := "DeckBench$FormSearch"
def TX3 : u_T := fun k => match k with
  | 0 => ("DeckBench$FormSearch", "cells", "[I", true)
  | 1 => ("DeckBench$FormSearch", "cellCounts", "[I", true)
  | 2 => ("DeckBench$FormSearch", "leastRows", "[I", true)
  | _ => ("DeckBench$FormSearch", "best", "I", false)
def tyX3 : Nat → FieldType := fun k => match k with
  | 0 => .array .int
  | 1 => .array .int
  | 2 => .array .int
  | _ => .int
theorem nmX3 : ∀ a, a < 4 → ∀ b, b < 4 → a ≠ b → (TX3 a).2.1 ≠ (TX3 b).2.1 := by decide +kernel
theorem tyX3_ok : ∀ k, k < 4 → parseFieldDescriptor (TX3 k).2.2.1 = some (tyX3 k) := by decide +kernel
def RX4 : String := "DeckBench$History"
def TX4 : u_T := fun k => match k with
  | 0 => ("DeckBench$History", "rows", "[I", true)
  | 1 => ("DeckBench$History", "next", "I", false)
  | _ => ("DeckBench$History", "size", "I", false)
def tyX4 : Nat → FieldType := fun k => match k with
  | 0 => .array .int
  | 1 => .int
  | _ => .int
theorem nmX4 : ∀ a, a < 3 → ∀ b, b < 3 → a ≠ b → (TX4 a).2.1 ≠ (TX4 b).2.1 := by decide +kernel
theorem tyX4_ok : ∀ k, k < 3 → parseFieldDescriptor (TX4 k).2.2.1 = some (tyX4 k) := by decide +kernel
def RX5 : String := "DeckBench$LineDeck"
def TX5 : u_T := fun k => match k with
  | 0 => ("DeckBench$LineDeck", "size", "I", false)
  | _ => ("DeckBench$LineDeck", "forms", "[I", true)
def tyX5 : Nat → FieldType := fun k => match k with
  | 0 => .int
  | _ => .array .int
theorem nmX5 : ∀ a, a < 2 → ∀ b, b < 2 → a ≠ b → (TX5 a).2.1 ≠ (TX5 b).2.1 := by decide +kernel
theorem tyX5_ok : ∀ k, k < 2 → parseFieldDescriptor (TX5 k).2.2.1 = some (tyX5 k) := by decide +kernel
def RX6 : String := "DeckBench$Net"
def TX6 : u_T := fun k => match k with
  | 0 => ("DeckBench$Net", "size", "I", false)
  | _ => ("DeckBench$Net", "near", "[I", true)
def tyX6 : Nat → FieldType := fun k => match k with
  | 0 => .int
  | _ => .array .int
theorem nmX6 : ∀ a, a < 2 → ∀ b, b < 2 → a ≠ b → (TX6 a).2.1 ≠ (TX6 b).2.1 := by decide +kernel
theorem tyX6_ok : ∀ k, k < 2 → parseFieldDescriptor (TX6 k).2.2.1 = some (tyX6 k) := by decide +kernel
def RX7 : String := "DeckBench$SmallNets"
def TX7 : u_T := fun k => match k with
  | 0 => ("DeckBench$SmallNets", "dealer", "LDeckBench$Dealer;", true)
  | 1 => ("DeckBench$SmallNets", "net", "LDeckBench$Net;", true)
  | 2 => ("DeckBench$SmallNets", "decks", "[LDeckBench$Deck;", true)
  | 3 => ("DeckBench$SmallNets", "asked", "LDeckBench$Deck;", true)
  | 4 => ("DeckBench$SmallNets", "askedLines", "LDeckBench$LineDeck;", true)
  | _ => ("DeckBench$SmallNets", "dealt", "Z", false)
def tyX7 : Nat → FieldType := fun k => match k with
  | 0 => .object "DeckBench$Dealer"
  | 1 => .object "DeckBench$Net"
  | 2 => .array (.object "DeckBench$Deck")
  | 3 => .object "DeckBench$Deck"
  | 4 => .object "DeckBench$LineDeck"
  | _ => .boolean
theorem nmX7 : ∀ a, a < 6 → ∀ b, b < 6 → a ≠ b → (TX7 a).2.1 ≠ (TX7 b).2.1 := by decide +kernel
theorem tyX7_ok : ∀ k, k < 6 → parseFieldDescriptor (TX7 k).2.2.1 = some (tyX7 k) := by decide +kernel
def RX8 : String := "DeckBench$Solver"
def TX8 : u_T := fun k => match k with
  | 0 => ("DeckBench$Solver", "dealer", "LDeckBench$Dealer;", true)
  | 1 => ("DeckBench$Solver", "figures", "LDeckBench$Figures;", true)
  | 2 => ("DeckBench$Solver", "card", "LDeckBench$Net;", true)
  | 3 => ("DeckBench$Solver", "trial", "LDeckBench$Net;", true)
  | 4 => ("DeckBench$Solver", "left", "[I", true)
  | 5 => ("DeckBench$Solver", "triples", "[I", true)
  | 6 => ("DeckBench$Solver", "found", "[I", true)
  | _ => ("DeckBench$Solver", "foundCount", "I", false)
def tyX8 : Nat → FieldType := fun k => match k with
  | 0 => .object "DeckBench$Dealer"
  | 1 => .object "DeckBench$Figures"
  | 2 => .object "DeckBench$Net"
  | 3 => .object "DeckBench$Net"
  | 4 => .array .int
  | 5 => .array .int
  | 6 => .array .int
  | _ => .int
theorem nmX8 : ∀ a, a < 8 → ∀ b, b < 8 → a ≠ b → (TX8 a).2.1 ≠ (TX8 b).2.1 := by decide +kernel
theorem tyX8_ok : ∀ k, k < 8 → parseFieldDescriptor (TX8 k).2.2.1 = some (tyX8 k) := by decide +kernel
def RX9 : String := "DeckBench$SymmetrySearch"
def TX9 : u_T := fun k => match k with
  | 0 => ("DeckBench$SymmetrySearch", "wanted", "[I", true)
  | _ => ("DeckBench$SymmetrySearch", "images", "[I", true)
def tyX9 : Nat → FieldType := fun k => match k with
  | 0 => .array .int
  | _ => .array .int
theorem nmX9 : ∀ a, a < 2 → ∀ b, b < 2 → a ≠ b → (TX9 a).2.1 ≠ (TX9 b).2.1 := by decide +kernel
theorem tyX9_ok : ∀ k, k < 2 → parseFieldDescriptor (TX9 k).2.2.1 = some (tyX9 k) := by decide +kernel
def RX10 : String := "DeckBench$TextReader"
def TX10 : u_T := fun k => match k with
  | 0 => ("DeckBench$TextReader", "slots", "[LDeckBench$Net;", true)
  | 1 => ("DeckBench$TextReader", "decks", "[LDeckBench$Deck;", true)
  | 2 => ("DeckBench$TextReader", "fault", "I", false)
  | 3 => ("DeckBench$TextReader", "faultPlace", "I", false)
  | 4 => ("DeckBench$TextReader", "linesRead", "I", false)
  | 5 => ("DeckBench$TextReader", "forms", "LDeckBench$FormSearch;", true)
  | 6 => ("DeckBench$TextReader", "card", "LDeckBench$Net;", true)
  | 7 => ("DeckBench$TextReader", "text", "[B", true)
  | 8 => ("DeckBench$TextReader", "length", "I", false)
  | 9 => ("DeckBench$TextReader", "kind", "I", false)
  | 10 => ("DeckBench$TextReader", "start", "I", false)
  | _ => ("DeckBench$TextReader", "end", "I", false)
def tyX10 : Nat → FieldType := fun k => match k with
  | 0 => .array (.object "DeckBench$Net")
  | 1 => .array (.object "DeckBench$Deck")
  | 2 => .int
  | 3 => .int
  | 4 => .int
  | 5 => .object "DeckBench$FormSearch"
  | 6 => .object "DeckBench$Net"
  | 7 => .array .byte
  | 8 => .int
  | 9 => .int
  | 10 => .int
  | _ => .int
theorem nmX10 : ∀ a, a < 12 → ∀ b, b < 12 → a ≠ b → (TX10 a).2.1 ≠ (TX10 b).2.1 := by decide +kernel
theorem tyX10_ok : ∀ k, k < 12 → parseFieldDescriptor (TX10 k).2.2.1 = some (tyX10 k) := by decide +kernel
def RX11 : String := "DeckBench"
def TX11 : u_T := fun k => match k with
  | 0 => ("DeckBench", "slots", "[LDeckBench$Net;", true)
  | 1 => ("DeckBench", "decks", "[LDeckBench$Deck;", true)
  | 2 => ("DeckBench", "tape", "[B", true)
  | 3 => ("DeckBench", "tapeLength", "I", false)
  | 4 => ("DeckBench", "faultKind", "I", false)
  | 5 => ("DeckBench", "faultPlace", "I", false)
  | 6 => ("DeckBench", "history", "LDeckBench$History;", true)
  | 7 => ("DeckBench", "forms", "LDeckBench$FormSearch;", true)
  | 8 => ("DeckBench", "symmetries", "LDeckBench$SymmetrySearch;", true)
  | 9 => ("DeckBench", "figures", "LDeckBench$Figures;", true)
  | 10 => ("DeckBench", "dealer", "LDeckBench$Dealer;", true)
  | 11 => ("DeckBench", "solver", "LDeckBench$Solver;", true)
  | 12 => ("DeckBench", "smallNets", "LDeckBench$SmallNets;", true)
  | _ => ("DeckBench", "reader", "LDeckBench$TextReader;", true)
def tyX11 : Nat → FieldType := fun k => match k with
  | 0 => .array (.object "DeckBench$Net")
  | 1 => .array (.object "DeckBench$Deck")
  | 2 => .array .byte
  | 3 => .int
  | 4 => .int
  | 5 => .int
  | 6 => .object "DeckBench$History"
  | 7 => .object "DeckBench$FormSearch"
  | 8 => .object "DeckBench$SymmetrySearch"
  | 9 => .object "DeckBench$Figures"
  | 10 => .object "DeckBench$Dealer"
  | 11 => .object "DeckBench$Solver"
  | 12 => .object "DeckBench$SmallNets"
  | _ => .object "DeckBench$TextReader"
theorem nmX11 : ∀ a, a < 14 → ∀ b, b < 14 → a ≠ b → (TX11 a).2.1 ≠ (TX11 b).2.1 := by decide +kernel
theorem tyX11_ok : ∀ k, k < 14 → parseFieldDescriptor (TX11 k).2.2.1 = some (tyX11 k) := by decide +kernel
def RX12 : String := "DeckBenchModel"
def TX12 : u_T := fun k => match k with
  | 0 => ("DeckBenchModel", "s", "[I", true)
  | 1 => ("DeckBenchModel", "saved", "[I", true)
  | 2 => ("DeckBenchModel", "acts", "[I", true)
  | 3 => ("DeckBenchModel", "actMany", "I", false)
  | 4 => ("DeckBenchModel", "thrown", "I", false)
  | 5 => ("DeckBenchModel", "to", "[I", true)
  | 6 => ("DeckBenchModel", "bestCode", "I", false)
  | 7 => ("DeckBenchModel", "same", "I", false)
  | 8 => ("DeckBenchModel", "orbit", "[I", true)
  | 9 => ("DeckBenchModel", "tape", "[B", true)
  | 10 => ("DeckBenchModel", "taped", "I", false)
  | 11 => ("DeckBenchModel", "size", "I", false)
  | 12 => ("DeckBenchModel", "spot", "I", false)
  | 13 => ("DeckBenchModel", "wrong", "I", false)
  | 14 => ("DeckBenchModel", "wrongAt", "I", false)
  | 15 => ("DeckBenchModel", "readAt", "I", false)
  | 16 => ("DeckBenchModel", "cards", "[I", true)
  | 17 => ("DeckBenchModel", "cardBy", "[I", true)
  | 18 => ("DeckBenchModel", "orbitBy", "[I", true)
  | 19 => ("DeckBenchModel", "all", "[I", true)
  | 20 => ("DeckBenchModel", "allCards", "[I", true)
  | 21 => ("DeckBenchModel", "lineForms", "[I", true)
  | 22 => ("DeckBenchModel", "lineOther", "[I", true)
  | 23 => ("DeckBenchModel", "allMany", "I", false)
  | 24 => ("DeckBenchModel", "laidFor", "I", false)
  | 25 => ("DeckBenchModel", "some", "[I", true)
  | 26 => ("DeckBenchModel", "terms", "[J", true)
  | 27 => ("DeckBenchModel", "square", "[J", true)
  | 28 => ("DeckBenchModel", "next", "[J", true)
  | 29 => ("DeckBenchModel", "found", "[I", true)
  | _ => ("DeckBenchModel", "tried", "[I", true)
def tyX12 : Nat → FieldType := fun k => match k with
  | 0 => .array .int
  | 1 => .array .int
  | 2 => .array .int
  | 3 => .int
  | 4 => .int
  | 5 => .array .int
  | 6 => .int
  | 7 => .int
  | 8 => .array .int
  | 9 => .array .byte
  | 10 => .int
  | 11 => .int
  | 12 => .int
  | 13 => .int
  | 14 => .int
  | 15 => .int
  | 16 => .array .int
  | 17 => .array .int
  | 18 => .array .int
  | 19 => .array .int
  | 20 => .array .int
  | 21 => .array .int
  | 22 => .array .int
  | 23 => .int
  | 24 => .int
  | 25 => .array .int
  | 26 => .array .long
  | 27 => .array .long
  | 28 => .array .long
  | 29 => .array .int
  | _ => .array .int
theorem nmX12 : ∀ a, a < 31 → ∀ b, b < 31 → a ≠ b → (TX12 a).2.1 ≠ (TX12 b).2.1 := by decide +kernel
theorem tyX12_ok : ∀ k, k < 31 → parseFieldDescriptor (TX12 k).2.2.1 = some (tyX12 k) := by decide +kernel
abbrev vwCl : List vw_C := [(RX0, TX0, 3), (RX1, TX1, 2), (RX2, TX2, 6), (RX3, TX3, 4), (RX4, TX4, 3), (RX5, TX5, 2), (RX6, TX6, 2), (RX7, TX7, 6), (RX8, TX8, 8), (RX9, TX9, 2), (RX10, TX10, 12), (RX11, TX11, 14), (RX12, TX12, 31)]
/-- the methods: name, code, locals, what is given back -/
abbrev mInf : Type := MethodName × ByteArray × Nat × Option FieldType
set_option maxRecDepth 100000 in
def mInfT : Lean.RArray mInf :=
  .branch 131 (.branch 65 (.branch 32 (.branch 16 (.branch 8 (.branch 4 (.branch 2 (.branch 1 (.leaf ((⟨"DeckBenchLaw", "law", "([I)Z"⟩, code, 4, (some .boolean)) : mInf)) (.leaf ((⟨"DeckBench$Dealer", "<init>", "(LDeckBench$FormSearch;)V"⟩, prog_2_method_1_code, 2, none) : mInf))) (.branch 3 (.leaf ((⟨"DeckBench$Dealer", "formOf", "(LDeckBench$Net;)I"⟩, prog_2_method_2_code, 2, (some .int)) : mInf)) (.leaf ((⟨"DeckBench$Dealer", "cardForm", "(LDeckBench$Net;I)I"⟩, prog_2_method_3_code, 3, (some .int)) : mInf)))) (.branch 6 (.branch 5 (.leaf ((⟨"DeckBench$Dealer", "dealInto", "(LDeckBench$Net;LDeckBench$Deck;)V"⟩, prog_2_method_4_code, 4, none) : mInf)) (.leaf ((⟨"DeckBench$Dealer", "lineDeckOf", "(LDeckBench$Net;)LDeckBench$LineDeck;"⟩, prog_2_method_5_code, 4, (some (.object "DeckBench$LineDeck"))) : mInf))) (.branch 7 (.leaf ((⟨"DeckBench$Dealer", "partsIn", "(IILDeckBench$Net;)I"⟩, prog_2_method_6_code, 8, (some .int)) : mInf)) (.leaf ((⟨"DeckBench$Deck", "<init>", "()V"⟩, prog_3_method_1_code, 1, none) : mInf))))) (.branch 12 (.branch 10 (.branch 9 (.leaf ((⟨"DeckBench$Deck", "copy", "(LDeckBench$Deck;)V"⟩, prog_3_method_2_code, 2, none) : mInf)) (.leaf ((⟨"DeckBench$Deck", "clear", "()V"⟩, prog_3_method_3_code, 1, none) : mInf))) (.branch 11 (.leaf ((⟨"DeckBench$Deck", "sort", "()V"⟩, prog_3_method_4_code, 1, none) : mInf)) (.leaf ((⟨"DeckBench$Deck", "sortFirst", "([II)V"⟩, prog_3_method_5_code, 5, none) : mInf)))) (.branch 14 (.branch 13 (.leaf ((⟨"DeckBench$Deck", "unlikeIn", "([II)I"⟩, prog_3_method_6_code, 4, (some .int)) : mInf)) (.leaf ((⟨"DeckBench$Deck", "unlikeCards", "()I"⟩, prog_3_method_7_code, 1, (some .int)) : mInf))) (.branch 15 (.leaf ((⟨"DeckBench$Deck", "firstOf", "(I)I"⟩, prog_3_method_8_code, 3, (some .int)) : mInf)) (.leaf ((⟨"DeckBench$Deck", "sharedWith", "(LDeckBench$Deck;)I"⟩, prog_3_method_9_code, 5, (some .int)) : mInf)))))) (.branch 24 (.branch 20 (.branch 18 (.branch 17 (.leaf ((⟨"DeckBench$Deck", "linesOf", "(I)I"⟩, prog_3_method_10_code, 2, (some .int)) : mInf)) (.leaf ((⟨"DeckBench$Deck", "fewestLines", "()I"⟩, prog_3_method_11_code, 3, (some .int)) : mInf))) (.branch 19 (.leaf ((⟨"DeckBench$Deck", "mostLines", "()I"⟩, prog_3_method_12_code, 3, (some .int)) : mInf)) (.leaf ((⟨"DeckBench$Deck", "toldLines", "()I"⟩, prog_3_method_13_code, 3, (some .int)) : mInf)))) (.branch 22 (.branch 21 (.leaf ((⟨"DeckBench$Figures", "<init>", "(LDeckBench$FormSearch;)V"⟩, prog_4_method_1_code, 2, none) : mInf)) (.leaf ((⟨"DeckBench$Figures", "isOfClass", "(LDeckBench$Net;I)Z"⟩, prog_4_method_2_code, 3, (some .boolean)) : mInf))) (.branch 23 (.leaf ((⟨"DeckBench$Figures", "hasLikeDegrees", "(LDeckBench$Net;)Z"⟩, prog_4_method_3_code, 2, (some .boolean)) : mInf)) (.leaf ((⟨"DeckBench$Figures", "hasTwoSides", "(LDeckBench$Net;)Z"⟩, prog_4_method_4_code, 2, (some .boolean)) : mInf))))) (.branch 28 (.branch 26 (.branch 25 (.leaf ((⟨"DeckBench$Figures", "isSide", "(LDeckBench$Net;I)Z"⟩, prog_4_method_5_code, 4, (some .boolean)) : mInf)) (.leaf ((⟨"DeckBench$Figures", "hasRing", "(LDeckBench$Net;)Z"⟩, prog_4_method_6_code, 4, (some .boolean)) : mInf))) (.branch 27 (.leaf ((⟨"DeckBench$Figures", "lengthenRows", "(LDeckBench$Net;I)V"⟩, prog_4_method_7_code, 6, none) : mInf)) (.leaf ((⟨"DeckBench$Figures", "treeCount", "(LDeckBench$Net;)I"⟩, prog_4_method_8_code, 8, (some .int)) : mInf)))) (.branch 30 (.branch 29 (.leaf ((⟨"DeckBench$Figures", "clearColumn", "(IIJ)V"⟩, prog_4_method_9_code, 12, none) : mInf)) (.leaf ((⟨"DeckBench$Figures", "coefficient", "(LDeckBench$Net;I)I"⟩, prog_4_method_10_code, 5, (some .int)) : mInf))) (.branch 31 (.leaf ((⟨"DeckBench$Figures", "copyWithDiagonal", "(II)V"⟩, prog_4_method_11_code, 4, none) : mInf)) (.leaf ((⟨"DeckBench$Figures", "multiply", "(LDeckBench$Net;)V"⟩, prog_4_method_12_code, 6, none) : mInf))))))) (.branch 48 (.branch 40 (.branch 36 (.branch 34 (.branch 33 (.leaf ((⟨"DeckBench$Figures", "trace", "(I)I"⟩, prog_4_method_13_code, 4, (some .int)) : mInf)) (.leaf ((⟨"DeckBench$FormSearch", "<init>", "()V"⟩, prog_5_method_1_code, 1, none) : mInf))) (.branch 35 (.leaf ((⟨"DeckBench$FormSearch", "formOf", "(LDeckBench$Net;)I"⟩, prog_5_method_2_code, 3, (some .int)) : mInf)) (.leaf ((⟨"DeckBench$FormSearch", "areAlike", "(LDeckBench$Net;LDeckBench$Net;)Z"⟩, prog_5_method_3_code, 3, (some .boolean)) : mInf)))) (.branch 38 (.branch 37 (.leaf ((⟨"DeckBench$FormSearch", "fillPlace", "(LDeckBench$FormSearch;LDeckBench$Net;II)V"⟩, prog_5_method_4_code, 9, none) : mInf)) (.leaf ((⟨"DeckBench$FormSearch", "nodesOfLeastRow", "(LDeckBench$Net;I)I"⟩, prog_5_method_5_code, 12, (some .int)) : mInf))) (.branch 39 (.leaf ((⟨"DeckBench$FormSearch", "hasTwin", "(LDeckBench$Net;II)Z"⟩, prog_5_method_6_code, 5, (some .boolean)) : mInf)) (.leaf ((⟨"DeckBench$FormSearch", "splitCells", "(LDeckBench$Net;II)V"⟩, prog_5_method_7_code, 7, none) : mInf))))) (.branch 44 (.branch 42 (.branch 41 (.leaf ((⟨"DeckBench$FormSearch", "addCell", "(II)V"⟩, prog_5_method_8_code, 3, none) : mInf)) (.leaf ((⟨"DeckBench$History", "<init>", "()V"⟩, prog_6_method_1_code, 1, none) : mInf))) (.branch 43 (.leaf ((⟨"DeckBench$History", "forget", "()V"⟩, prog_6_method_2_code, 1, none) : mInf)) (.leaf ((⟨"DeckBench$History", "keepNet", "(ILDeckBench$Net;)V"⟩, prog_6_method_3_code, 3, none) : mInf)))) (.branch 46 (.branch 45 (.leaf ((⟨"DeckBench$History", "keepDeck", "(ILDeckBench$Deck;)V"⟩, prog_6_method_4_code, 3, none) : mInf)) (.leaf ((⟨"DeckBench$History", "keep", "(III[I)V"⟩, prog_6_method_5_code, 6, none) : mInf))) (.branch 47 (.leaf ((⟨"DeckBench$History", "restoreLatest", "([LDeckBench$Net;[LDeckBench$Deck;)V"⟩, prog_6_method_6_code, 5, none) : mInf)) (.leaf ((⟨"DeckBench$LineDeck", "<init>", "()V"⟩, prog_7_method_1_code, 1, none) : mInf)))))) (.branch 56 (.branch 52 (.branch 50 (.branch 49 (.leaf ((⟨"DeckBench$LineDeck", "clear", "()V"⟩, prog_7_method_2_code, 1, none) : mInf)) (.leaf ((⟨"DeckBench$LineDeck", "add", "(I)V"⟩, prog_7_method_3_code, 2, none) : mInf))) (.branch 51 (.leaf ((⟨"DeckBench$LineDeck", "sort", "()V"⟩, prog_7_method_4_code, 1, none) : mInf)) (.leaf ((⟨"DeckBench$LineDeck", "unlikeForms", "()I"⟩, prog_7_method_5_code, 1, (some .int)) : mInf)))) (.branch 54 (.branch 53 (.leaf ((⟨"DeckBench$LineDeck", "copy", "(LDeckBench$LineDeck;)V"⟩, prog_7_method_6_code, 2, none) : mInf)) (.leaf ((⟨"DeckBench$LineDeck", "isSameAs", "(LDeckBench$LineDeck;)Z"⟩, prog_7_method_7_code, 3, (some .boolean)) : mInf))) (.branch 55 (.leaf ((⟨"DeckBench$Net", "<init>", "()V"⟩, prog_8_method_1_code, 1, none) : mInf)) (.leaf ((⟨"DeckBench$Net", "clear", "(I)V"⟩, prog_8_method_2_code, 3, none) : mInf))))) (.branch 60 (.branch 58 (.branch 57 (.leaf ((⟨"DeckBench$Net", "load", "(II)V"⟩, prog_8_method_3_code, 6, none) : mInf)) (.leaf ((⟨"DeckBench$Net", "copy", "(LDeckBench$Net;)V"⟩, prog_8_method_4_code, 2, none) : mInf))) (.branch 59 (.leaf ((⟨"DeckBench$Net", "firstBitOf", "(I)I"⟩, prog_8_method_5_code, 1, (some .int)) : mInf)) (.leaf ((⟨"DeckBench$Net", "code", "()I"⟩, prog_8_method_6_code, 3, (some .int)) : mInf)))) (.branch 62 (.branch 61 (.leaf ((⟨"DeckBench$Net", "everyNode", "()I"⟩, prog_8_method_7_code, 1, (some .int)) : mInf)) (.leaf ((⟨"DeckBench$Net", "hasNode", "(I)Z"⟩, prog_8_method_8_code, 2, (some .boolean)) : mInf))) (.branch 63 (.leaf ((⟨"DeckBench$Net", "degreeOf", "(I)I"⟩, prog_8_method_9_code, 2, (some .int)) : mInf)) (.branch 64 (.leaf ((⟨"DeckBench$Net", "lineCount", "()I"⟩, prog_8_method_10_code, 3, (some .int)) : mInf)) (.leaf ((⟨"DeckBench$Net", "areJoined", "(II)Z"⟩, prog_8_method_11_code, 3, (some .boolean)) : mInf))))))))) (.branch 98 (.branch 81 (.branch 73 (.branch 69 (.branch 67 (.branch 66 (.leaf ((⟨"DeckBench$Net", "flip", "(II)V"⟩, prog_8_method_12_code, 3, none) : mInf)) (.leaf ((⟨"DeckBench$Net", "append", "(I)V"⟩, prog_8_method_13_code, 4, none) : mInf))) (.branch 68 (.leaf ((⟨"DeckBench$Net", "invert", "(LDeckBench$Net;)V"⟩, prog_8_method_14_code, 4, none) : mInf)) (.leaf ((⟨"DeckBench$Net", "keepOnly", "(LDeckBench$Net;I)V"⟩, prog_8_method_15_code, 6, none) : mInf)))) (.branch 71 (.branch 70 (.leaf ((⟨"DeckBench$Net", "closeUp", "(III)I"⟩, prog_8_method_16_code, 6, (some .int)) : mInf)) (.leaf ((⟨"DeckBench$Net", "withNeighbours", "(I)I"⟩, prog_8_method_17_code, 4, (some .int)) : mInf))) (.branch 72 (.leaf ((⟨"DeckBench$Net", "pieceOf", "(I)I"⟩, prog_8_method_18_code, 4, (some .int)) : mInf)) (.leaf ((⟨"DeckBench$Net", "pieceCount", "()I"⟩, prog_8_method_19_code, 4, (some .int)) : mInf))))) (.branch 77 (.branch 75 (.branch 74 (.leaf ((⟨"DeckBench$Net", "distance", "(II)I"⟩, prog_8_method_20_code, 5, (some .int)) : mInf)) (.leaf ((⟨"DeckBench$SmallNets", "<init>", "(LDeckBench$Dealer;)V"⟩, prog_9_method_1_code, 3, none) : mInf))) (.branch 76 (.leaf ((⟨"DeckBench$SmallNets", "dealAll", "()V"⟩, prog_9_method_2_code, 3, none) : mInf)) (.leaf ((⟨"DeckBench$SmallNets", "howManyOf", "(I)I"⟩, prog_9_method_3_code, 2, (some .int)) : mInf)))) (.branch 79 (.branch 78 (.leaf ((⟨"DeckBench$SmallNets", "askFor", "(II)V"⟩, prog_9_method_4_code, 4, none) : mInf)) (.leaf ((⟨"DeckBench$SmallNets", "fewestTelling", "(II)I"⟩, prog_9_method_5_code, 6, (some .int)) : mInf))) (.branch 80 (.leaf ((⟨"DeckBench$SmallNets", "isInAnother", "(III)Z"⟩, prog_9_method_6_code, 5, (some .boolean)) : mInf)) (.leaf ((⟨"DeckBench$SmallNets", "hasChosen", "(LDeckBench$Deck;I)Z"⟩, prog_9_method_7_code, 5, (some .boolean)) : mInf)))))) (.branch 89 (.branch 85 (.branch 83 (.branch 82 (.leaf ((⟨"DeckBench$SmallNets", "surelyTelling", "(II)I"⟩, prog_9_method_8_code, 5, (some .int)) : mInf)) (.leaf ((⟨"DeckBench$SmallNets", "rivalsOf", "(II)I"⟩, prog_9_method_9_code, 6, (some .int)) : mInf))) (.branch 84 (.leaf ((⟨"DeckBench$SmallNets", "decksWithAllBut", "(LDeckBench$Deck;I)I"⟩, prog_9_method_10_code, 7, (some .int)) : mInf)) (.leaf ((⟨"DeckBench$Solver", "<init>", "(LDeckBench$Dealer;LDeckBench$Figures;)V"⟩, prog_10_method_1_code, 3, none) : mInf)))) (.branch 87 (.branch 86 (.leaf ((⟨"DeckBench$Solver", "cardsOfOnePiece", "(LDeckBench$Deck;)I"⟩, prog_10_method_2_code, 4, (some .int)) : mInf)) (.leaf ((⟨"DeckBench$Solver", "coefficientsAdded", "(LDeckBench$Deck;I)I"⟩, prog_10_method_3_code, 5, (some .int)) : mInf))) (.branch 88 (.leaf ((⟨"DeckBench$Solver", "partsTold", "(LDeckBench$Deck;II)I"⟩, prog_10_method_4_code, 7, (some .int)) : mInf)) (.leaf ((⟨"DeckBench$Solver", "reasonByNumbers", "(LDeckBench$Deck;)I"⟩, prog_10_method_5_code, 3, (some .int)) : mInf))))) (.branch 93 (.branch 91 (.branch 90 (.leaf ((⟨"DeckBench$Solver", "hasWholeTriples", "(LDeckBench$Deck;)Z"⟩, prog_10_method_6_code, 4, (some .boolean)) : mInf)) (.leaf ((⟨"DeckBench$Solver", "addTriples", "()V"⟩, prog_10_method_7_code, 6, none) : mInf))) (.branch 92 (.leaf ((⟨"DeckBench$Solver", "findAnswers", "(LDeckBench$Deck;)I"⟩, prog_10_method_8_code, 5, (some .int)) : mInf)) (.leaf ((⟨"DeckBench$Solver", "hasDeck", "(LDeckBench$Net;LDeckBench$Deck;)Z"⟩, prog_10_method_9_code, 4, (some .boolean)) : mInf)))) (.branch 95 (.branch 94 (.leaf ((⟨"DeckBench$Solver", "takeCard", "(II)Z"⟩, prog_10_method_10_code, 4, (some .boolean)) : mInf)) (.leaf ((⟨"DeckBench$Solver", "addFound", "(I)V"⟩, prog_10_method_11_code, 4, none) : mInf))) (.branch 96 (.leaf ((⟨"DeckBench$Solver", "answersOfClass", "(II)I"⟩, prog_10_method_12_code, 5, (some .int)) : mInf)) (.branch 97 (.leaf ((⟨"DeckBench$SymmetrySearch", "<init>", "()V"⟩, prog_11_method_1_code, 1, none) : mInf)) (.leaf ((⟨"DeckBench$SymmetrySearch", "takes", "(LDeckBench$Net;III)Z"⟩, prog_11_method_2_code, 6, (some .boolean)) : mInf)))))))) (.branch 114 (.branch 106 (.branch 102 (.branch 100 (.branch 99 (.leaf ((⟨"DeckBench$SymmetrySearch", "extend", "(LDeckBench$SymmetrySearch;LDeckBench$Net;I)Z"⟩, prog_11_method_3_code, 4, (some .boolean)) : mInf)) (.leaf ((⟨"DeckBench$SymmetrySearch", "mayGo", "(LDeckBench$Net;II)Z"⟩, prog_11_method_4_code, 7, (some .boolean)) : mInf))) (.branch 101 (.leaf ((⟨"DeckBench$SymmetrySearch", "howMany", "(LDeckBench$Net;)I"⟩, prog_11_method_5_code, 6, (some .int)) : mInf)) (.leaf ((⟨"DeckBench$SymmetrySearch", "leastOfOrbit", "(LDeckBench$Net;I)I"⟩, prog_11_method_6_code, 4, (some .int)) : mInf)))) (.branch 104 (.branch 103 (.leaf ((⟨"DeckBench$SymmetrySearch", "orbitCount", "(LDeckBench$Net;)I"⟩, prog_11_method_7_code, 4, (some .int)) : mInf)) (.leaf ((⟨"DeckBench$TextReader", "<init>", "([BLDeckBench$FormSearch;)V"⟩, prog_12_method_1_code, 4, none) : mInf))) (.branch 105 (.leaf ((⟨"DeckBench$TextReader", "read", "(I)V"⟩, prog_12_method_2_code, 3, none) : mInf)) (.leaf ((⟨"DeckBench$TextReader", "begin", "(I)V"⟩, prog_12_method_3_code, 3, none) : mInf))))) (.branch 110 (.branch 108 (.branch 107 (.leaf ((⟨"DeckBench$TextReader", "sortDecks", "()V"⟩, prog_12_method_4_code, 4, none) : mInf)) (.leaf ((⟨"DeckBench$TextReader", "readNet", "()V"⟩, prog_12_method_5_code, 3, none) : mInf))) (.branch 109 (.leaf ((⟨"DeckBench$TextReader", "readDeck", "()V"⟩, prog_12_method_6_code, 5, none) : mInf)) (.leaf ((⟨"DeckBench$TextReader", "readCard", "(LDeckBench$Deck;I)V"⟩, prog_12_method_7_code, 3, none) : mInf)))) (.branch 112 (.branch 111 (.leaf ((⟨"DeckBench$TextReader", "readPairs", "(LDeckBench$Net;)V"⟩, prog_12_method_8_code, 3, none) : mInf)) (.leaf ((⟨"DeckBench$TextReader", "readPair", "(LDeckBench$Net;)V"⟩, prog_12_method_9_code, 4, none) : mInf))) (.branch 113 (.leaf ((⟨"DeckBench$TextReader", "readDigit", "(II)I"⟩, prog_12_method_10_code, 4, (some .int)) : mInf)) (.leaf ((⟨"DeckBench$TextReader", "readLineEnd", "()V"⟩, prog_12_method_11_code, 1, none) : mInf)))))) (.branch 122 (.branch 118 (.branch 116 (.branch 115 (.leaf ((⟨"DeckBench$TextReader", "refuse", "(I)V"⟩, prog_12_method_12_code, 2, none) : mInf)) (.leaf ((⟨"DeckBench$TextReader", "isLineEnd", "()Z"⟩, prog_12_method_13_code, 1, (some .boolean)) : mInf))) (.branch 117 (.leaf ((⟨"DeckBench$TextReader", "isWord", "(Ljava/lang/String;)Z"⟩, prog_12_method_14_code, 3, (some .boolean)) : mInf)) (.leaf ((⟨"DeckBench$TextReader", "advance", "()V"⟩, prog_12_method_15_code, 1, none) : mInf)))) (.branch 120 (.branch 119 (.leaf ((⟨"DeckBench$TextReader", "kindOf", "(B)I"⟩, prog_12_method_16_code, 1, (some .int)) : mInf)) (.leaf ((⟨"DeckBench", "<init>", "()V"⟩, prog_1_method_1_code, 2, none) : mInf))) (.branch 121 (.leaf ((⟨"DeckBench", "feed", "(IIIII)I"⟩, prog_1_method_2_code, 6, (some .int)) : mInf)) (.leaf ((⟨"DeckBench", "tell", "(I)I"⟩, prog_1_method_3_code, 3, (some .int)) : mInf))))) (.branch 126 (.branch 124 (.branch 123 (.leaf ((⟨"DeckBench", "fault", "(I)I"⟩, prog_1_method_4_code, 2, (some .int)) : mInf)) (.leaf ((⟨"DeckBench", "join", "(III)I"⟩, prog_1_method_5_code, 5, (some .int)) : mInf))) (.branch 125 (.leaf ((⟨"DeckBench", "grow", "(II)I"⟩, prog_1_method_6_code, 4, (some .int)) : mInf)) (.leaf ((⟨"DeckBench", "drop", "(II)I"⟩, prog_1_method_7_code, 4, (some .int)) : mInf)))) (.branch 128 (.branch 127 (.leaf ((⟨"DeckBench", "turn", "(II)I"⟩, prog_1_method_8_code, 3, (some .int)) : mInf)) (.leaf ((⟨"DeckBench", "put", "(II)I"⟩, prog_1_method_9_code, 4, (some .int)) : mInf))) (.branch 129 (.leaf ((⟨"DeckBench", "deal", "(II)I"⟩, prog_1_method_10_code, 3, (some .int)) : mInf)) (.branch 130 (.leaf ((⟨"DeckBench", "replace", "(III)I"⟩, prog_1_method_11_code, 6, (some .int)) : mInf)) (.leaf ((⟨"DeckBench", "solve", "(II)I"⟩, prog_1_method_12_code, 3, (some .int)) : mInf)))))))))) (.branch 197 (.branch 164 (.branch 147 (.branch 139 (.branch 135 (.branch 133 (.branch 132 (.leaf ((⟨"DeckBench", "undo", "()I"⟩, prog_1_method_13_code, 1, (some .int)) : mInf)) (.leaf ((⟨"DeckBench", "net", "(II)I"⟩, prog_1_method_14_code, 4, (some .int)) : mInf))) (.branch 134 (.leaf ((⟨"DeckBench", "node", "(III)I"⟩, prog_1_method_15_code, 5, (some .int)) : mInf)) (.leaf ((⟨"DeckBench", "alike", "(II)I"⟩, prog_1_method_16_code, 3, (some .int)) : mInf)))) (.branch 137 (.branch 136 (.leaf ((⟨"DeckBench", "parts", "(II)I"⟩, prog_1_method_17_code, 3, (some .int)) : mInf)) (.leaf ((⟨"DeckBench", "least", "(II)I"⟩, prog_1_method_18_code, 5, (some .int)) : mInf))) (.branch 138 (.leaf ((⟨"DeckBench", "rivals", "(I)I"⟩, prog_1_method_19_code, 3, (some .int)) : mInf)) (.leaf ((⟨"DeckBench", "lineDeck", "(II)I"⟩, prog_1_method_20_code, 4, (some .int)) : mInf))))) (.branch 143 (.branch 141 (.branch 140 (.leaf ((⟨"DeckBench", "is", "(II)I"⟩, prog_1_method_21_code, 3, (some .int)) : mInf)) (.leaf ((⟨"DeckBench", "trees", "(I)I"⟩, prog_1_method_22_code, 2, (some .int)) : mInf))) (.branch 142 (.leaf ((⟨"DeckBench", "term", "(II)I"⟩, prog_1_method_23_code, 3, (some .int)) : mInf)) (.leaf ((⟨"DeckBench", "far", "(III)I"⟩, prog_1_method_24_code, 4, (some .int)) : mInf)))) (.branch 145 (.branch 144 (.leaf ((⟨"DeckBench", "card", "(II)I"⟩, prog_1_method_25_code, 3, (some .int)) : mInf)) (.leaf ((⟨"DeckBench", "common", "(II)I"⟩, prog_1_method_26_code, 3, (some .int)) : mInf))) (.branch 146 (.leaf ((⟨"DeckBench", "told", "(II)I"⟩, prog_1_method_27_code, 7, (some .int)) : mInf)) (.leaf ((⟨"DeckBench", "degree", "(II)I"⟩, prog_1_method_28_code, 4, (some .int)) : mInf)))))) (.branch 155 (.branch 151 (.branch 149 (.branch 148 (.leaf ((⟨"DeckBench", "toldParts", "(II)I"⟩, prog_1_method_29_code, 5, (some .int)) : mInf)) (.leaf ((⟨"DeckBench", "toldTerm", "(II)I"⟩, prog_1_method_30_code, 6, (some .int)) : mInf))) (.branch 150 (.leaf ((⟨"DeckBench", "proved", "(II)I"⟩, prog_1_method_31_code, 5, (some .int)) : mInf)) (.leaf ((⟨"DeckBench", "reason", "(I)I"⟩, prog_1_method_32_code, 3, (some .int)) : mInf)))) (.branch 153 (.branch 152 (.leaf ((⟨"DeckBench", "answers", "(II)I"⟩, prog_1_method_33_code, 4, (some .int)) : mInf)) (.leaf ((⟨"DeckBench", "mends", "(II)I"⟩, prog_1_method_34_code, 4, (some .int)) : mInf))) (.branch 154 (.leaf ((⟨"DeckBench", "count", "(I)I"⟩, prog_1_method_35_code, 2, (some .int)) : mInf)) (.leaf ((⟨"DeckBench", "isNoSlot", "(I)Z"⟩, prog_1_method_36_code, 1, (some .boolean)) : mInf))))) (.branch 159 (.branch 157 (.branch 156 (.leaf ((⟨"DeckBench", "isNoNode", "(II)Z"⟩, prog_1_method_37_code, 3, (some .boolean)) : mInf)) (.leaf ((⟨"DeckBench", "isNoDeckNumber", "(I)Z"⟩, prog_1_method_38_code, 1, (some .boolean)) : mInf))) (.branch 158 (.leaf ((⟨"DeckBench", "isNoDeck", "(I)Z"⟩, prog_1_method_39_code, 2, (some .boolean)) : mInf)) (.leaf ((⟨"DeckBench", "isNoCard", "(II)Z"⟩, prog_1_method_40_code, 3, (some .boolean)) : mInf)))) (.branch 161 (.branch 160 (.leaf ((⟨"DeckBench", "isNoClass", "(I)Z"⟩, prog_1_method_41_code, 1, (some .boolean)) : mInf)) (.leaf ((⟨"DeckBench", "feedBytes", "(I)V"⟩, prog_1_method_42_code, 3, none) : mInf))) (.branch 162 (.leaf ((⟨"DeckBench", "countTwins", "(LDeckBench$Net;)I"⟩, prog_1_method_43_code, 6, (some .int)) : mInf)) (.branch 163 (.leaf ((⟨"DeckBench", "countSlotsWithNodes", "()I"⟩, prog_1_method_44_code, 3, (some .int)) : mInf)) (.leaf ((⟨"DeckBench", "countDecks", "()I"⟩, prog_1_method_45_code, 3, (some .int)) : mInf)))))))) (.branch 180 (.branch 172 (.branch 168 (.branch 166 (.branch 165 (.leaf ((⟨"DeckBenchModel", "<init>", "()V"⟩, prog_14_method_1_code, 1, none) : mInf)) (.leaf ((⟨"DeckBenchModel", "isIn", "(JJJ)Z"⟩, prog_14_method_3_code, 6, (some .boolean)) : mInf))) (.branch 167 (.leaf ((⟨"DeckBenchModel", "bit", "(II)I"⟩, prog_14_method_4_code, 2, (some .int)) : mInf)) (.leaf ((⟨"DeckBenchModel", "areJoined", "(III)Z"⟩, prog_14_method_5_code, 3, (some .boolean)) : mInf)))) (.branch 170 (.branch 169 (.leaf ((⟨"DeckBenchModel", "lines", "(I)I"⟩, prog_14_method_6_code, 1, (some .int)) : mInf)) (.leaf ((⟨"DeckBenchModel", "whole", "(I)I"⟩, prog_14_method_7_code, 1, (some .int)) : mInf))) (.branch 171 (.leaf ((⟨"DeckBenchModel", "goes", "(IIIII)V"⟩, prog_14_method_8_code, 9, none) : mInf)) (.leaf ((⟨"DeckBenchModel", "numbers", "(II)V"⟩, prog_14_method_9_code, 4, none) : mInf))))) (.branch 176 (.branch 174 (.branch 173 (.leaf ((⟨"DeckBenchModel", "form", "(II)I"⟩, prog_14_method_10_code, 3, (some .int)) : mInf)) (.leaf ((⟨"DeckBenchModel", "within", "(III)I"⟩, prog_14_method_11_code, 8, (some .int)) : mInf))) (.branch 175 (.leaf ((⟨"DeckBenchModel", "without", "(III)I"⟩, prog_14_method_12_code, 3, (some .int)) : mInf)) (.leaf ((⟨"DeckBenchModel", "near", "(III)I"⟩, prog_14_method_13_code, 5, (some .int)) : mInf)))) (.branch 178 (.branch 177 (.leaf ((⟨"DeckBenchModel", "pieces", "(II)I"⟩, prog_14_method_14_code, 8, (some .int)) : mInf)) (.leaf ((⟨"DeckBenchModel", "partsOf", "(IIII)I"⟩, prog_14_method_15_code, 7, (some .int)) : mInf))) (.branch 179 (.leaf ((⟨"DeckBenchModel", "feed", "(IIIII)I"⟩, prog_14_method_16_code, 8, (some .int)) : mInf)) (.leaf ((⟨"DeckBenchModel", "peek", "()I"⟩, prog_14_method_17_code, 1, (some .int)) : mInf)))))) (.branch 188 (.branch 184 (.branch 182 (.branch 181 (.leaf ((⟨"DeckBenchModel", "fails", "(II)V"⟩, prog_14_method_18_code, 3, none) : mInf)) (.leaf ((⟨"DeckBenchModel", "isLetter", "(I)Z"⟩, prog_14_method_19_code, 1, (some .boolean)) : mInf))) (.branch 183 (.leaf ((⟨"DeckBenchModel", "isDigit", "(I)Z"⟩, prog_14_method_20_code, 1, (some .boolean)) : mInf)) (.leaf ((⟨"DeckBenchModel", "lettersHere", "()I"⟩, prog_14_method_21_code, 2, (some .int)) : mInf)))) (.branch 186 (.branch 185 (.leaf ((⟨"DeckBenchModel", "wordHere", "()I"⟩, prog_14_method_22_code, 7, (some .int)) : mInf)) (.leaf ((⟨"DeckBenchModel", "numeral", "(III)I"⟩, prog_14_method_23_code, 5, (some .int)) : mInf))) (.branch 187 (.leaf ((⟨"DeckBenchModel", "pairsRead", "(I)I"⟩, prog_14_method_24_code, 6, (some .int)) : mInf)) (.leaf ((⟨"DeckBenchModel", "lineRead", "()V"⟩, prog_14_method_25_code, 5, none) : mInf))))) (.branch 192 (.branch 190 (.branch 189 (.leaf ((⟨"DeckBenchModel", "deckRead", "(I)V"⟩, prog_14_method_26_code, 5, none) : mInf)) (.leaf ((⟨"DeckBenchModel", "tell", "(I)I"⟩, prog_14_method_27_code, 4, (some .int)) : mInf))) (.branch 191 (.leaf ((⟨"DeckBenchModel", "fault", "(I)I"⟩, prog_14_method_28_code, 2, (some .int)) : mInf)) (.leaf ((⟨"DeckBenchModel", "isSlot", "(I)Z"⟩, prog_14_method_29_code, 1, (some .boolean)) : mInf)))) (.branch 194 (.branch 193 (.leaf ((⟨"DeckBenchModel", "nodes", "(I)I"⟩, prog_14_method_30_code, 2, (some .int)) : mInf)) (.leaf ((⟨"DeckBenchModel", "code", "(I)I"⟩, prog_14_method_31_code, 2, (some .int)) : mInf))) (.branch 195 (.leaf ((⟨"DeckBenchModel", "formOf", "(I)I"⟩, prog_14_method_32_code, 2, (some .int)) : mInf)) (.branch 196 (.leaf ((⟨"DeckBenchModel", "isNode", "(II)Z"⟩, prog_14_method_33_code, 3, (some .boolean)) : mInf)) (.leaf ((⟨"DeckBenchModel", "becomes", "(III)V"⟩, prog_14_method_34_code, 4, none) : mInf))))))))) (.branch 230 (.branch 213 (.branch 205 (.branch 201 (.branch 199 (.branch 198 (.leaf ((⟨"DeckBenchModel", "deckOf", "(I)I"⟩, prog_14_method_35_code, 2, (some .int)) : mInf)) (.leaf ((⟨"DeckBenchModel", "cardOf", "(II)I"⟩, prog_14_method_36_code, 3, (some .int)) : mInf))) (.branch 200 (.leaf ((⟨"DeckBenchModel", "isCard", "(II)Z"⟩, prog_14_method_37_code, 3, (some .boolean)) : mInf)) (.leaf ((⟨"DeckBenchModel", "sorts", "([II)V"⟩, prog_14_method_38_code, 5, none) : mInf)))) (.branch 203 (.branch 202 (.leaf ((⟨"DeckBenchModel", "laysDeck", "(II)V"⟩, prog_14_method_39_code, 4, none) : mInf)) (.leaf ((⟨"DeckBenchModel", "takesDeck", "(I)V"⟩, prog_14_method_40_code, 3, none) : mInf))) (.branch 204 (.leaf ((⟨"DeckBenchModel", "deals", "(II[I)V"⟩, prog_14_method_41_code, 5, none) : mInf)) (.leaf ((⟨"DeckBenchModel", "remembers", "()V"⟩, prog_14_method_42_code, 2, none) : mInf))))) (.branch 209 (.branch 207 (.branch 206 (.leaf ((⟨"DeckBenchModel", "join", "(III)I"⟩, prog_14_method_43_code, 4, (some .int)) : mInf)) (.leaf ((⟨"DeckBenchModel", "grow", "(II)I"⟩, prog_14_method_44_code, 4, (some .int)) : mInf))) (.branch 208 (.leaf ((⟨"DeckBenchModel", "drop", "(II)I"⟩, prog_14_method_45_code, 3, (some .int)) : mInf)) (.leaf ((⟨"DeckBenchModel", "turn", "(II)I"⟩, prog_14_method_46_code, 3, (some .int)) : mInf)))) (.branch 211 (.branch 210 (.leaf ((⟨"DeckBenchModel", "put", "(II)I"⟩, prog_14_method_47_code, 3, (some .int)) : mInf)) (.leaf ((⟨"DeckBenchModel", "unlike", "([II)I"⟩, prog_14_method_48_code, 4, (some .int)) : mInf))) (.branch 212 (.leaf ((⟨"DeckBenchModel", "deal", "(II)I"⟩, prog_14_method_49_code, 3, (some .int)) : mInf)) (.leaf ((⟨"DeckBenchModel", "replace", "(III)I"⟩, prog_14_method_50_code, 6, (some .int)) : mInf)))))) (.branch 221 (.branch 217 (.branch 215 (.branch 214 (.leaf ((⟨"DeckBenchModel", "solve", "(II)I"⟩, prog_14_method_51_code, 4, (some .int)) : mInf)) (.leaf ((⟨"DeckBenchModel", "undo", "()I"⟩, prog_14_method_52_code, 2, (some .int)) : mInf))) (.branch 216 (.leaf ((⟨"DeckBenchModel", "orbits", "(I)I"⟩, prog_14_method_53_code, 4, (some .int)) : mInf)) (.leaf ((⟨"DeckBenchModel", "twins", "(I)I"⟩, prog_14_method_54_code, 6, (some .int)) : mInf)))) (.branch 219 (.branch 218 (.leaf ((⟨"DeckBenchModel", "net", "(II)I"⟩, prog_14_method_55_code, 4, (some .int)) : mInf)) (.leaf ((⟨"DeckBenchModel", "node", "(III)I"⟩, prog_14_method_56_code, 6, (some .int)) : mInf))) (.branch 220 (.leaf ((⟨"DeckBenchModel", "alike", "(II)I"⟩, prog_14_method_57_code, 3, (some .int)) : mInf)) (.leaf ((⟨"DeckBenchModel", "parts", "(II)I"⟩, prog_14_method_58_code, 3, (some .int)) : mInf))))) (.branch 225 (.branch 223 (.branch 222 (.leaf ((⟨"DeckBenchModel", "laysAll", "(I)V"⟩, prog_14_method_59_code, 4, none) : mInf)) (.leaf ((⟨"DeckBenchModel", "hasAll", "(III)Z"⟩, prog_14_method_60_code, 6, (some .boolean)) : mInf))) (.branch 224 (.leaf ((⟨"DeckBenchModel", "tells", "(III)Z"⟩, prog_14_method_61_code, 6, (some .boolean)) : mInf)) (.leaf ((⟨"DeckBenchModel", "least", "(II)I"⟩, prog_14_method_62_code, 10, (some .int)) : mInf)))) (.branch 227 (.branch 226 (.leaf ((⟨"DeckBenchModel", "laysLines", "(II[I)I"⟩, prog_14_method_63_code, 6, (some .int)) : mInf)) (.leaf ((⟨"DeckBenchModel", "areRivals", "(III)Z"⟩, prog_14_method_64_code, 6, (some .boolean)) : mInf))) (.branch 228 (.leaf ((⟨"DeckBenchModel", "rivals", "(I)I"⟩, prog_14_method_65_code, 6, (some .int)) : mInf)) (.branch 229 (.leaf ((⟨"DeckBenchModel", "lineDeck", "(II)I"⟩, prog_14_method_66_code, 4, (some .int)) : mInf)) (.leaf ((⟨"DeckBenchModel", "areDegreesLike", "(II)Z"⟩, prog_14_method_67_code, 3, (some .boolean)) : mInf)))))))) (.branch 246 (.branch 238 (.branch 234 (.branch 232 (.branch 231 (.leaf ((⟨"DeckBenchModel", "haveSides", "(II)Z"⟩, prog_14_method_68_code, 5, (some .boolean)) : mInf)) (.leaf ((⟨"DeckBenchModel", "goesRound", "(IIII)Z"⟩, prog_14_method_69_code, 5, (some .boolean)) : mInf))) (.branch 233 (.leaf ((⟨"DeckBenchModel", "isOf", "(III)Z"⟩, prog_14_method_70_code, 4, (some .boolean)) : mInf)) (.leaf ((⟨"DeckBenchModel", "isClass", "(I)Z"⟩, prog_14_method_71_code, 1, (some .boolean)) : mInf)))) (.branch 236 (.branch 235 (.leaf ((⟨"DeckBenchModel", "is", "(II)I"⟩, prog_14_method_72_code, 3, (some .int)) : mInf)) (.leaf ((⟨"DeckBenchModel", "proved", "(II)I"⟩, prog_14_method_73_code, 6, (some .int)) : mInf))) (.branch 237 (.leaf ((⟨"DeckBenchModel", "treesFrom", "(IIII)I"⟩, prog_14_method_74_code, 5, (some .int)) : mInf)) (.leaf ((⟨"DeckBenchModel", "trees", "(I)I"⟩, prog_14_method_75_code, 3, (some .int)) : mInf))))) (.branch 242 (.branch 240 (.branch 239 (.leaf ((⟨"DeckBenchModel", "laysTerms", "(II)V"⟩, prog_14_method_76_code, 11, none) : mInf)) (.leaf ((⟨"DeckBenchModel", "term", "(II)I"⟩, prog_14_method_77_code, 3, (some .int)) : mInf))) (.branch 241 (.leaf ((⟨"DeckBenchModel", "toldTerm", "(II)I"⟩, prog_14_method_78_code, 7, (some .int)) : mInf)) (.leaf ((⟨"DeckBenchModel", "far", "(III)I"⟩, prog_14_method_79_code, 9, (some .int)) : mInf)))) (.branch 244 (.branch 243 (.leaf ((⟨"DeckBenchModel", "card", "(II)I"⟩, prog_14_method_80_code, 3, (some .int)) : mInf)) (.leaf ((⟨"DeckBenchModel", "common", "(II)I"⟩, prog_14_method_81_code, 8, (some .int)) : mInf))) (.branch 245 (.leaf ((⟨"DeckBenchModel", "toldLines", "(I)I"⟩, prog_14_method_82_code, 4, (some .int)) : mInf)) (.leaf ((⟨"DeckBenchModel", "toldOf", "(III)I"⟩, prog_14_method_83_code, 6, (some .int)) : mInf)))))) (.branch 254 (.branch 250 (.branch 248 (.branch 247 (.leaf ((⟨"DeckBenchModel", "why", "(I)I"⟩, prog_14_method_84_code, 4, (some .int)) : mInf)) (.leaf ((⟨"DeckBenchModel", "answersOf", "(I)I"⟩, prog_14_method_85_code, 9, (some .int)) : mInf))) (.branch 249 (.leaf ((⟨"DeckBenchModel", "told", "(II)I"⟩, prog_14_method_86_code, 10, (some .int)) : mInf)) (.leaf ((⟨"DeckBenchModel", "degree", "(II)I"⟩, prog_14_method_87_code, 4, (some .int)) : mInf)))) (.branch 252 (.branch 251 (.leaf ((⟨"DeckBenchModel", "toldParts", "(II)I"⟩, prog_14_method_88_code, 4, (some .int)) : mInf)) (.leaf ((⟨"DeckBenchModel", "reason", "(I)I"⟩, prog_14_method_89_code, 2, (some .int)) : mInf))) (.branch 253 (.leaf ((⟨"DeckBenchModel", "answers", "(II)I"⟩, prog_14_method_90_code, 4, (some .int)) : mInf)) (.leaf ((⟨"DeckBenchModel", "mends", "(II)I"⟩, prog_14_method_91_code, 6, (some .int)) : mInf))))) (.branch 258 (.branch 256 (.branch 255 (.leaf ((⟨"DeckBenchModel", "count", "(I)I"⟩, prog_14_method_92_code, 4, (some .int)) : mInf)) (.leaf ((⟨"java/lang/Integer", "bitCount", "(I)I"⟩, prog_15_method_49_code, 1, (some .int)) : mInf))) (.branch 257 (.leaf ((⟨"java/lang/String", "charAt", "(I)C"⟩, prog_17_method_56_code, 2, (some .char)) : mInf)) (.leaf ((⟨"java/lang/String", "checkIndex", "(II)V"⟩, prog_17_method_155_code, 2, none) : mInf)))) (.branch 260 (.branch 259 (.leaf ((⟨"java/lang/String", "coder", "()B"⟩, prog_17_method_152_code, 1, (some .byte)) : mInf)) (.leaf ((⟨"java/lang/String", "isLatin1", "()Z"⟩, prog_17_method_154_code, 1, (some .boolean)) : mInf))) (.branch 261 (.leaf ((⟨"java/lang/String", "length", "()I"⟩, prog_17_method_54_code, 1, (some .int)) : mInf)) (.branch 262 (.leaf ((⟨"java/lang/StringLatin1", "charAt", "([BI)C"⟩, prog_18_method_2_code, 2, (some .char)) : mInf)) (.leaf ((⟨"jdk/internal/util/Preconditions", "checkIndex", "(IILjava/util/function/BiFunction;)I"⟩, prog_21_method_11_code, 3, (some .int)) : mInf))))))))))
def mName (k : Nat) : MethodName := (mInfT.get k).1
def mCode (k : Nat) : ByteArray := (mInfT.get k).2.1
def mRet (k : Nat) : Option FieldType := (mInfT.get k).2.2.2
/-- its locals, how many values it takes (the receiver too), its kind (0 static, 1 of an object, 2 a constructor), its class -/
def mNumT : Lean.RArray (Nat × Nat × Nat × Nat) :=
  .branch 131 (.branch 65 (.branch 32 (.branch 16 (.branch 8 (.branch 4 (.branch 2 (.branch 1 (.leaf (4, 1, 0, 60)) (.leaf (2, 2, 2, 0))) (.branch 3 (.leaf (2, 2, 1, 0)) (.leaf (3, 3, 1, 0)))) (.branch 6 (.branch 5 (.leaf (4, 3, 1, 0)) (.leaf (4, 2, 1, 0))) (.branch 7 (.leaf (8, 4, 1, 0)) (.leaf (1, 1, 2, 1))))) (.branch 12 (.branch 10 (.branch 9 (.leaf (2, 2, 1, 1)) (.leaf (1, 1, 1, 1))) (.branch 11 (.leaf (1, 1, 1, 1)) (.leaf (5, 2, 0, 1)))) (.branch 14 (.branch 13 (.leaf (4, 2, 0, 1)) (.leaf (1, 1, 1, 1))) (.branch 15 (.leaf (3, 2, 1, 1)) (.leaf (5, 2, 1, 1)))))) (.branch 24 (.branch 20 (.branch 18 (.branch 17 (.leaf (2, 2, 1, 1)) (.leaf (3, 1, 1, 1))) (.branch 19 (.leaf (3, 1, 1, 1)) (.leaf (3, 1, 1, 1)))) (.branch 22 (.branch 21 (.leaf (2, 2, 2, 2)) (.leaf (3, 3, 1, 2))) (.branch 23 (.leaf (2, 1, 0, 2)) (.leaf (2, 1, 0, 2))))) (.branch 28 (.branch 26 (.branch 25 (.leaf (4, 2, 0, 2)) (.leaf (4, 2, 1, 2))) (.branch 27 (.leaf (6, 3, 1, 2)) (.leaf (8, 2, 1, 2)))) (.branch 30 (.branch 29 (.leaf (12, 4, 1, 2)) (.leaf (5, 3, 1, 2))) (.branch 31 (.leaf (4, 3, 1, 2)) (.leaf (6, 2, 1, 2))))))) (.branch 48 (.branch 40 (.branch 36 (.branch 34 (.branch 33 (.leaf (4, 2, 1, 2)) (.leaf (1, 1, 2, 3))) (.branch 35 (.leaf (3, 2, 1, 3)) (.leaf (3, 3, 1, 3)))) (.branch 38 (.branch 37 (.leaf (9, 4, 0, 3)) (.leaf (12, 3, 1, 3))) (.branch 39 (.leaf (5, 3, 0, 3)) (.leaf (7, 4, 1, 3))))) (.branch 44 (.branch 42 (.branch 41 (.leaf (3, 3, 1, 3)) (.leaf (1, 1, 2, 4))) (.branch 43 (.leaf (1, 1, 1, 4)) (.leaf (3, 3, 1, 4)))) (.branch 46 (.branch 45 (.leaf (3, 3, 1, 4)) (.leaf (6, 5, 1, 4))) (.branch 47 (.leaf (5, 3, 1, 4)) (.leaf (1, 1, 2, 5)))))) (.branch 56 (.branch 52 (.branch 50 (.branch 49 (.leaf (1, 1, 1, 5)) (.leaf (2, 2, 1, 5))) (.branch 51 (.leaf (1, 1, 1, 5)) (.leaf (1, 1, 1, 5)))) (.branch 54 (.branch 53 (.leaf (2, 2, 1, 5)) (.leaf (3, 2, 1, 5))) (.branch 55 (.leaf (1, 1, 2, 6)) (.leaf (3, 2, 1, 6))))) (.branch 60 (.branch 58 (.branch 57 (.leaf (6, 3, 1, 6)) (.leaf (2, 2, 1, 6))) (.branch 59 (.leaf (1, 1, 0, 6)) (.leaf (3, 1, 1, 6)))) (.branch 62 (.branch 61 (.leaf (1, 1, 1, 6)) (.leaf (2, 2, 1, 6))) (.branch 63 (.leaf (2, 2, 1, 6)) (.branch 64 (.leaf (3, 1, 1, 6)) (.leaf (3, 3, 1, 6))))))))) (.branch 98 (.branch 81 (.branch 73 (.branch 69 (.branch 67 (.branch 66 (.leaf (3, 3, 1, 6)) (.leaf (4, 2, 1, 6))) (.branch 68 (.leaf (4, 2, 1, 6)) (.leaf (6, 3, 1, 6)))) (.branch 71 (.branch 70 (.leaf (6, 3, 0, 6)) (.leaf (4, 2, 1, 6))) (.branch 72 (.leaf (4, 2, 1, 6)) (.leaf (4, 1, 1, 6))))) (.branch 77 (.branch 75 (.branch 74 (.leaf (5, 3, 1, 6)) (.leaf (3, 2, 2, 7))) (.branch 76 (.leaf (3, 1, 1, 7)) (.leaf (2, 2, 1, 7)))) (.branch 79 (.branch 78 (.leaf (4, 3, 1, 7)) (.leaf (6, 3, 1, 7))) (.branch 80 (.leaf (5, 4, 1, 7)) (.leaf (5, 3, 1, 7)))))) (.branch 89 (.branch 85 (.branch 83 (.branch 82 (.leaf (5, 3, 1, 7)) (.leaf (6, 3, 1, 7))) (.branch 84 (.leaf (7, 3, 1, 7)) (.leaf (3, 3, 2, 8)))) (.branch 87 (.branch 86 (.leaf (4, 2, 1, 8)) (.leaf (5, 3, 1, 8))) (.branch 88 (.leaf (7, 4, 1, 8)) (.leaf (3, 2, 1, 8))))) (.branch 93 (.branch 91 (.branch 90 (.leaf (4, 2, 1, 8)) (.leaf (6, 1, 1, 8))) (.branch 92 (.leaf (5, 2, 1, 8)) (.leaf (4, 3, 1, 8)))) (.branch 95 (.branch 94 (.leaf (4, 3, 1, 8)) (.leaf (4, 2, 1, 8))) (.branch 96 (.leaf (5, 3, 1, 8)) (.branch 97 (.leaf (1, 1, 2, 9)) (.leaf (6, 5, 1, 9)))))))) (.branch 114 (.branch 106 (.branch 102 (.branch 100 (.branch 99 (.leaf (4, 3, 0, 9)) (.leaf (7, 4, 1, 9))) (.branch 101 (.leaf (6, 2, 1, 9)) (.leaf (4, 3, 1, 9)))) (.branch 104 (.branch 103 (.leaf (4, 2, 1, 9)) (.leaf (4, 3, 2, 10))) (.branch 105 (.leaf (3, 2, 1, 10)) (.leaf (3, 2, 1, 10))))) (.branch 110 (.branch 108 (.branch 107 (.leaf (4, 1, 1, 10)) (.leaf (3, 1, 1, 10))) (.branch 109 (.leaf (5, 1, 1, 10)) (.leaf (3, 3, 1, 10)))) (.branch 112 (.branch 111 (.leaf (3, 2, 1, 10)) (.leaf (4, 2, 1, 10))) (.branch 113 (.leaf (4, 3, 1, 10)) (.leaf (1, 1, 1, 10)))))) (.branch 122 (.branch 118 (.branch 116 (.branch 115 (.leaf (2, 2, 1, 10)) (.leaf (1, 1, 1, 10))) (.branch 117 (.leaf (3, 2, 1, 10)) (.leaf (1, 1, 1, 10)))) (.branch 120 (.branch 119 (.leaf (1, 1, 0, 10)) (.leaf (2, 1, 2, 11))) (.branch 121 (.leaf (6, 6, 1, 11)) (.leaf (3, 2, 1, 11))))) (.branch 126 (.branch 124 (.branch 123 (.leaf (2, 2, 1, 11)) (.leaf (5, 4, 1, 11))) (.branch 125 (.leaf (4, 3, 1, 11)) (.leaf (4, 3, 1, 11)))) (.branch 128 (.branch 127 (.leaf (3, 3, 1, 11)) (.leaf (4, 3, 1, 11))) (.branch 129 (.leaf (3, 3, 1, 11)) (.branch 130 (.leaf (6, 4, 1, 11)) (.leaf (3, 3, 1, 11)))))))))) (.branch 197 (.branch 164 (.branch 147 (.branch 139 (.branch 135 (.branch 133 (.branch 132 (.leaf (1, 1, 1, 11)) (.leaf (4, 3, 1, 11))) (.branch 134 (.leaf (5, 4, 1, 11)) (.leaf (3, 3, 1, 11)))) (.branch 137 (.branch 136 (.leaf (3, 3, 1, 11)) (.leaf (5, 3, 1, 11))) (.branch 138 (.leaf (3, 2, 1, 11)) (.leaf (4, 3, 1, 11))))) (.branch 143 (.branch 141 (.branch 140 (.leaf (3, 3, 1, 11)) (.leaf (2, 2, 1, 11))) (.branch 142 (.leaf (3, 3, 1, 11)) (.leaf (4, 4, 1, 11)))) (.branch 145 (.branch 144 (.leaf (3, 3, 1, 11)) (.leaf (3, 3, 1, 11))) (.branch 146 (.leaf (7, 3, 1, 11)) (.leaf (4, 3, 1, 11)))))) (.branch 155 (.branch 151 (.branch 149 (.branch 148 (.leaf (5, 3, 1, 11)) (.leaf (6, 3, 1, 11))) (.branch 150 (.leaf (5, 3, 1, 11)) (.leaf (3, 2, 1, 11)))) (.branch 153 (.branch 152 (.leaf (4, 3, 1, 11)) (.leaf (4, 3, 1, 11))) (.branch 154 (.leaf (2, 2, 1, 11)) (.leaf (1, 1, 0, 11))))) (.branch 159 (.branch 157 (.branch 156 (.leaf (3, 3, 1, 11)) (.leaf (1, 1, 0, 11))) (.branch 158 (.leaf (2, 2, 1, 11)) (.leaf (3, 3, 1, 11)))) (.branch 161 (.branch 160 (.leaf (1, 1, 0, 11)) (.leaf (3, 2, 1, 11))) (.branch 162 (.leaf (6, 2, 1, 11)) (.branch 163 (.leaf (3, 1, 1, 11)) (.leaf (3, 1, 1, 11)))))))) (.branch 180 (.branch 172 (.branch 168 (.branch 166 (.branch 165 (.leaf (1, 1, 2, 12)) (.leaf (6, 3, 0, 12))) (.branch 167 (.leaf (2, 2, 0, 12)) (.leaf (3, 3, 0, 12)))) (.branch 170 (.branch 169 (.leaf (1, 1, 0, 12)) (.leaf (1, 1, 0, 12))) (.branch 171 (.leaf (9, 6, 1, 12)) (.leaf (4, 3, 1, 12))))) (.branch 176 (.branch 174 (.branch 173 (.leaf (3, 3, 1, 12)) (.leaf (8, 3, 0, 12))) (.branch 175 (.leaf (3, 3, 0, 12)) (.leaf (5, 3, 0, 12)))) (.branch 178 (.branch 177 (.leaf (8, 2, 0, 12)) (.leaf (7, 5, 1, 12))) (.branch 179 (.leaf (8, 6, 1, 12)) (.leaf (1, 1, 1, 12)))))) (.branch 188 (.branch 184 (.branch 182 (.branch 181 (.leaf (3, 3, 1, 12)) (.leaf (1, 1, 0, 12))) (.branch 183 (.leaf (1, 1, 0, 12)) (.leaf (2, 1, 1, 12)))) (.branch 186 (.branch 185 (.leaf (7, 1, 1, 12)) (.leaf (5, 4, 1, 12))) (.branch 187 (.leaf (6, 2, 1, 12)) (.leaf (5, 1, 1, 12))))) (.branch 192 (.branch 190 (.branch 189 (.leaf (5, 2, 1, 12)) (.leaf (4, 2, 1, 12))) (.branch 191 (.leaf (2, 2, 1, 12)) (.leaf (1, 1, 0, 12)))) (.branch 194 (.branch 193 (.leaf (2, 2, 1, 12)) (.leaf (2, 2, 1, 12))) (.branch 195 (.leaf (2, 2, 1, 12)) (.branch 196 (.leaf (3, 3, 1, 12)) (.leaf (4, 4, 1, 12))))))))) (.branch 230 (.branch 213 (.branch 205 (.branch 201 (.branch 199 (.branch 198 (.leaf (2, 2, 1, 12)) (.leaf (3, 3, 1, 12))) (.branch 200 (.leaf (3, 3, 1, 12)) (.leaf (5, 2, 0, 12)))) (.branch 203 (.branch 202 (.leaf (4, 3, 1, 12)) (.leaf (3, 2, 1, 12))) (.branch 204 (.leaf (5, 4, 1, 12)) (.leaf (2, 1, 1, 12))))) (.branch 209 (.branch 207 (.branch 206 (.leaf (4, 4, 1, 12)) (.leaf (4, 3, 1, 12))) (.branch 208 (.leaf (3, 3, 1, 12)) (.leaf (3, 3, 1, 12)))) (.branch 211 (.branch 210 (.leaf (3, 3, 1, 12)) (.leaf (4, 2, 0, 12))) (.branch 212 (.leaf (3, 3, 1, 12)) (.leaf (6, 4, 1, 12)))))) (.branch 221 (.branch 217 (.branch 215 (.branch 214 (.leaf (4, 3, 1, 12)) (.leaf (2, 1, 1, 12))) (.branch 216 (.leaf (4, 2, 1, 12)) (.leaf (6, 2, 1, 12)))) (.branch 219 (.branch 218 (.leaf (4, 3, 1, 12)) (.leaf (6, 4, 1, 12))) (.branch 220 (.leaf (3, 3, 1, 12)) (.leaf (3, 3, 1, 12))))) (.branch 225 (.branch 223 (.branch 222 (.leaf (4, 2, 1, 12)) (.leaf (6, 4, 1, 12))) (.branch 224 (.leaf (6, 4, 1, 12)) (.leaf (10, 3, 1, 12)))) (.branch 227 (.branch 226 (.leaf (6, 4, 1, 12)) (.leaf (6, 4, 1, 12))) (.branch 228 (.leaf (6, 2, 1, 12)) (.branch 229 (.leaf (4, 3, 1, 12)) (.leaf (3, 2, 0, 12)))))))) (.branch 246 (.branch 238 (.branch 234 (.branch 232 (.branch 231 (.leaf (5, 2, 0, 12)) (.leaf (5, 4, 0, 12))) (.branch 233 (.leaf (4, 4, 1, 12)) (.leaf (1, 1, 0, 12)))) (.branch 236 (.branch 235 (.leaf (3, 3, 1, 12)) (.leaf (6, 3, 1, 12))) (.branch 237 (.leaf (5, 4, 0, 12)) (.leaf (3, 2, 1, 12))))) (.branch 242 (.branch 240 (.branch 239 (.leaf (11, 3, 1, 12)) (.leaf (3, 3, 1, 12))) (.branch 241 (.leaf (7, 3, 1, 12)) (.leaf (9, 4, 1, 12)))) (.branch 244 (.branch 243 (.leaf (3, 3, 1, 12)) (.leaf (8, 3, 1, 12))) (.branch 245 (.leaf (4, 2, 1, 12)) (.leaf (6, 4, 1, 12)))))) (.branch 254 (.branch 250 (.branch 248 (.branch 247 (.leaf (4, 2, 1, 12)) (.leaf (9, 2, 1, 12))) (.branch 249 (.leaf (10, 3, 1, 12)) (.leaf (4, 3, 1, 12)))) (.branch 252 (.branch 251 (.leaf (4, 3, 1, 12)) (.leaf (2, 2, 1, 12))) (.branch 253 (.leaf (4, 3, 1, 12)) (.leaf (6, 3, 1, 12))))) (.branch 258 (.branch 256 (.branch 255 (.leaf (4, 2, 1, 12)) (.leaf (1, 1, 0, 60))) (.branch 257 (.leaf (2, 2, 1, 50)) (.leaf (2, 2, 0, 50)))) (.branch 260 (.branch 259 (.leaf (1, 1, 1, 50)) (.leaf (1, 1, 1, 50))) (.branch 261 (.leaf (1, 1, 1, 50)) (.branch 262 (.leaf (2, 2, 0, 60)) (.leaf (3, 3, 0, 60))))))))))
def mMax (k : Nat) : Nat := (mNumT.get k).1
def mArgs (k : Nat) : Nat := (mNumT.get k).2.1
def mKind (k : Nat) : Nat := (mNumT.get k).2.2.1
def mCls (k : Nat) : Nat := (mNumT.get k).2.2.2
/-- places of its words in lw_tbl: code, initialized, static or instanceMethod, selects -/
def mPos : Lean.RArray (Nat × Nat × Nat × Nat) :=
  .branch 131 (.branch 65 (.branch 32 (.branch 16 (.branch 8 (.branch 4 (.branch 2 (.branch 1 (.leaf (0, 76, 0, 0)) (.leaf (215, 83, 214, 0))) (.branch 3 (.leaf (801, 83, 799, 800)) (.leaf (736, 83, 734, 735)))) (.branch 6 (.branch 5 (.leaf (732, 83, 730, 731)) (.leaf (944, 83, 942, 943))) (.branch 7 (.leaf (889, 83, 887, 888)) (.leaf (291, 87, 290, 0))))) (.branch 12 (.branch 10 (.branch 9 (.leaf (646, 87, 644, 645)) (.leaf (463, 87, 461, 462))) (.branch 11 (.leaf (632, 87, 630, 631)) (.leaf (635, 87, 634, 0)))) (.branch 14 (.branch 13 (.leaf (747, 87, 746, 0)) (.leaf (744, 87, 742, 743))) (.branch 15 (.leaf (760, 87, 758, 759)) (.leaf (931, 87, 929, 930)))))) (.branch 24 (.branch 20 (.branch 18 (.branch 17 (.leaf (780, 87, 778, 779)) (.leaf (1079, 87, 1077, 1078))) (.branch 19 (.leaf (1084, 87, 1082, 1083)) (.leaf (776, 87, 774, 775)))) (.branch 22 (.branch 21 (.leaf (164, 81, 163, 0)) (.leaf (990, 81, 988, 989))) (.branch 23 (.leaf (994, 81, 993, 0)) (.leaf (999, 81, 998, 0))))) (.branch 28 (.branch 26 (.branch 25 (.leaf (1003, 81, 1002, 0)) (.leaf (1007, 81, 1006, 29))) (.branch 27 (.leaf (1011, 81, 1010, 30)) (.leaf (1021, 81, 1019, 1020)))) (.branch 30 (.branch 29 (.leaf (1027, 81, 1026, 31)) (.leaf (1035, 81, 1033, 1034))) (.branch 31 (.leaf (1039, 81, 1038, 32)) (.leaf (1044, 81, 1043, 33))))))) (.branch 48 (.branch 40 (.branch 36 (.branch 34 (.branch 33 (.leaf (1048, 81, 1047, 34)) (.leaf (132, 79, 131, 0))) (.branch 35 (.leaf (597, 79, 595, 596)) (.leaf (879, 79, 877, 878)))) (.branch 38 (.branch 37 (.leaf (605, 79, 604, 0)) (.leaf (610, 79, 609, 14))) (.branch 39 (.leaf (620, 79, 619, 0)) (.leaf (624, 79, 623, 15))))) (.branch 44 (.branch 42 (.branch 41 (.leaf (628, 79, 627, 16)) (.leaf (113, 78, 112, 0))) (.branch 43 (.leaf (651, 78, 649, 650)) (.leaf (670, 78, 668, 669)))) (.branch 46 (.branch 45 (.leaf (728, 78, 726, 727)) (.leaf (674, 78, 673, 18))) (.branch 47 (.leaf (813, 78, 811, 812)) (.leaf (223, 84, 222, 0)))))) (.branch 56 (.branch 52 (.branch 50 (.branch 49 (.leaf (948, 84, 946, 947)) (.leaf (955, 84, 953, 954))) (.branch 51 (.leaf (959, 84, 957, 958)) (.leaf (978, 84, 976, 977)))) (.branch 54 (.branch 53 (.leaf (964, 84, 962, 963)) (.leaf (969, 84, 967, 968))) (.branch 55 (.leaf (170, 82, 169, 0)) (.leaf (453, 82, 451, 452))))) (.branch 60 (.branch 58 (.branch 57 (.leaf (591, 82, 589, 590)) (.leaf (639, 82, 637, 638))) (.branch 59 (.leaf (583, 82, 582, 0)) (.leaf (580, 82, 578, 579)))) (.branch 62 (.branch 61 (.leaf (601, 82, 599, 600)) (.leaf (549, 82, 547, 548))) (.branch 63 (.leaf (831, 82, 829, 830)) (.branch 64 (.leaf (681, 82, 679, 680)) (.leaf (553, 82, 551, 552))))))))) (.branch 98 (.branch 81 (.branch 73 (.branch 69 (.branch 67 (.branch 66 (.leaf (558, 82, 556, 557)) (.leaf (691, 82, 689, 690))) (.branch 68 (.leaf (710, 82, 708, 709)) (.leaf (699, 82, 697, 698)))) (.branch 71 (.branch 70 (.leaf (702, 82, 701, 0)) (.leaf (851, 82, 849, 850))) (.branch 72 (.leaf (847, 82, 845, 846)) (.leaf (843, 82, 841, 842))))) (.branch 77 (.branch 75 (.branch 74 (.leaf (1056, 82, 1054, 1055)) (.leaf (283, 86, 282, 0))) (.branch 76 (.leaf (899, 86, 897, 898)) (.leaf (1163, 86, 1161, 1162)))) (.branch 79 (.branch 78 (.leaf (913, 86, 912, 26)) (.leaf (909, 86, 907, 908))) (.branch 80 (.leaf (919, 86, 918, 27)) (.leaf (923, 86, 922, 28)))))) (.branch 89 (.branch 85 (.branch 83 (.branch 82 (.leaf (927, 86, 925, 926)) (.leaf (940, 86, 938, 939))) (.branch 84 (.leaf (1147, 86, 1145, 1146)) (.leaf (249, 85, 248, 0)))) (.branch 87 (.branch 86 (.leaf (1073, 85, 1071, 1072)) (.leaf (1107, 85, 1105, 1106))) (.branch 88 (.leaf (1098, 85, 1096, 1097)) (.leaf (1125, 85, 1123, 1124))))) (.branch 93 (.branch 91 (.branch 90 (.leaf (1131, 85, 1130, 35)) (.leaf (1135, 85, 1134, 36))) (.branch 92 (.leaf (772, 85, 770, 771)) (.leaf (791, 85, 790, 21)))) (.branch 95 (.branch 94 (.leaf (797, 85, 796, 22)) (.leaf (805, 85, 804, 23))) (.branch 96 (.leaf (1116, 85, 1114, 1115)) (.branch 97 (.leaf (151, 80, 150, 0)) (.leaf (826, 80, 824, 825)))))))) (.branch 114 (.branch 106 (.branch 102 (.branch 100 (.branch 99 (.leaf (834, 80, 833, 0)) (.leaf (838, 80, 837, 24))) (.branch 101 (.leaf (822, 80, 820, 821)) (.leaf (859, 80, 857, 858)))) (.branch 104 (.branch 103 (.leaf (855, 80, 853, 854)) (.leaf (337, 88, 336, 0))) (.branch 105 (.leaf (445, 88, 443, 444)) (.leaf (449, 88, 448, 1))))) (.branch 110 (.branch 108 (.branch 107 (.leaf (587, 88, 586, 13)) (.leaf (529, 88, 528, 4))) (.branch 109 (.leaf (571, 88, 570, 11)) (.leaf (576, 88, 575, 12)))) (.branch 112 (.branch 111 (.leaf (541, 88, 540, 7)) (.leaf (545, 88, 544, 8))) (.branch 113 (.leaf (533, 88, 532, 5)) (.leaf (562, 88, 561, 9)))))) (.branch 122 (.branch 118 (.branch 116 (.branch 115 (.leaf (537, 88, 536, 6)) (.leaf (566, 88, 565, 10))) (.branch 117 (.leaf (477, 88, 476, 3)) (.leaf (469, 88, 468, 2)))) (.branch 120 (.branch 119 (.leaf (472, 88, 471, 0)) (.leaf (101, 77, 100, 0))) (.branch 121 (.leaf (433, 77, 431, 432)) (.leaf (441, 77, 439, 440))))) (.branch 126 (.branch 124 (.branch 123 (.leaf (655, 77, 653, 654)) (.leaf (659, 77, 657, 658))) (.branch 125 (.leaf (686, 77, 684, 685)) (.leaf (695, 77, 693, 694)))) (.branch 128 (.branch 127 (.leaf (706, 77, 704, 705)) (.leaf (715, 77, 713, 714))) (.branch 129 (.leaf (721, 77, 719, 720)) (.branch 130 (.leaf (751, 77, 749, 750)) (.leaf (764, 77, 762, 763)))))))))) (.branch 197 (.branch 164 (.branch 147 (.branch 139 (.branch 135 (.branch 133 (.branch 132 (.leaf (809, 77, 807, 808)) (.leaf (817, 77, 815, 816))) (.branch 134 (.leaf (870, 77, 868, 869)) (.leaf (875, 77, 873, 874)))) (.branch 137 (.branch 136 (.leaf (885, 77, 883, 884)) (.leaf (895, 77, 893, 894))) (.branch 138 (.leaf (936, 77, 934, 935)) (.leaf (973, 77, 971, 972))))) (.branch 143 (.branch 141 (.branch 140 (.leaf (983, 77, 981, 982)) (.leaf (1017, 77, 1015, 1016))) (.branch 142 (.leaf (1031, 77, 1029, 1030)) (.leaf (1052, 77, 1050, 1051)))) (.branch 145 (.branch 144 (.leaf (1060, 77, 1058, 1059)) (.leaf (1064, 77, 1062, 1063))) (.branch 146 (.leaf (1069, 77, 1067, 1068)) (.leaf (1089, 77, 1087, 1088)))))) (.branch 155 (.branch 151 (.branch 149 (.branch 148 (.leaf (1094, 77, 1092, 1093)) (.leaf (1103, 77, 1101, 1102))) (.branch 150 (.leaf (1112, 77, 1110, 1111)) (.leaf (1121, 77, 1119, 1120)))) (.branch 153 (.branch 152 (.leaf (1139, 77, 1137, 1138)) (.leaf (1143, 77, 1141, 1142))) (.branch 154 (.leaf (1151, 77, 1149, 1150)) (.leaf (666, 77, 665, 0))))) (.branch 159 (.branch 157 (.branch 156 (.leaf (663, 77, 662, 17)) (.leaf (724, 77, 723, 0))) (.branch 158 (.leaf (768, 77, 767, 20)) (.leaf (755, 77, 754, 19)))) (.branch 161 (.branch 160 (.leaf (986, 77, 985, 0)) (.leaf (437, 77, 436, 0))) (.branch 162 (.leaf (863, 77, 862, 25)) (.branch 163 (.leaf (1155, 77, 1154, 37)) (.leaf (1159, 77, 1158, 38)))))))) (.branch 180 (.branch 172 (.branch 168 (.branch 166 (.branch 165 (.leaf (1168, 89, 1167, 0)) (.leaf (1274, 89, 1273, 0))) (.branch 167 (.leaf (1321, 89, 1320, 0)) (.leaf (1318, 89, 1317, 0)))) (.branch 170 (.branch 169 (.leaf (1380, 89, 1379, 0)) (.leaf (1402, 89, 1401, 0))) (.branch 171 (.leaf (1342, 89, 1341, 50)) (.leaf (1337, 89, 1336, 49))))) (.branch 176 (.branch 174 (.branch 173 (.leaf (1333, 89, 1332, 48)) (.leaf (1395, 89, 1394, 0))) (.branch 175 (.leaf (1392, 89, 1391, 0)) (.leaf (1465, 89, 1464, 0)))) (.branch 178 (.branch 177 (.leaf (1462, 89, 1461, 0)) (.leaf (1490, 89, 1489, 65))) (.branch 179 (.leaf (1267, 89, 1265, 1266)) (.leaf (1278, 89, 1277, 39)))))) (.branch 188 (.branch 184 (.branch 182 (.branch 181 (.leaf (1302, 89, 1301, 43)) (.leaf (1289, 89, 1288, 0))) (.branch 183 (.leaf (1309, 89, 1308, 0)) (.leaf (1295, 89, 1294, 42)))) (.branch 186 (.branch 185 (.leaf (1286, 89, 1285, 41)) (.leaf (1306, 89, 1305, 44))) (.branch 187 (.leaf (1315, 89, 1314, 45)) (.leaf (1282, 89, 1281, 40))))) (.branch 192 (.branch 190 (.branch 189 (.leaf (1329, 89, 1328, 47)) (.leaf (1271, 89, 1269, 1270))) (.branch 191 (.leaf (1353, 89, 1351, 1352)) (.leaf (1360, 89, 1359, 0)))) (.branch 194 (.branch 193 (.leaf (1369, 89, 1368, 53)) (.leaf (1377, 89, 1376, 55))) (.branch 195 (.leaf (1410, 89, 1409, 56)) (.branch 196 (.leaf (1365, 89, 1364, 52)) (.leaf (1325, 89, 1324, 46))))))))) (.branch 230 (.branch 213 (.branch 205 (.branch 201 (.branch 199 (.branch 198 (.leaf (1434, 89, 1433, 59)) (.leaf (1442, 89, 1441, 61))) (.branch 200 (.leaf (1430, 89, 1429, 58)) (.leaf (1349, 89, 1348, 0)))) (.branch 203 (.branch 202 (.leaf (1346, 89, 1345, 51)) (.leaf (1438, 89, 1437, 60))) (.branch 204 (.leaf (1419, 89, 1418, 57)) (.leaf (1373, 89, 1372, 54))))) (.branch 209 (.branch 207 (.branch 206 (.leaf (1357, 89, 1355, 1356)) (.leaf (1385, 89, 1383, 1384))) (.branch 208 (.leaf (1389, 89, 1387, 1388)) (.leaf (1399, 89, 1397, 1398)))) (.branch 211 (.branch 210 (.leaf (1406, 89, 1404, 1405)) (.leaf (1422, 89, 1421, 0))) (.branch 212 (.leaf (1414, 89, 1412, 1413)) (.leaf (1426, 89, 1424, 1425)))))) (.branch 221 (.branch 217 (.branch 215 (.branch 214 (.leaf (1446, 89, 1444, 1445)) (.leaf (1454, 89, 1452, 1453))) (.branch 216 (.leaf (1473, 89, 1472, 64)) (.leaf (1469, 89, 1468, 63)))) (.branch 219 (.branch 218 (.leaf (1458, 89, 1456, 1457)) (.leaf (1477, 89, 1475, 1476))) (.branch 220 (.leaf (1482, 89, 1480, 1481)) (.leaf (1486, 89, 1484, 1485))))) (.branch 225 (.branch 223 (.branch 222 (.leaf (1498, 89, 1497, 66)) (.leaf (1506, 89, 1505, 68))) (.branch 224 (.leaf (1502, 89, 1501, 67)) (.leaf (1494, 89, 1492, 1493)))) (.branch 227 (.branch 226 (.leaf (1514, 89, 1513, 69)) (.leaf (1518, 89, 1517, 70))) (.branch 228 (.leaf (1510, 89, 1508, 1509)) (.branch 229 (.leaf (1522, 89, 1520, 1521)) (.leaf (1536, 89, 1535, 0)))))))) (.branch 246 (.branch 238 (.branch 234 (.branch 232 (.branch 231 (.leaf (1539, 89, 1538, 0)) (.leaf (1542, 89, 1541, 0))) (.branch 233 (.leaf (1533, 89, 1532, 71)) (.leaf (1529, 89, 1528, 0)))) (.branch 236 (.branch 235 (.leaf (1526, 89, 1524, 1525)) (.leaf (1546, 89, 1544, 1545))) (.branch 237 (.leaf (1553, 89, 1552, 0)) (.leaf (1550, 89, 1548, 1549))))) (.branch 242 (.branch 240 (.branch 239 (.leaf (1561, 89, 1560, 72)) (.leaf (1557, 89, 1555, 1556))) (.branch 241 (.leaf (1565, 89, 1563, 1564)) (.leaf (1569, 89, 1567, 1568)))) (.branch 244 (.branch 243 (.leaf (1573, 89, 1571, 1572)) (.leaf (1577, 89, 1575, 1576))) (.branch 245 (.leaf (1586, 89, 1585, 73)) (.leaf (1598, 89, 1597, 74)))))) (.branch 254 (.branch 250 (.branch 248 (.branch 247 (.leaf (1606, 89, 1605, 75)) (.leaf (1450, 89, 1449, 62))) (.branch 249 (.leaf (1581, 89, 1579, 1580)) (.leaf (1590, 89, 1588, 1589)))) (.branch 252 (.branch 251 (.leaf (1594, 89, 1592, 1593)) (.leaf (1602, 89, 1600, 1601))) (.branch 253 (.leaf (1610, 89, 1608, 1609)) (.leaf (1614, 89, 1612, 1613))))) (.branch 258 (.branch 256 (.branch 255 (.leaf (1618, 89, 1616, 1617)) (.leaf (613, 95, 612, 0))) (.branch 257 (.leaf (491, 91, 489, 490)) (.leaf (501, 91, 500, 0)))) (.branch 260 (.branch 259 (.leaf (485, 91, 483, 484)) (.leaf (495, 91, 493, 494))) (.branch 261 (.leaf (481, 91, 479, 480)) (.branch 262 (.leaf (498, 92, 497, 0)) (.leaf (506, 93, 505, 0))))))))))
end
section
/-- an instruction: itself, the next place, what it names (a field, a method, a place to go to ..) -/
abbrev mI : Type := Instr × Nat × Nat
abbrev mLf : Type := Nat × mI × Nat
set_option maxRecDepth 100000 in
def mt_0_0 : Lean.RArray mLf :=
  .branch 30 (.branch 17 (.branch 8 (.branch 4 (.branch 3 (.leaf (0, (.new 7, 3, 11), 97)) (.leaf (3, (.dup, 4, 0), 0))) (.branch 7 (.leaf (4, (.invokespecial 9, 7, 119), 99)) (.leaf (7, (.astore_n 1, 8, 0), 0)))) (.branch 12 (.branch 11 (.leaf (8, (.new 10, 11, 12), 1164)) (.leaf (11, (.dup, 12, 0), 0))) (.branch 15 (.leaf (12, (.invokespecial 12, 15, 164), 1166)) (.branch 16 (.leaf (15, (.astore_n 2, 16, 0), 0)) (.leaf (16, (.iconst 0, 17, 0), 0)))))) (.branch 23 (.branch 19 (.branch 18 (.leaf (17, (.istore_n 3, 18, 0), 0)) (.leaf (18, (.iload_n 3, 19, 0), 0))) (.branch 20 (.leaf (19, (.aload_n 0, 20, 0), 0)) (.branch 21 (.leaf (20, (.arraylength, 21, 0), 0)) (.leaf (21, (.bipush 6, 23, 0), 0))))) (.branch 27 (.branch 24 (.leaf (23, (.isub, 24, 0), 0)) (.leaf (24, (.if_icmp .gt 1278, 27, 1302), 0))) (.branch 28 (.leaf (27, (.aload_n 0, 28, 0), 0)) (.branch 29 (.leaf (28, (.iload_n 3, 29, 0), 0)) (.leaf (29, (.iaload, 30, 0), 0))))))) (.branch 190 (.branch 185 (.branch 33 (.branch 32 (.leaf (30, (.bipush 63, 32, 0), 0)) (.leaf (32, (.iand, 33, 0), 0))) (.branch 184 (.leaf (33, (.tableswitch 1263 0 33 #[151, 214, 237, 260, 303, 336, 369, 402, 435, 468, 511, 544, 557, 590, 633, 666, 699, 732, 755, 788, 821, 844, 877, 920, 953, 986, 1019, 1052, 1085, 1118, 1151, 1174, 1207, 1240], 184, 0), 0)) (.leaf (184, (.aload_n 1, 185, 0), 0)))) (.branch 187 (.branch 186 (.leaf (185, (.aload_n 0, 186, 0), 0)) (.leaf (186, (.iload_n 3, 187, 0), 0))) (.branch 188 (.leaf (187, (.iconst 1, 188, 0), 0)) (.branch 189 (.leaf (188, (.iadd, 189, 0), 0)) (.leaf (189, (.iaload, 190, 0), 0)))))) (.branch 195 (.branch 192 (.branch 191 (.leaf (190, (.aload_n 0, 191, 0), 0)) (.leaf (191, (.iload_n 3, 192, 0), 0))) (.branch 193 (.leaf (192, (.iconst 2, 193, 0), 0)) (.branch 194 (.leaf (193, (.iadd, 194, 0), 0)) (.leaf (194, (.iaload, 195, 0), 0))))) (.branch 197 (.branch 196 (.leaf (195, (.aload_n 0, 196, 0), 0)) (.leaf (196, (.iload_n 3, 197, 0), 0))) (.branch 198 (.leaf (197, (.iconst 3, 198, 0), 0)) (.branch 199 (.leaf (198, (.iadd, 199, 0), 0)) (.leaf (199, (.iaload, 200, 0), 0)))))))
set_option maxRecDepth 100000 in
def mt_0_1 : Lean.RArray mLf :=
  .branch 221 (.branch 209 (.branch 204 (.branch 202 (.branch 201 (.leaf (200, (.aload_n 0, 201, 0), 0)) (.leaf (201, (.iload_n 3, 202, 0), 0))) (.branch 203 (.leaf (202, (.iconst 4, 203, 0), 0)) (.leaf (203, (.iadd, 204, 0), 0)))) (.branch 206 (.branch 205 (.leaf (204, (.iaload, 205, 0), 0)) (.leaf (205, (.aload_n 0, 206, 0), 0))) (.branch 207 (.leaf (206, (.iload_n 3, 207, 0), 0)) (.branch 208 (.leaf (207, (.iconst 5, 208, 0), 0)) (.leaf (208, (.iadd, 209, 0), 0)))))) (.branch 216 (.branch 213 (.branch 210 (.leaf (209, (.iaload, 210, 0), 0)) (.leaf (210, (.invokevirtual 13, 213, 120), 430))) (.branch 214 (.leaf (213, (.aload_n 2, 214, 0), 0)) (.branch 215 (.leaf (214, (.aload_n 0, 215, 0), 0)) (.leaf (215, (.iload_n 3, 216, 0), 0))))) (.branch 218 (.branch 217 (.leaf (216, (.iconst 1, 217, 0), 0)) (.leaf (217, (.iadd, 218, 0), 0))) (.branch 219 (.leaf (218, (.iaload, 219, 0), 0)) (.branch 220 (.leaf (219, (.aload_n 0, 220, 0), 0)) (.leaf (220, (.iload_n 3, 221, 0), 0))))))) (.branch 231 (.branch 226 (.branch 223 (.branch 222 (.leaf (221, (.iconst 2, 222, 0), 0)) (.leaf (222, (.iadd, 223, 0), 0))) (.branch 224 (.leaf (223, (.iaload, 224, 0), 0)) (.branch 225 (.leaf (224, (.aload_n 0, 225, 0), 0)) (.leaf (225, (.iload_n 3, 226, 0), 0))))) (.branch 228 (.branch 227 (.leaf (226, (.iconst 3, 227, 0), 0)) (.leaf (227, (.iadd, 228, 0), 0))) (.branch 229 (.leaf (228, (.iaload, 229, 0), 0)) (.branch 230 (.leaf (229, (.aload_n 0, 230, 0), 0)) (.leaf (230, (.iload_n 3, 231, 0), 0)))))) (.branch 236 (.branch 233 (.branch 232 (.leaf (231, (.iconst 4, 232, 0), 0)) (.leaf (232, (.iadd, 233, 0), 0))) (.branch 234 (.leaf (233, (.iaload, 234, 0), 0)) (.branch 235 (.leaf (234, (.aload_n 0, 235, 0), 0)) (.leaf (235, (.iload_n 3, 236, 0), 0))))) (.branch 238 (.branch 237 (.leaf (236, (.iconst 5, 237, 0), 0)) (.leaf (237, (.iadd, 238, 0), 0))) (.branch 239 (.leaf (238, (.iaload, 239, 0), 0)) (.branch 242 (.leaf (239, (.invokevirtual 17, 242, 178), 1264)) (.leaf (242, (.if_icmp .eq 1054, 245, 1296), 0)))))))
set_option maxRecDepth 100000 in
def mt_0_2 : Lean.RArray mLf :=
  .branch 270 (.branch 256 (.branch 249 (.branch 247 (.branch 246 (.leaf (245, (.iconst 0, 246, 0), 0)) (.leaf (246, (.ireturn, 247, 0), 0))) (.branch 248 (.leaf (247, (.aload_n 1, 248, 0), 0)) (.leaf (248, (.aload_n 0, 249, 0), 0)))) (.branch 251 (.branch 250 (.leaf (249, (.iload_n 3, 250, 0), 0)) (.leaf (250, (.iconst 1, 251, 0), 0))) (.branch 252 (.leaf (251, (.iadd, 252, 0), 0)) (.branch 253 (.leaf (252, (.iaload, 253, 0), 0)) (.leaf (253, (.invokevirtual 18, 256, 121), 438)))))) (.branch 261 (.branch 258 (.branch 257 (.leaf (256, (.aload_n 2, 257, 0), 0)) (.leaf (257, (.aload_n 0, 258, 0), 0))) (.branch 259 (.leaf (258, (.iload_n 3, 259, 0), 0)) (.branch 260 (.leaf (259, (.iconst 1, 260, 0), 0)) (.leaf (260, (.iadd, 261, 0), 0))))) (.branch 265 (.branch 262 (.leaf (261, (.iaload, 262, 0), 0)) (.leaf (262, (.invokevirtual 22, 265, 189), 1268))) (.branch 268 (.leaf (265, (.if_icmp .eq 1031, 268, 1296), 0)) (.branch 269 (.leaf (268, (.iconst 0, 269, 0), 0)) (.leaf (269, (.ireturn, 270, 0), 0))))))) (.branch 282 (.branch 275 (.branch 272 (.branch 271 (.leaf (270, (.aload_n 1, 271, 0), 0)) (.leaf (271, (.aload_n 0, 272, 0), 0))) (.branch 273 (.leaf (272, (.iload_n 3, 273, 0), 0)) (.branch 274 (.leaf (273, (.iconst 1, 274, 0), 0)) (.leaf (274, (.iadd, 275, 0), 0))))) (.branch 279 (.branch 276 (.leaf (275, (.iaload, 276, 0), 0)) (.leaf (276, (.invokevirtual 23, 279, 122), 652))) (.branch 280 (.leaf (279, (.aload_n 2, 280, 0), 0)) (.branch 281 (.leaf (280, (.aload_n 0, 281, 0), 0)) (.leaf (281, (.iload_n 3, 282, 0), 0)))))) (.branch 291 (.branch 284 (.branch 283 (.leaf (282, (.iconst 1, 283, 0), 0)) (.leaf (283, (.iadd, 284, 0), 0))) (.branch 285 (.leaf (284, (.iaload, 285, 0), 0)) (.branch 288 (.leaf (285, (.invokevirtual 26, 288, 190), 1350)) (.leaf (288, (.if_icmp .eq 1008, 291, 1296), 0))))) (.branch 293 (.branch 292 (.leaf (291, (.iconst 0, 292, 0), 0)) (.leaf (292, (.ireturn, 293, 0), 0))) (.branch 294 (.leaf (293, (.aload_n 1, 294, 0), 0)) (.branch 295 (.leaf (294, (.aload_n 0, 295, 0), 0)) (.leaf (295, (.iload_n 3, 296, 0), 0)))))))
set_option maxRecDepth 100000 in
def mt_0_3 : Lean.RArray mLf :=
  .branch 317 (.branch 305 (.branch 300 (.branch 298 (.branch 297 (.leaf (296, (.iconst 1, 297, 0), 0)) (.leaf (297, (.iadd, 298, 0), 0))) (.branch 299 (.leaf (298, (.iaload, 299, 0), 0)) (.leaf (299, (.aload_n 0, 300, 0), 0)))) (.branch 302 (.branch 301 (.leaf (300, (.iload_n 3, 301, 0), 0)) (.leaf (301, (.iconst 2, 302, 0), 0))) (.branch 303 (.leaf (302, (.iadd, 303, 0), 0)) (.branch 304 (.leaf (303, (.iaload, 304, 0), 0)) (.leaf (304, (.aload_n 0, 305, 0), 0)))))) (.branch 312 (.branch 307 (.branch 306 (.leaf (305, (.iload_n 3, 306, 0), 0)) (.leaf (306, (.iconst 3, 307, 0), 0))) (.branch 308 (.leaf (307, (.iadd, 308, 0), 0)) (.branch 309 (.leaf (308, (.iaload, 309, 0), 0)) (.leaf (309, (.invokevirtual 27, 312, 123), 656))))) (.branch 314 (.branch 313 (.leaf (312, (.aload_n 2, 313, 0), 0)) (.leaf (313, (.aload_n 0, 314, 0), 0))) (.branch 315 (.leaf (314, (.iload_n 3, 315, 0), 0)) (.branch 316 (.leaf (315, (.iconst 1, 316, 0), 0)) (.leaf (316, (.iadd, 317, 0), 0))))))) (.branch 327 (.branch 322 (.branch 319 (.branch 318 (.leaf (317, (.iaload, 318, 0), 0)) (.leaf (318, (.aload_n 0, 319, 0), 0))) (.branch 320 (.leaf (319, (.iload_n 3, 320, 0), 0)) (.branch 321 (.leaf (320, (.iconst 2, 321, 0), 0)) (.leaf (321, (.iadd, 322, 0), 0))))) (.branch 324 (.branch 323 (.leaf (322, (.iaload, 323, 0), 0)) (.leaf (323, (.aload_n 0, 324, 0), 0))) (.branch 325 (.leaf (324, (.iload_n 3, 325, 0), 0)) (.branch 326 (.leaf (325, (.iconst 3, 326, 0), 0)) (.leaf (326, (.iadd, 327, 0), 0)))))) (.branch 336 (.branch 331 (.branch 328 (.leaf (327, (.iaload, 328, 0), 0)) (.leaf (328, (.invokevirtual 31, 331, 205), 1354))) (.branch 334 (.leaf (331, (.if_icmp .eq 965, 334, 1296), 0)) (.branch 335 (.leaf (334, (.iconst 0, 335, 0), 0)) (.leaf (335, (.ireturn, 336, 0), 0))))) (.branch 338 (.branch 337 (.leaf (336, (.aload_n 1, 337, 0), 0)) (.leaf (337, (.aload_n 0, 338, 0), 0))) (.branch 339 (.leaf (338, (.iload_n 3, 339, 0), 0)) (.branch 340 (.leaf (339, (.iconst 1, 340, 0), 0)) (.leaf (340, (.iadd, 341, 0), 0)))))))
set_option maxRecDepth 100000 in
def mt_0_4 : Lean.RArray mLf :=
  .branch 364 (.branch 352 (.branch 345 (.branch 343 (.branch 342 (.leaf (341, (.iaload, 342, 0), 0)) (.leaf (342, (.aload_n 0, 343, 0), 0))) (.branch 344 (.leaf (343, (.iload_n 3, 344, 0), 0)) (.leaf (344, (.iconst 2, 345, 0), 0)))) (.branch 347 (.branch 346 (.leaf (345, (.iadd, 346, 0), 0)) (.leaf (346, (.iaload, 347, 0), 0))) (.branch 350 (.leaf (347, (.invokevirtual 32, 350, 124), 683)) (.branch 351 (.leaf (350, (.aload_n 2, 351, 0), 0)) (.leaf (351, (.aload_n 0, 352, 0), 0)))))) (.branch 357 (.branch 354 (.branch 353 (.leaf (352, (.iload_n 3, 353, 0), 0)) (.leaf (353, (.iconst 1, 354, 0), 0))) (.branch 355 (.leaf (354, (.iadd, 355, 0), 0)) (.branch 356 (.leaf (355, (.iaload, 356, 0), 0)) (.leaf (356, (.aload_n 0, 357, 0), 0))))) (.branch 359 (.branch 358 (.leaf (357, (.iload_n 3, 358, 0), 0)) (.leaf (358, (.iconst 2, 359, 0), 0))) (.branch 360 (.leaf (359, (.iadd, 360, 0), 0)) (.branch 361 (.leaf (360, (.iaload, 361, 0), 0)) (.leaf (361, (.invokevirtual 36, 364, 206), 1382))))))) (.branch 376 (.branch 371 (.branch 368 (.branch 367 (.leaf (364, (.if_icmp .eq 932, 367, 1296), 0)) (.leaf (367, (.iconst 0, 368, 0), 0))) (.branch 369 (.leaf (368, (.ireturn, 369, 0), 0)) (.branch 370 (.leaf (369, (.aload_n 1, 370, 0), 0)) (.leaf (370, (.aload_n 0, 371, 0), 0))))) (.branch 373 (.branch 372 (.leaf (371, (.iload_n 3, 372, 0), 0)) (.leaf (372, (.iconst 1, 373, 0), 0))) (.branch 374 (.leaf (373, (.iadd, 374, 0), 0)) (.branch 375 (.leaf (374, (.iaload, 375, 0), 0)) (.leaf (375, (.aload_n 0, 376, 0), 0)))))) (.branch 383 (.branch 378 (.branch 377 (.leaf (376, (.iload_n 3, 377, 0), 0)) (.leaf (377, (.iconst 2, 378, 0), 0))) (.branch 379 (.leaf (378, (.iadd, 379, 0), 0)) (.branch 380 (.leaf (379, (.iaload, 380, 0), 0)) (.leaf (380, (.invokevirtual 37, 383, 125), 692))))) (.branch 385 (.branch 384 (.leaf (383, (.aload_n 2, 384, 0), 0)) (.leaf (384, (.aload_n 0, 385, 0), 0))) (.branch 386 (.leaf (385, (.iload_n 3, 386, 0), 0)) (.branch 387 (.leaf (386, (.iconst 1, 387, 0), 0)) (.leaf (387, (.iadd, 388, 0), 0)))))))
set_option maxRecDepth 100000 in
def mt_0_5 : Lean.RArray mLf :=
  .branch 411 (.branch 401 (.branch 392 (.branch 390 (.branch 389 (.leaf (388, (.iaload, 389, 0), 0)) (.leaf (389, (.aload_n 0, 390, 0), 0))) (.branch 391 (.leaf (390, (.iload_n 3, 391, 0), 0)) (.leaf (391, (.iconst 2, 392, 0), 0)))) (.branch 394 (.branch 393 (.leaf (392, (.iadd, 393, 0), 0)) (.leaf (393, (.iaload, 394, 0), 0))) (.branch 397 (.leaf (394, (.invokevirtual 40, 397, 207), 1386)) (.branch 400 (.leaf (397, (.if_icmp .eq 899, 400, 1296), 0)) (.leaf (400, (.iconst 0, 401, 0), 0)))))) (.branch 406 (.branch 403 (.branch 402 (.leaf (401, (.ireturn, 402, 0), 0)) (.leaf (402, (.aload_n 1, 403, 0), 0))) (.branch 404 (.leaf (403, (.aload_n 0, 404, 0), 0)) (.branch 405 (.leaf (404, (.iload_n 3, 405, 0), 0)) (.leaf (405, (.iconst 1, 406, 0), 0))))) (.branch 408 (.branch 407 (.leaf (406, (.iadd, 407, 0), 0)) (.leaf (407, (.iaload, 408, 0), 0))) (.branch 409 (.leaf (408, (.aload_n 0, 409, 0), 0)) (.branch 410 (.leaf (409, (.iload_n 3, 410, 0), 0)) (.leaf (410, (.iconst 2, 411, 0), 0))))))) (.branch 423 (.branch 418 (.branch 413 (.branch 412 (.leaf (411, (.iadd, 412, 0), 0)) (.leaf (412, (.iaload, 413, 0), 0))) (.branch 416 (.leaf (413, (.invokevirtual 41, 416, 126), 703)) (.branch 417 (.leaf (416, (.aload_n 2, 417, 0), 0)) (.leaf (417, (.aload_n 0, 418, 0), 0))))) (.branch 420 (.branch 419 (.leaf (418, (.iload_n 3, 419, 0), 0)) (.leaf (419, (.iconst 1, 420, 0), 0))) (.branch 421 (.leaf (420, (.iadd, 421, 0), 0)) (.branch 422 (.leaf (421, (.iaload, 422, 0), 0)) (.leaf (422, (.aload_n 0, 423, 0), 0)))))) (.branch 430 (.branch 425 (.branch 424 (.leaf (423, (.iload_n 3, 424, 0), 0)) (.leaf (424, (.iconst 2, 425, 0), 0))) (.branch 426 (.leaf (425, (.iadd, 426, 0), 0)) (.branch 427 (.leaf (426, (.iaload, 427, 0), 0)) (.leaf (427, (.invokevirtual 44, 430, 208), 1396))))) (.branch 434 (.branch 433 (.leaf (430, (.if_icmp .eq 866, 433, 1296), 0)) (.leaf (433, (.iconst 0, 434, 0), 0))) (.branch 435 (.leaf (434, (.ireturn, 435, 0), 0)) (.branch 436 (.leaf (435, (.aload_n 1, 436, 0), 0)) (.leaf (436, (.aload_n 0, 437, 0), 0)))))))
set_option maxRecDepth 100000 in
def mt_0_6 : Lean.RArray mLf :=
  .branch 458 (.branch 446 (.branch 441 (.branch 439 (.branch 438 (.leaf (437, (.iload_n 3, 438, 0), 0)) (.leaf (438, (.iconst 1, 439, 0), 0))) (.branch 440 (.leaf (439, (.iadd, 440, 0), 0)) (.leaf (440, (.iaload, 441, 0), 0)))) (.branch 443 (.branch 442 (.leaf (441, (.aload_n 0, 442, 0), 0)) (.leaf (442, (.iload_n 3, 443, 0), 0))) (.branch 444 (.leaf (443, (.iconst 2, 444, 0), 0)) (.branch 445 (.leaf (444, (.iadd, 445, 0), 0)) (.leaf (445, (.iaload, 446, 0), 0)))))) (.branch 453 (.branch 450 (.branch 449 (.leaf (446, (.invokevirtual 45, 449, 127), 712)) (.leaf (449, (.aload_n 2, 450, 0), 0))) (.branch 451 (.leaf (450, (.aload_n 0, 451, 0), 0)) (.branch 452 (.leaf (451, (.iload_n 3, 452, 0), 0)) (.leaf (452, (.iconst 1, 453, 0), 0))))) (.branch 455 (.branch 454 (.leaf (453, (.iadd, 454, 0), 0)) (.leaf (454, (.iaload, 455, 0), 0))) (.branch 456 (.leaf (455, (.aload_n 0, 456, 0), 0)) (.branch 457 (.leaf (456, (.iload_n 3, 457, 0), 0)) (.leaf (457, (.iconst 2, 458, 0), 0))))))) (.branch 472 (.branch 467 (.branch 460 (.branch 459 (.leaf (458, (.iadd, 459, 0), 0)) (.leaf (459, (.iaload, 460, 0), 0))) (.branch 463 (.leaf (460, (.invokevirtual 48, 463, 209), 1403)) (.branch 466 (.leaf (463, (.if_icmp .eq 833, 466, 1296), 0)) (.leaf (466, (.iconst 0, 467, 0), 0))))) (.branch 469 (.branch 468 (.leaf (467, (.ireturn, 468, 0), 0)) (.leaf (468, (.aload_n 1, 469, 0), 0))) (.branch 470 (.leaf (469, (.aload_n 0, 470, 0), 0)) (.branch 471 (.leaf (470, (.iload_n 3, 471, 0), 0)) (.leaf (471, (.iconst 1, 472, 0), 0)))))) (.branch 477 (.branch 474 (.branch 473 (.leaf (472, (.iadd, 473, 0), 0)) (.leaf (473, (.iaload, 474, 0), 0))) (.branch 475 (.leaf (474, (.aload_n 0, 475, 0), 0)) (.branch 476 (.leaf (475, (.iload_n 3, 476, 0), 0)) (.leaf (476, (.iconst 2, 477, 0), 0))))) (.branch 479 (.branch 478 (.leaf (477, (.iadd, 478, 0), 0)) (.leaf (478, (.iaload, 479, 0), 0))) (.branch 482 (.leaf (479, (.invokevirtual 49, 482, 128), 718)) (.branch 483 (.leaf (482, (.aload_n 2, 483, 0), 0)) (.leaf (483, (.aload_n 0, 484, 0), 0)))))))
set_option maxRecDepth 100000 in
def mt_0_7 : Lean.RArray mLf :=
  .branch 507 (.branch 493 (.branch 488 (.branch 486 (.branch 485 (.leaf (484, (.iload_n 3, 485, 0), 0)) (.leaf (485, (.iconst 1, 486, 0), 0))) (.branch 487 (.leaf (486, (.iadd, 487, 0), 0)) (.leaf (487, (.iaload, 488, 0), 0)))) (.branch 490 (.branch 489 (.leaf (488, (.aload_n 0, 489, 0), 0)) (.leaf (489, (.iload_n 3, 490, 0), 0))) (.branch 491 (.leaf (490, (.iconst 2, 491, 0), 0)) (.branch 492 (.leaf (491, (.iadd, 492, 0), 0)) (.leaf (492, (.iaload, 493, 0), 0)))))) (.branch 502 (.branch 499 (.branch 496 (.leaf (493, (.invokevirtual 52, 496, 211), 1411)) (.leaf (496, (.if_icmp .eq 800, 499, 1296), 0))) (.branch 500 (.leaf (499, (.iconst 0, 500, 0), 0)) (.branch 501 (.leaf (500, (.ireturn, 501, 0), 0)) (.leaf (501, (.aload_n 1, 502, 0), 0))))) (.branch 504 (.branch 503 (.leaf (502, (.aload_n 0, 503, 0), 0)) (.leaf (503, (.iload_n 3, 504, 0), 0))) (.branch 505 (.leaf (504, (.iconst 1, 505, 0), 0)) (.branch 506 (.leaf (505, (.iadd, 506, 0), 0)) (.leaf (506, (.iaload, 507, 0), 0))))))) (.branch 517 (.branch 512 (.branch 509 (.branch 508 (.leaf (507, (.aload_n 0, 508, 0), 0)) (.leaf (508, (.iload_n 3, 509, 0), 0))) (.branch 510 (.leaf (509, (.iconst 2, 510, 0), 0)) (.branch 511 (.leaf (510, (.iadd, 511, 0), 0)) (.leaf (511, (.iaload, 512, 0), 0))))) (.branch 514 (.branch 513 (.leaf (512, (.aload_n 0, 513, 0), 0)) (.leaf (513, (.iload_n 3, 514, 0), 0))) (.branch 515 (.leaf (514, (.iconst 3, 515, 0), 0)) (.branch 516 (.leaf (515, (.iadd, 516, 0), 0)) (.leaf (516, (.iaload, 517, 0), 0)))))) (.branch 524 (.branch 521 (.branch 520 (.leaf (517, (.invokevirtual 53, 520, 129), 748)) (.leaf (520, (.aload_n 2, 521, 0), 0))) (.branch 522 (.leaf (521, (.aload_n 0, 522, 0), 0)) (.branch 523 (.leaf (522, (.iload_n 3, 523, 0), 0)) (.leaf (523, (.iconst 1, 524, 0), 0))))) (.branch 526 (.branch 525 (.leaf (524, (.iadd, 525, 0), 0)) (.leaf (525, (.iaload, 526, 0), 0))) (.branch 527 (.leaf (526, (.aload_n 0, 527, 0), 0)) (.branch 528 (.leaf (527, (.iload_n 3, 528, 0), 0)) (.leaf (528, (.iconst 2, 529, 0), 0)))))))
set_option maxRecDepth 100000 in
def mt_0_8 : Lean.RArray mLf :=
  .branch 552 (.branch 542 (.branch 533 (.branch 531 (.branch 530 (.leaf (529, (.iadd, 530, 0), 0)) (.leaf (530, (.iaload, 531, 0), 0))) (.branch 532 (.leaf (531, (.aload_n 0, 532, 0), 0)) (.leaf (532, (.iload_n 3, 533, 0), 0)))) (.branch 535 (.branch 534 (.leaf (533, (.iconst 3, 534, 0), 0)) (.leaf (534, (.iadd, 535, 0), 0))) (.branch 536 (.leaf (535, (.iaload, 536, 0), 0)) (.branch 539 (.leaf (536, (.invokevirtual 56, 539, 212), 1423)) (.leaf (539, (.if_icmp .eq 757, 542, 1296), 0)))))) (.branch 547 (.branch 544 (.branch 543 (.leaf (542, (.iconst 0, 543, 0), 0)) (.leaf (543, (.ireturn, 544, 0), 0))) (.branch 545 (.leaf (544, (.aload_n 1, 545, 0), 0)) (.branch 546 (.leaf (545, (.aload_n 0, 546, 0), 0)) (.leaf (546, (.iload_n 3, 547, 0), 0))))) (.branch 549 (.branch 548 (.leaf (547, (.iconst 1, 548, 0), 0)) (.leaf (548, (.iadd, 549, 0), 0))) (.branch 550 (.leaf (549, (.iaload, 550, 0), 0)) (.branch 551 (.leaf (550, (.aload_n 0, 551, 0), 0)) (.leaf (551, (.iload_n 3, 552, 0), 0))))))) (.branch 564 (.branch 559 (.branch 554 (.branch 553 (.leaf (552, (.iconst 2, 553, 0), 0)) (.leaf (553, (.iadd, 554, 0), 0))) (.branch 555 (.leaf (554, (.iaload, 555, 0), 0)) (.branch 558 (.leaf (555, (.invokevirtual 57, 558, 130), 761)) (.leaf (558, (.aload_n 2, 559, 0), 0))))) (.branch 561 (.branch 560 (.leaf (559, (.aload_n 0, 560, 0), 0)) (.leaf (560, (.iload_n 3, 561, 0), 0))) (.branch 562 (.leaf (561, (.iconst 1, 562, 0), 0)) (.branch 563 (.leaf (562, (.iadd, 563, 0), 0)) (.leaf (563, (.iaload, 564, 0), 0)))))) (.branch 569 (.branch 566 (.branch 565 (.leaf (564, (.aload_n 0, 565, 0), 0)) (.leaf (565, (.iload_n 3, 566, 0), 0))) (.branch 567 (.leaf (566, (.iconst 2, 567, 0), 0)) (.branch 568 (.leaf (567, (.iadd, 568, 0), 0)) (.leaf (568, (.iaload, 569, 0), 0))))) (.branch 575 (.branch 572 (.leaf (569, (.invokevirtual 60, 572, 213), 1443)) (.leaf (572, (.if_icmp .eq 724, 575, 1296), 0))) (.branch 576 (.leaf (575, (.iconst 0, 576, 0), 0)) (.branch 577 (.leaf (576, (.ireturn, 577, 0), 0)) (.leaf (577, (.aload_n 1, 578, 0), 0)))))))
set_option maxRecDepth 100000 in
def mt_0_9 : Lean.RArray mLf :=
  .branch 605 (.branch 593 (.branch 588 (.branch 582 (.branch 581 (.leaf (578, (.invokevirtual 61, 581, 131), 806)) (.leaf (581, (.aload_n 2, 582, 0), 0))) (.branch 585 (.leaf (582, (.invokevirtual 65, 585, 214), 1451)) (.leaf (585, (.if_icmp .eq 711, 588, 1296), 0)))) (.branch 590 (.branch 589 (.leaf (588, (.iconst 0, 589, 0), 0)) (.leaf (589, (.ireturn, 590, 0), 0))) (.branch 591 (.leaf (590, (.aload_n 1, 591, 0), 0)) (.branch 592 (.leaf (591, (.aload_n 0, 592, 0), 0)) (.leaf (592, (.iload_n 3, 593, 0), 0)))))) (.branch 598 (.branch 595 (.branch 594 (.leaf (593, (.iconst 1, 594, 0), 0)) (.leaf (594, (.iadd, 595, 0), 0))) (.branch 596 (.leaf (595, (.iaload, 596, 0), 0)) (.branch 597 (.leaf (596, (.aload_n 0, 597, 0), 0)) (.leaf (597, (.iload_n 3, 598, 0), 0))))) (.branch 600 (.branch 599 (.leaf (598, (.iconst 2, 599, 0), 0)) (.leaf (599, (.iadd, 600, 0), 0))) (.branch 601 (.leaf (600, (.iaload, 601, 0), 0)) (.branch 604 (.leaf (601, (.invokevirtual 66, 604, 132), 814)) (.leaf (604, (.aload_n 2, 605, 0), 0))))))) (.branch 615 (.branch 610 (.branch 607 (.branch 606 (.leaf (605, (.aload_n 0, 606, 0), 0)) (.leaf (606, (.iload_n 3, 607, 0), 0))) (.branch 608 (.leaf (607, (.iconst 1, 608, 0), 0)) (.branch 609 (.leaf (608, (.iadd, 609, 0), 0)) (.leaf (609, (.iaload, 610, 0), 0))))) (.branch 612 (.branch 611 (.leaf (610, (.aload_n 0, 611, 0), 0)) (.leaf (611, (.iload_n 3, 612, 0), 0))) (.branch 613 (.leaf (612, (.iconst 2, 613, 0), 0)) (.branch 614 (.leaf (613, (.iadd, 614, 0), 0)) (.leaf (614, (.iaload, 615, 0), 0)))))) (.branch 624 (.branch 621 (.branch 618 (.leaf (615, (.invokevirtual 69, 618, 217), 1455)) (.leaf (618, (.if_icmp .eq 678, 621, 1296), 0))) (.branch 622 (.leaf (621, (.iconst 0, 622, 0), 0)) (.branch 623 (.leaf (622, (.ireturn, 623, 0), 0)) (.leaf (623, (.aload_n 1, 624, 0), 0))))) (.branch 626 (.branch 625 (.leaf (624, (.aload_n 0, 625, 0), 0)) (.leaf (625, (.iload_n 3, 626, 0), 0))) (.branch 627 (.leaf (626, (.iconst 1, 627, 0), 0)) (.branch 628 (.leaf (627, (.iadd, 628, 0), 0)) (.leaf (628, (.iaload, 629, 0), 0)))))))
set_option maxRecDepth 100000 in
def mt_0_10 : Lean.RArray mLf :=
  .branch 650 (.branch 638 (.branch 633 (.branch 631 (.branch 630 (.leaf (629, (.aload_n 0, 630, 0), 0)) (.leaf (630, (.iload_n 3, 631, 0), 0))) (.branch 632 (.leaf (631, (.iconst 2, 632, 0), 0)) (.leaf (632, (.iadd, 633, 0), 0)))) (.branch 635 (.branch 634 (.leaf (633, (.iaload, 634, 0), 0)) (.leaf (634, (.aload_n 0, 635, 0), 0))) (.branch 636 (.leaf (635, (.iload_n 3, 636, 0), 0)) (.branch 637 (.leaf (636, (.iconst 3, 637, 0), 0)) (.leaf (637, (.iadd, 638, 0), 0)))))) (.branch 645 (.branch 642 (.branch 639 (.leaf (638, (.iaload, 639, 0), 0)) (.leaf (639, (.invokevirtual 70, 642, 133), 867))) (.branch 643 (.leaf (642, (.aload_n 2, 643, 0), 0)) (.branch 644 (.leaf (643, (.aload_n 0, 644, 0), 0)) (.leaf (644, (.iload_n 3, 645, 0), 0))))) (.branch 647 (.branch 646 (.leaf (645, (.iconst 1, 646, 0), 0)) (.leaf (646, (.iadd, 647, 0), 0))) (.branch 648 (.leaf (647, (.iaload, 648, 0), 0)) (.branch 649 (.leaf (648, (.aload_n 0, 649, 0), 0)) (.leaf (649, (.iload_n 3, 650, 0), 0))))))) (.branch 664 (.branch 655 (.branch 652 (.branch 651 (.leaf (650, (.iconst 2, 651, 0), 0)) (.leaf (651, (.iadd, 652, 0), 0))) (.branch 653 (.leaf (652, (.iaload, 653, 0), 0)) (.branch 654 (.leaf (653, (.aload_n 0, 654, 0), 0)) (.leaf (654, (.iload_n 3, 655, 0), 0))))) (.branch 657 (.branch 656 (.leaf (655, (.iconst 3, 656, 0), 0)) (.leaf (656, (.iadd, 657, 0), 0))) (.branch 658 (.leaf (657, (.iaload, 658, 0), 0)) (.branch 661 (.leaf (658, (.invokevirtual 73, 661, 218), 1474)) (.leaf (661, (.if_icmp .eq 635, 664, 1296), 0)))))) (.branch 669 (.branch 666 (.branch 665 (.leaf (664, (.iconst 0, 665, 0), 0)) (.leaf (665, (.ireturn, 666, 0), 0))) (.branch 667 (.leaf (666, (.aload_n 1, 667, 0), 0)) (.branch 668 (.leaf (667, (.aload_n 0, 668, 0), 0)) (.leaf (668, (.iload_n 3, 669, 0), 0))))) (.branch 671 (.branch 670 (.leaf (669, (.iconst 1, 670, 0), 0)) (.leaf (670, (.iadd, 671, 0), 0))) (.branch 672 (.leaf (671, (.iaload, 672, 0), 0)) (.branch 673 (.leaf (672, (.aload_n 0, 673, 0), 0)) (.leaf (673, (.iload_n 3, 674, 0), 0)))))))
set_option maxRecDepth 100000 in
def mt_0_11 : Lean.RArray mLf :=
  .branch 699 (.branch 685 (.branch 680 (.branch 676 (.branch 675 (.leaf (674, (.iconst 2, 675, 0), 0)) (.leaf (675, (.iadd, 676, 0), 0))) (.branch 677 (.leaf (676, (.iaload, 677, 0), 0)) (.leaf (677, (.invokevirtual 74, 680, 134), 872)))) (.branch 682 (.branch 681 (.leaf (680, (.aload_n 2, 681, 0), 0)) (.leaf (681, (.aload_n 0, 682, 0), 0))) (.branch 683 (.leaf (682, (.iload_n 3, 683, 0), 0)) (.branch 684 (.leaf (683, (.iconst 1, 684, 0), 0)) (.leaf (684, (.iadd, 685, 0), 0)))))) (.branch 690 (.branch 687 (.branch 686 (.leaf (685, (.iaload, 686, 0), 0)) (.leaf (686, (.aload_n 0, 687, 0), 0))) (.branch 688 (.leaf (687, (.iload_n 3, 688, 0), 0)) (.branch 689 (.leaf (688, (.iconst 2, 689, 0), 0)) (.leaf (689, (.iadd, 690, 0), 0))))) (.branch 694 (.branch 691 (.leaf (690, (.iaload, 691, 0), 0)) (.leaf (691, (.invokevirtual 77, 694, 219), 1479))) (.branch 697 (.leaf (694, (.if_icmp .eq 602, 697, 1296), 0)) (.branch 698 (.leaf (697, (.iconst 0, 698, 0), 0)) (.leaf (698, (.ireturn, 699, 0), 0))))))) (.branch 709 (.branch 704 (.branch 701 (.branch 700 (.leaf (699, (.aload_n 1, 700, 0), 0)) (.leaf (700, (.aload_n 0, 701, 0), 0))) (.branch 702 (.leaf (701, (.iload_n 3, 702, 0), 0)) (.branch 703 (.leaf (702, (.iconst 1, 703, 0), 0)) (.leaf (703, (.iadd, 704, 0), 0))))) (.branch 706 (.branch 705 (.leaf (704, (.iaload, 705, 0), 0)) (.leaf (705, (.aload_n 0, 706, 0), 0))) (.branch 707 (.leaf (706, (.iload_n 3, 707, 0), 0)) (.branch 708 (.leaf (707, (.iconst 2, 708, 0), 0)) (.leaf (708, (.iadd, 709, 0), 0)))))) (.branch 716 (.branch 713 (.branch 710 (.leaf (709, (.iaload, 710, 0), 0)) (.leaf (710, (.invokevirtual 78, 713, 135), 882))) (.branch 714 (.leaf (713, (.aload_n 2, 714, 0), 0)) (.branch 715 (.leaf (714, (.aload_n 0, 715, 0), 0)) (.leaf (715, (.iload_n 3, 716, 0), 0))))) (.branch 718 (.branch 717 (.leaf (716, (.iconst 1, 717, 0), 0)) (.leaf (717, (.iadd, 718, 0), 0))) (.branch 719 (.leaf (718, (.iaload, 719, 0), 0)) (.branch 720 (.leaf (719, (.aload_n 0, 720, 0), 0)) (.leaf (720, (.iload_n 3, 721, 0), 0)))))))
set_option maxRecDepth 100000 in
def mt_0_12 : Lean.RArray mLf :=
  .branch 746 (.branch 734 (.branch 727 (.branch 723 (.branch 722 (.leaf (721, (.iconst 2, 722, 0), 0)) (.leaf (722, (.iadd, 723, 0), 0))) (.branch 724 (.leaf (723, (.iaload, 724, 0), 0)) (.leaf (724, (.invokevirtual 81, 727, 220), 1483)))) (.branch 731 (.branch 730 (.leaf (727, (.if_icmp .eq 569, 730, 1296), 0)) (.leaf (730, (.iconst 0, 731, 0), 0))) (.branch 732 (.leaf (731, (.ireturn, 732, 0), 0)) (.branch 733 (.leaf (732, (.aload_n 1, 733, 0), 0)) (.leaf (733, (.aload_n 0, 734, 0), 0)))))) (.branch 739 (.branch 736 (.branch 735 (.leaf (734, (.iload_n 3, 735, 0), 0)) (.leaf (735, (.iconst 1, 736, 0), 0))) (.branch 737 (.leaf (736, (.iadd, 737, 0), 0)) (.branch 738 (.leaf (737, (.iaload, 738, 0), 0)) (.leaf (738, (.aload_n 0, 739, 0), 0))))) (.branch 741 (.branch 740 (.leaf (739, (.iload_n 3, 740, 0), 0)) (.leaf (740, (.iconst 2, 741, 0), 0))) (.branch 742 (.leaf (741, (.iadd, 742, 0), 0)) (.branch 743 (.leaf (742, (.iaload, 743, 0), 0)) (.leaf (743, (.invokevirtual 82, 746, 136), 892))))))) (.branch 755 (.branch 750 (.branch 748 (.branch 747 (.leaf (746, (.aload_n 2, 747, 0), 0)) (.leaf (747, (.aload_n 0, 748, 0), 0))) (.branch 749 (.leaf (748, (.iload_n 3, 749, 0), 0)) (.leaf (749, (.iconst 1, 750, 0), 0)))) (.branch 752 (.branch 751 (.leaf (750, (.iadd, 751, 0), 0)) (.leaf (751, (.iaload, 752, 0), 0))) (.branch 753 (.leaf (752, (.aload_n 0, 753, 0), 0)) (.branch 754 (.leaf (753, (.iload_n 3, 754, 0), 0)) (.leaf (754, (.iconst 2, 755, 0), 0)))))) (.branch 764 (.branch 757 (.branch 756 (.leaf (755, (.iadd, 756, 0), 0)) (.leaf (756, (.iaload, 757, 0), 0))) (.branch 760 (.leaf (757, (.invokevirtual 85, 760, 224), 1491)) (.branch 763 (.leaf (760, (.if_icmp .eq 536, 763, 1296), 0)) (.leaf (763, (.iconst 0, 764, 0), 0))))) (.branch 766 (.branch 765 (.leaf (764, (.ireturn, 765, 0), 0)) (.leaf (765, (.aload_n 1, 766, 0), 0))) (.branch 767 (.leaf (766, (.aload_n 0, 767, 0), 0)) (.branch 768 (.leaf (767, (.iload_n 3, 768, 0), 0)) (.leaf (768, (.iconst 1, 769, 0), 0)))))))
set_option maxRecDepth 100000 in
def mt_0_13 : Lean.RArray mLf :=
  .branch 794 (.branch 780 (.branch 775 (.branch 771 (.branch 770 (.leaf (769, (.iadd, 770, 0), 0)) (.leaf (770, (.iaload, 771, 0), 0))) (.branch 774 (.leaf (771, (.invokevirtual 86, 774, 137), 933)) (.leaf (774, (.aload_n 2, 775, 0), 0)))) (.branch 777 (.branch 776 (.leaf (775, (.aload_n 0, 776, 0), 0)) (.leaf (776, (.iload_n 3, 777, 0), 0))) (.branch 778 (.leaf (777, (.iconst 1, 778, 0), 0)) (.branch 779 (.leaf (778, (.iadd, 779, 0), 0)) (.leaf (779, (.iaload, 780, 0), 0)))))) (.branch 789 (.branch 786 (.branch 783 (.leaf (780, (.invokevirtual 89, 783, 227), 1507)) (.leaf (783, (.if_icmp .eq 513, 786, 1296), 0))) (.branch 787 (.leaf (786, (.iconst 0, 787, 0), 0)) (.branch 788 (.leaf (787, (.ireturn, 788, 0), 0)) (.leaf (788, (.aload_n 1, 789, 0), 0))))) (.branch 791 (.branch 790 (.leaf (789, (.aload_n 0, 790, 0), 0)) (.leaf (790, (.iload_n 3, 791, 0), 0))) (.branch 792 (.leaf (791, (.iconst 1, 792, 0), 0)) (.branch 793 (.leaf (792, (.iadd, 793, 0), 0)) (.leaf (793, (.iaload, 794, 0), 0))))))) (.branch 806 (.branch 799 (.branch 796 (.branch 795 (.leaf (794, (.aload_n 0, 795, 0), 0)) (.leaf (795, (.iload_n 3, 796, 0), 0))) (.branch 797 (.leaf (796, (.iconst 2, 797, 0), 0)) (.branch 798 (.leaf (797, (.iadd, 798, 0), 0)) (.leaf (798, (.iaload, 799, 0), 0))))) (.branch 803 (.branch 802 (.leaf (799, (.invokevirtual 90, 802, 138), 970)) (.leaf (802, (.aload_n 2, 803, 0), 0))) (.branch 804 (.leaf (803, (.aload_n 0, 804, 0), 0)) (.branch 805 (.leaf (804, (.iload_n 3, 805, 0), 0)) (.leaf (805, (.iconst 1, 806, 0), 0)))))) (.branch 811 (.branch 808 (.branch 807 (.leaf (806, (.iadd, 807, 0), 0)) (.leaf (807, (.iaload, 808, 0), 0))) (.branch 809 (.leaf (808, (.aload_n 0, 809, 0), 0)) (.branch 810 (.leaf (809, (.iload_n 3, 810, 0), 0)) (.leaf (810, (.iconst 2, 811, 0), 0))))) (.branch 813 (.branch 812 (.leaf (811, (.iadd, 812, 0), 0)) (.leaf (812, (.iaload, 813, 0), 0))) (.branch 816 (.leaf (813, (.invokevirtual 93, 816, 228), 1519)) (.branch 819 (.leaf (816, (.if_icmp .eq 480, 819, 1296), 0)) (.leaf (819, (.iconst 0, 820, 0), 0)))))))
set_option maxRecDepth 100000 in
def mt_0_14 : Lean.RArray mLf :=
  .branch 841 (.branch 829 (.branch 824 (.branch 822 (.branch 821 (.leaf (820, (.ireturn, 821, 0), 0)) (.leaf (821, (.aload_n 1, 822, 0), 0))) (.branch 823 (.leaf (822, (.aload_n 0, 823, 0), 0)) (.leaf (823, (.iload_n 3, 824, 0), 0)))) (.branch 826 (.branch 825 (.leaf (824, (.iconst 1, 825, 0), 0)) (.leaf (825, (.iadd, 826, 0), 0))) (.branch 827 (.leaf (826, (.iaload, 827, 0), 0)) (.branch 828 (.leaf (827, (.aload_n 0, 828, 0), 0)) (.leaf (828, (.iload_n 3, 829, 0), 0)))))) (.branch 836 (.branch 831 (.branch 830 (.leaf (829, (.iconst 2, 830, 0), 0)) (.leaf (830, (.iadd, 831, 0), 0))) (.branch 832 (.leaf (831, (.iaload, 832, 0), 0)) (.branch 835 (.leaf (832, (.invokevirtual 94, 835, 139), 980)) (.leaf (835, (.aload_n 2, 836, 0), 0))))) (.branch 838 (.branch 837 (.leaf (836, (.aload_n 0, 837, 0), 0)) (.leaf (837, (.iload_n 3, 838, 0), 0))) (.branch 839 (.leaf (838, (.iconst 1, 839, 0), 0)) (.branch 840 (.leaf (839, (.iadd, 840, 0), 0)) (.leaf (840, (.iaload, 841, 0), 0))))))) (.branch 855 (.branch 846 (.branch 843 (.branch 842 (.leaf (841, (.aload_n 0, 842, 0), 0)) (.leaf (842, (.iload_n 3, 843, 0), 0))) (.branch 844 (.leaf (843, (.iconst 2, 844, 0), 0)) (.branch 845 (.leaf (844, (.iadd, 845, 0), 0)) (.leaf (845, (.iaload, 846, 0), 0))))) (.branch 852 (.branch 849 (.leaf (846, (.invokevirtual 97, 849, 234), 1523)) (.leaf (849, (.if_icmp .eq 447, 852, 1296), 0))) (.branch 853 (.leaf (852, (.iconst 0, 853, 0), 0)) (.branch 854 (.leaf (853, (.ireturn, 854, 0), 0)) (.leaf (854, (.aload_n 1, 855, 0), 0)))))) (.branch 860 (.branch 857 (.branch 856 (.leaf (855, (.aload_n 0, 856, 0), 0)) (.leaf (856, (.iload_n 3, 857, 0), 0))) (.branch 858 (.leaf (857, (.iconst 1, 858, 0), 0)) (.branch 859 (.leaf (858, (.iadd, 859, 0), 0)) (.leaf (859, (.iaload, 860, 0), 0))))) (.branch 864 (.branch 863 (.leaf (860, (.invokevirtual 98, 863, 140), 1014)) (.leaf (863, (.aload_n 2, 864, 0), 0))) (.branch 865 (.leaf (864, (.aload_n 0, 865, 0), 0)) (.branch 866 (.leaf (865, (.iload_n 3, 866, 0), 0)) (.leaf (866, (.iconst 1, 867, 0), 0)))))))
set_option maxRecDepth 100000 in
def mt_0_15 : Lean.RArray mLf :=
  .branch 892 (.branch 880 (.branch 875 (.branch 869 (.branch 868 (.leaf (867, (.iadd, 868, 0), 0)) (.leaf (868, (.iaload, 869, 0), 0))) (.branch 872 (.leaf (869, (.invokevirtual 101, 872, 237), 1547)) (.leaf (872, (.if_icmp .eq 424, 875, 1296), 0)))) (.branch 877 (.branch 876 (.leaf (875, (.iconst 0, 876, 0), 0)) (.leaf (876, (.ireturn, 877, 0), 0))) (.branch 878 (.leaf (877, (.aload_n 1, 878, 0), 0)) (.branch 879 (.leaf (878, (.aload_n 0, 879, 0), 0)) (.leaf (879, (.iload_n 3, 880, 0), 0)))))) (.branch 885 (.branch 882 (.branch 881 (.leaf (880, (.iconst 1, 881, 0), 0)) (.leaf (881, (.iadd, 882, 0), 0))) (.branch 883 (.leaf (882, (.iaload, 883, 0), 0)) (.branch 884 (.leaf (883, (.aload_n 0, 884, 0), 0)) (.leaf (884, (.iload_n 3, 885, 0), 0))))) (.branch 887 (.branch 886 (.leaf (885, (.iconst 2, 886, 0), 0)) (.leaf (886, (.iadd, 887, 0), 0))) (.branch 888 (.leaf (887, (.iaload, 888, 0), 0)) (.branch 891 (.leaf (888, (.invokevirtual 102, 891, 141), 1028)) (.leaf (891, (.aload_n 2, 892, 0), 0))))))) (.branch 902 (.branch 897 (.branch 894 (.branch 893 (.leaf (892, (.aload_n 0, 893, 0), 0)) (.leaf (893, (.iload_n 3, 894, 0), 0))) (.branch 895 (.leaf (894, (.iconst 1, 895, 0), 0)) (.branch 896 (.leaf (895, (.iadd, 896, 0), 0)) (.leaf (896, (.iaload, 897, 0), 0))))) (.branch 899 (.branch 898 (.leaf (897, (.aload_n 0, 898, 0), 0)) (.leaf (898, (.iload_n 3, 899, 0), 0))) (.branch 900 (.leaf (899, (.iconst 2, 900, 0), 0)) (.branch 901 (.leaf (900, (.iadd, 901, 0), 0)) (.leaf (901, (.iaload, 902, 0), 0)))))) (.branch 911 (.branch 908 (.branch 905 (.leaf (902, (.invokevirtual 105, 905, 239), 1554)) (.leaf (905, (.if_icmp .eq 391, 908, 1296), 0))) (.branch 909 (.leaf (908, (.iconst 0, 909, 0), 0)) (.branch 910 (.leaf (909, (.ireturn, 910, 0), 0)) (.leaf (910, (.aload_n 1, 911, 0), 0))))) (.branch 913 (.branch 912 (.leaf (911, (.aload_n 0, 912, 0), 0)) (.leaf (912, (.iload_n 3, 913, 0), 0))) (.branch 914 (.leaf (913, (.iconst 1, 914, 0), 0)) (.branch 915 (.leaf (914, (.iadd, 915, 0), 0)) (.leaf (915, (.iaload, 916, 0), 0)))))))
set_option maxRecDepth 100000 in
def mt_0_16 : Lean.RArray mLf :=
  .branch 937 (.branch 925 (.branch 920 (.branch 918 (.branch 917 (.leaf (916, (.aload_n 0, 917, 0), 0)) (.leaf (917, (.iload_n 3, 918, 0), 0))) (.branch 919 (.leaf (918, (.iconst 2, 919, 0), 0)) (.leaf (919, (.iadd, 920, 0), 0)))) (.branch 922 (.branch 921 (.leaf (920, (.iaload, 921, 0), 0)) (.leaf (921, (.aload_n 0, 922, 0), 0))) (.branch 923 (.leaf (922, (.iload_n 3, 923, 0), 0)) (.branch 924 (.leaf (923, (.iconst 3, 924, 0), 0)) (.leaf (924, (.iadd, 925, 0), 0)))))) (.branch 932 (.branch 929 (.branch 926 (.leaf (925, (.iaload, 926, 0), 0)) (.leaf (926, (.invokevirtual 106, 929, 142), 1049))) (.branch 930 (.leaf (929, (.aload_n 2, 930, 0), 0)) (.branch 931 (.leaf (930, (.aload_n 0, 931, 0), 0)) (.leaf (931, (.iload_n 3, 932, 0), 0))))) (.branch 934 (.branch 933 (.leaf (932, (.iconst 1, 933, 0), 0)) (.leaf (933, (.iadd, 934, 0), 0))) (.branch 935 (.leaf (934, (.iaload, 935, 0), 0)) (.branch 936 (.leaf (935, (.aload_n 0, 936, 0), 0)) (.leaf (936, (.iload_n 3, 937, 0), 0))))))) (.branch 951 (.branch 942 (.branch 939 (.branch 938 (.leaf (937, (.iconst 2, 938, 0), 0)) (.leaf (938, (.iadd, 939, 0), 0))) (.branch 940 (.leaf (939, (.iaload, 940, 0), 0)) (.branch 941 (.leaf (940, (.aload_n 0, 941, 0), 0)) (.leaf (941, (.iload_n 3, 942, 0), 0))))) (.branch 944 (.branch 943 (.leaf (942, (.iconst 3, 943, 0), 0)) (.leaf (943, (.iadd, 944, 0), 0))) (.branch 945 (.leaf (944, (.iaload, 945, 0), 0)) (.branch 948 (.leaf (945, (.invokevirtual 109, 948, 241), 1566)) (.leaf (948, (.if_icmp .eq 348, 951, 1296), 0)))))) (.branch 956 (.branch 953 (.branch 952 (.leaf (951, (.iconst 0, 952, 0), 0)) (.leaf (952, (.ireturn, 953, 0), 0))) (.branch 954 (.leaf (953, (.aload_n 1, 954, 0), 0)) (.branch 955 (.leaf (954, (.aload_n 0, 955, 0), 0)) (.leaf (955, (.iload_n 3, 956, 0), 0))))) (.branch 958 (.branch 957 (.leaf (956, (.iconst 1, 957, 0), 0)) (.leaf (957, (.iadd, 958, 0), 0))) (.branch 959 (.leaf (958, (.iaload, 959, 0), 0)) (.branch 960 (.leaf (959, (.aload_n 0, 960, 0), 0)) (.leaf (960, (.iload_n 3, 961, 0), 0)))))))
set_option maxRecDepth 100000 in
def mt_0_17 : Lean.RArray mLf :=
  .branch 986 (.branch 972 (.branch 967 (.branch 963 (.branch 962 (.leaf (961, (.iconst 2, 962, 0), 0)) (.leaf (962, (.iadd, 963, 0), 0))) (.branch 964 (.leaf (963, (.iaload, 964, 0), 0)) (.leaf (964, (.invokevirtual 110, 967, 143), 1057)))) (.branch 969 (.branch 968 (.leaf (967, (.aload_n 2, 968, 0), 0)) (.leaf (968, (.aload_n 0, 969, 0), 0))) (.branch 970 (.leaf (969, (.iload_n 3, 970, 0), 0)) (.branch 971 (.leaf (970, (.iconst 1, 971, 0), 0)) (.leaf (971, (.iadd, 972, 0), 0)))))) (.branch 977 (.branch 974 (.branch 973 (.leaf (972, (.iaload, 973, 0), 0)) (.leaf (973, (.aload_n 0, 974, 0), 0))) (.branch 975 (.leaf (974, (.iload_n 3, 975, 0), 0)) (.branch 976 (.leaf (975, (.iconst 2, 976, 0), 0)) (.leaf (976, (.iadd, 977, 0), 0))))) (.branch 981 (.branch 978 (.leaf (977, (.iaload, 978, 0), 0)) (.leaf (978, (.invokevirtual 113, 981, 242), 1570))) (.branch 984 (.leaf (981, (.if_icmp .eq 315, 984, 1296), 0)) (.branch 985 (.leaf (984, (.iconst 0, 985, 0), 0)) (.leaf (985, (.ireturn, 986, 0), 0))))))) (.branch 996 (.branch 991 (.branch 988 (.branch 987 (.leaf (986, (.aload_n 1, 987, 0), 0)) (.leaf (987, (.aload_n 0, 988, 0), 0))) (.branch 989 (.leaf (988, (.iload_n 3, 989, 0), 0)) (.branch 990 (.leaf (989, (.iconst 1, 990, 0), 0)) (.leaf (990, (.iadd, 991, 0), 0))))) (.branch 993 (.branch 992 (.leaf (991, (.iaload, 992, 0), 0)) (.leaf (992, (.aload_n 0, 993, 0), 0))) (.branch 994 (.leaf (993, (.iload_n 3, 994, 0), 0)) (.branch 995 (.leaf (994, (.iconst 2, 995, 0), 0)) (.leaf (995, (.iadd, 996, 0), 0)))))) (.branch 1003 (.branch 1000 (.branch 997 (.leaf (996, (.iaload, 997, 0), 0)) (.leaf (997, (.invokevirtual 114, 1000, 144), 1061))) (.branch 1001 (.leaf (1000, (.aload_n 2, 1001, 0), 0)) (.branch 1002 (.leaf (1001, (.aload_n 0, 1002, 0), 0)) (.leaf (1002, (.iload_n 3, 1003, 0), 0))))) (.branch 1005 (.branch 1004 (.leaf (1003, (.iconst 1, 1004, 0), 0)) (.leaf (1004, (.iadd, 1005, 0), 0))) (.branch 1006 (.leaf (1005, (.iaload, 1006, 0), 0)) (.branch 1007 (.leaf (1006, (.aload_n 0, 1007, 0), 0)) (.leaf (1007, (.iload_n 3, 1008, 0), 0)))))))
set_option maxRecDepth 100000 in
def mt_0_18 : Lean.RArray mLf :=
  .branch 1033 (.branch 1021 (.branch 1014 (.branch 1010 (.branch 1009 (.leaf (1008, (.iconst 2, 1009, 0), 0)) (.leaf (1009, (.iadd, 1010, 0), 0))) (.branch 1011 (.leaf (1010, (.iaload, 1011, 0), 0)) (.leaf (1011, (.invokevirtual 117, 1014, 243), 1574)))) (.branch 1018 (.branch 1017 (.leaf (1014, (.if_icmp .eq 282, 1017, 1296), 0)) (.leaf (1017, (.iconst 0, 1018, 0), 0))) (.branch 1019 (.leaf (1018, (.ireturn, 1019, 0), 0)) (.branch 1020 (.leaf (1019, (.aload_n 1, 1020, 0), 0)) (.leaf (1020, (.aload_n 0, 1021, 0), 0)))))) (.branch 1026 (.branch 1023 (.branch 1022 (.leaf (1021, (.iload_n 3, 1022, 0), 0)) (.leaf (1022, (.iconst 1, 1023, 0), 0))) (.branch 1024 (.leaf (1023, (.iadd, 1024, 0), 0)) (.branch 1025 (.leaf (1024, (.iaload, 1025, 0), 0)) (.leaf (1025, (.aload_n 0, 1026, 0), 0))))) (.branch 1028 (.branch 1027 (.leaf (1026, (.iload_n 3, 1027, 0), 0)) (.leaf (1027, (.iconst 2, 1028, 0), 0))) (.branch 1029 (.leaf (1028, (.iadd, 1029, 0), 0)) (.branch 1030 (.leaf (1029, (.iaload, 1030, 0), 0)) (.leaf (1030, (.invokevirtual 118, 1033, 145), 1066))))))) (.branch 1043 (.branch 1038 (.branch 1035 (.branch 1034 (.leaf (1033, (.aload_n 2, 1034, 0), 0)) (.leaf (1034, (.aload_n 0, 1035, 0), 0))) (.branch 1036 (.leaf (1035, (.iload_n 3, 1036, 0), 0)) (.branch 1037 (.leaf (1036, (.iconst 1, 1037, 0), 0)) (.leaf (1037, (.iadd, 1038, 0), 0))))) (.branch 1040 (.branch 1039 (.leaf (1038, (.iaload, 1039, 0), 0)) (.leaf (1039, (.aload_n 0, 1040, 0), 0))) (.branch 1041 (.leaf (1040, (.iload_n 3, 1041, 0), 0)) (.branch 1042 (.leaf (1041, (.iconst 2, 1042, 0), 0)) (.leaf (1042, (.iadd, 1043, 0), 0)))))) (.branch 1052 (.branch 1047 (.branch 1044 (.leaf (1043, (.iaload, 1044, 0), 0)) (.leaf (1044, (.invokevirtual 121, 1047, 248), 1578))) (.branch 1050 (.leaf (1047, (.if_icmp .eq 249, 1050, 1296), 0)) (.branch 1051 (.leaf (1050, (.iconst 0, 1051, 0), 0)) (.leaf (1051, (.ireturn, 1052, 0), 0))))) (.branch 1054 (.branch 1053 (.leaf (1052, (.aload_n 1, 1053, 0), 0)) (.leaf (1053, (.aload_n 0, 1054, 0), 0))) (.branch 1055 (.leaf (1054, (.iload_n 3, 1055, 0), 0)) (.branch 1056 (.leaf (1055, (.iconst 1, 1056, 0), 0)) (.leaf (1056, (.iadd, 1057, 0), 0)))))))
set_option maxRecDepth 100000 in
def mt_0_19 : Lean.RArray mLf :=
  .branch 1080 (.branch 1068 (.branch 1061 (.branch 1059 (.branch 1058 (.leaf (1057, (.iaload, 1058, 0), 0)) (.leaf (1058, (.aload_n 0, 1059, 0), 0))) (.branch 1060 (.leaf (1059, (.iload_n 3, 1060, 0), 0)) (.leaf (1060, (.iconst 2, 1061, 0), 0)))) (.branch 1063 (.branch 1062 (.leaf (1061, (.iadd, 1062, 0), 0)) (.leaf (1062, (.iaload, 1063, 0), 0))) (.branch 1066 (.leaf (1063, (.invokevirtual 122, 1066, 146), 1086)) (.branch 1067 (.leaf (1066, (.aload_n 2, 1067, 0), 0)) (.leaf (1067, (.aload_n 0, 1068, 0), 0)))))) (.branch 1073 (.branch 1070 (.branch 1069 (.leaf (1068, (.iload_n 3, 1069, 0), 0)) (.leaf (1069, (.iconst 1, 1070, 0), 0))) (.branch 1071 (.leaf (1070, (.iadd, 1071, 0), 0)) (.branch 1072 (.leaf (1071, (.iaload, 1072, 0), 0)) (.leaf (1072, (.aload_n 0, 1073, 0), 0))))) (.branch 1075 (.branch 1074 (.leaf (1073, (.iload_n 3, 1074, 0), 0)) (.leaf (1074, (.iconst 2, 1075, 0), 0))) (.branch 1076 (.leaf (1075, (.iadd, 1076, 0), 0)) (.branch 1077 (.leaf (1076, (.iaload, 1077, 0), 0)) (.leaf (1077, (.invokevirtual 125, 1080, 249), 1587))))))) (.branch 1092 (.branch 1087 (.branch 1084 (.branch 1083 (.leaf (1080, (.if_icmp .eq 216, 1083, 1296), 0)) (.leaf (1083, (.iconst 0, 1084, 0), 0))) (.branch 1085 (.leaf (1084, (.ireturn, 1085, 0), 0)) (.branch 1086 (.leaf (1085, (.aload_n 1, 1086, 0), 0)) (.leaf (1086, (.aload_n 0, 1087, 0), 0))))) (.branch 1089 (.branch 1088 (.leaf (1087, (.iload_n 3, 1088, 0), 0)) (.leaf (1088, (.iconst 1, 1089, 0), 0))) (.branch 1090 (.leaf (1089, (.iadd, 1090, 0), 0)) (.branch 1091 (.leaf (1090, (.iaload, 1091, 0), 0)) (.leaf (1091, (.aload_n 0, 1092, 0), 0)))))) (.branch 1099 (.branch 1094 (.branch 1093 (.leaf (1092, (.iload_n 3, 1093, 0), 0)) (.leaf (1093, (.iconst 2, 1094, 0), 0))) (.branch 1095 (.leaf (1094, (.iadd, 1095, 0), 0)) (.branch 1096 (.leaf (1095, (.iaload, 1096, 0), 0)) (.leaf (1096, (.invokevirtual 126, 1099, 147), 1091))))) (.branch 1101 (.branch 1100 (.leaf (1099, (.aload_n 2, 1100, 0), 0)) (.leaf (1100, (.aload_n 0, 1101, 0), 0))) (.branch 1102 (.leaf (1101, (.iload_n 3, 1102, 0), 0)) (.branch 1103 (.leaf (1102, (.iconst 1, 1103, 0), 0)) (.leaf (1103, (.iadd, 1104, 0), 0)))))))
set_option maxRecDepth 100000 in
def mt_0_20 : Lean.RArray mLf :=
  .branch 1127 (.branch 1117 (.branch 1108 (.branch 1106 (.branch 1105 (.leaf (1104, (.iaload, 1105, 0), 0)) (.leaf (1105, (.aload_n 0, 1106, 0), 0))) (.branch 1107 (.leaf (1106, (.iload_n 3, 1107, 0), 0)) (.leaf (1107, (.iconst 2, 1108, 0), 0)))) (.branch 1110 (.branch 1109 (.leaf (1108, (.iadd, 1109, 0), 0)) (.leaf (1109, (.iaload, 1110, 0), 0))) (.branch 1113 (.leaf (1110, (.invokevirtual 129, 1113, 250), 1591)) (.branch 1116 (.leaf (1113, (.if_icmp .eq 183, 1116, 1296), 0)) (.leaf (1116, (.iconst 0, 1117, 0), 0)))))) (.branch 1122 (.branch 1119 (.branch 1118 (.leaf (1117, (.ireturn, 1118, 0), 0)) (.leaf (1118, (.aload_n 1, 1119, 0), 0))) (.branch 1120 (.leaf (1119, (.aload_n 0, 1120, 0), 0)) (.branch 1121 (.leaf (1120, (.iload_n 3, 1121, 0), 0)) (.leaf (1121, (.iconst 1, 1122, 0), 0))))) (.branch 1124 (.branch 1123 (.leaf (1122, (.iadd, 1123, 0), 0)) (.leaf (1123, (.iaload, 1124, 0), 0))) (.branch 1125 (.leaf (1124, (.aload_n 0, 1125, 0), 0)) (.branch 1126 (.leaf (1125, (.iload_n 3, 1126, 0), 0)) (.leaf (1126, (.iconst 2, 1127, 0), 0))))))) (.branch 1139 (.branch 1134 (.branch 1129 (.branch 1128 (.leaf (1127, (.iadd, 1128, 0), 0)) (.leaf (1128, (.iaload, 1129, 0), 0))) (.branch 1132 (.leaf (1129, (.invokevirtual 130, 1132, 148), 1100)) (.branch 1133 (.leaf (1132, (.aload_n 2, 1133, 0), 0)) (.leaf (1133, (.aload_n 0, 1134, 0), 0))))) (.branch 1136 (.branch 1135 (.leaf (1134, (.iload_n 3, 1135, 0), 0)) (.leaf (1135, (.iconst 1, 1136, 0), 0))) (.branch 1137 (.leaf (1136, (.iadd, 1137, 0), 0)) (.branch 1138 (.leaf (1137, (.iaload, 1138, 0), 0)) (.leaf (1138, (.aload_n 0, 1139, 0), 0)))))) (.branch 1146 (.branch 1141 (.branch 1140 (.leaf (1139, (.iload_n 3, 1140, 0), 0)) (.leaf (1140, (.iconst 2, 1141, 0), 0))) (.branch 1142 (.leaf (1141, (.iadd, 1142, 0), 0)) (.branch 1143 (.leaf (1142, (.iaload, 1143, 0), 0)) (.leaf (1143, (.invokevirtual 133, 1146, 240), 1562))))) (.branch 1150 (.branch 1149 (.leaf (1146, (.if_icmp .eq 150, 1149, 1296), 0)) (.leaf (1149, (.iconst 0, 1150, 0), 0))) (.branch 1151 (.leaf (1150, (.ireturn, 1151, 0), 0)) (.branch 1152 (.leaf (1151, (.aload_n 1, 1152, 0), 0)) (.leaf (1152, (.aload_n 0, 1153, 0), 0)))))))
set_option maxRecDepth 100000 in
def mt_0_21 : Lean.RArray mLf :=
  .branch 1174 (.branch 1162 (.branch 1157 (.branch 1155 (.branch 1154 (.leaf (1153, (.iload_n 3, 1154, 0), 0)) (.leaf (1154, (.iconst 1, 1155, 0), 0))) (.branch 1156 (.leaf (1155, (.iadd, 1156, 0), 0)) (.leaf (1156, (.iaload, 1157, 0), 0)))) (.branch 1159 (.branch 1158 (.leaf (1157, (.aload_n 0, 1158, 0), 0)) (.leaf (1158, (.iload_n 3, 1159, 0), 0))) (.branch 1160 (.leaf (1159, (.iconst 2, 1160, 0), 0)) (.branch 1161 (.leaf (1160, (.iadd, 1161, 0), 0)) (.leaf (1161, (.iaload, 1162, 0), 0)))))) (.branch 1169 (.branch 1166 (.branch 1165 (.leaf (1162, (.invokevirtual 134, 1165, 149), 1109)) (.leaf (1165, (.aload_n 2, 1166, 0), 0))) (.branch 1167 (.leaf (1166, (.aload_n 0, 1167, 0), 0)) (.branch 1168 (.leaf (1167, (.iload_n 3, 1168, 0), 0)) (.leaf (1168, (.iconst 1, 1169, 0), 0))))) (.branch 1171 (.branch 1170 (.leaf (1169, (.iadd, 1170, 0), 0)) (.leaf (1170, (.iaload, 1171, 0), 0))) (.branch 1172 (.leaf (1171, (.aload_n 0, 1172, 0), 0)) (.branch 1173 (.leaf (1172, (.iload_n 3, 1173, 0), 0)) (.leaf (1173, (.iconst 2, 1174, 0), 0))))))) (.branch 1188 (.branch 1183 (.branch 1176 (.branch 1175 (.leaf (1174, (.iadd, 1175, 0), 0)) (.leaf (1175, (.iaload, 1176, 0), 0))) (.branch 1179 (.leaf (1176, (.invokevirtual 137, 1179, 235), 1543)) (.branch 1182 (.leaf (1179, (.if_icmp .eq 117, 1182, 1296), 0)) (.leaf (1182, (.iconst 0, 1183, 0), 0))))) (.branch 1185 (.branch 1184 (.leaf (1183, (.ireturn, 1184, 0), 0)) (.leaf (1184, (.aload_n 1, 1185, 0), 0))) (.branch 1186 (.leaf (1185, (.aload_n 0, 1186, 0), 0)) (.branch 1187 (.leaf (1186, (.iload_n 3, 1187, 0), 0)) (.leaf (1187, (.iconst 1, 1188, 0), 0)))))) (.branch 1195 (.branch 1190 (.branch 1189 (.leaf (1188, (.iadd, 1189, 0), 0)) (.leaf (1189, (.iaload, 1190, 0), 0))) (.branch 1193 (.leaf (1190, (.invokevirtual 138, 1193, 150), 1118)) (.branch 1194 (.leaf (1193, (.aload_n 2, 1194, 0), 0)) (.leaf (1194, (.aload_n 0, 1195, 0), 0))))) (.branch 1197 (.branch 1196 (.leaf (1195, (.iload_n 3, 1196, 0), 0)) (.leaf (1196, (.iconst 1, 1197, 0), 0))) (.branch 1198 (.leaf (1197, (.iadd, 1198, 0), 0)) (.branch 1199 (.leaf (1198, (.iaload, 1199, 0), 0)) (.leaf (1199, (.invokevirtual 141, 1202, 251), 1599)))))))
set_option maxRecDepth 100000 in
def mt_0_22 : Lean.RArray mLf :=
  .branch 1225 (.branch 1213 (.branch 1208 (.branch 1206 (.branch 1205 (.leaf (1202, (.if_icmp .eq 94, 1205, 1296), 0)) (.leaf (1205, (.iconst 0, 1206, 0), 0))) (.branch 1207 (.leaf (1206, (.ireturn, 1207, 0), 0)) (.leaf (1207, (.aload_n 1, 1208, 0), 0)))) (.branch 1210 (.branch 1209 (.leaf (1208, (.aload_n 0, 1209, 0), 0)) (.leaf (1209, (.iload_n 3, 1210, 0), 0))) (.branch 1211 (.leaf (1210, (.iconst 1, 1211, 0), 0)) (.branch 1212 (.leaf (1211, (.iadd, 1212, 0), 0)) (.leaf (1212, (.iaload, 1213, 0), 0)))))) (.branch 1218 (.branch 1215 (.branch 1214 (.leaf (1213, (.aload_n 0, 1214, 0), 0)) (.leaf (1214, (.iload_n 3, 1215, 0), 0))) (.branch 1216 (.leaf (1215, (.iconst 2, 1216, 0), 0)) (.branch 1217 (.leaf (1216, (.iadd, 1217, 0), 0)) (.leaf (1217, (.iaload, 1218, 0), 0))))) (.branch 1222 (.branch 1221 (.leaf (1218, (.invokevirtual 142, 1221, 151), 1136)) (.leaf (1221, (.aload_n 2, 1222, 0), 0))) (.branch 1223 (.leaf (1222, (.aload_n 0, 1223, 0), 0)) (.branch 1224 (.leaf (1223, (.iload_n 3, 1224, 0), 0)) (.leaf (1224, (.iconst 1, 1225, 0), 0))))))) (.branch 1239 (.branch 1230 (.branch 1227 (.branch 1226 (.leaf (1225, (.iadd, 1226, 0), 0)) (.leaf (1226, (.iaload, 1227, 0), 0))) (.branch 1228 (.leaf (1227, (.aload_n 0, 1228, 0), 0)) (.branch 1229 (.leaf (1228, (.iload_n 3, 1229, 0), 0)) (.leaf (1229, (.iconst 2, 1230, 0), 0))))) (.branch 1232 (.branch 1231 (.leaf (1230, (.iadd, 1231, 0), 0)) (.leaf (1231, (.iaload, 1232, 0), 0))) (.branch 1235 (.leaf (1232, (.invokevirtual 145, 1235, 252), 1607)) (.branch 1238 (.leaf (1235, (.if_icmp .eq 61, 1238, 1296), 0)) (.leaf (1238, (.iconst 0, 1239, 0), 0)))))) (.branch 1244 (.branch 1241 (.branch 1240 (.leaf (1239, (.ireturn, 1240, 0), 0)) (.leaf (1240, (.aload_n 1, 1241, 0), 0))) (.branch 1242 (.leaf (1241, (.aload_n 0, 1242, 0), 0)) (.branch 1243 (.leaf (1242, (.iload_n 3, 1243, 0), 0)) (.leaf (1243, (.iconst 1, 1244, 0), 0))))) (.branch 1246 (.branch 1245 (.leaf (1244, (.iadd, 1245, 0), 0)) (.leaf (1245, (.iaload, 1246, 0), 0))) (.branch 1247 (.leaf (1246, (.aload_n 0, 1247, 0), 0)) (.branch 1248 (.leaf (1247, (.iload_n 3, 1248, 0), 0)) (.leaf (1248, (.iconst 2, 1249, 0), 0)))))))
set_option maxRecDepth 100000 in
def mt_0_23 : Lean.RArray mLf :=
  .branch 1274 (.branch 1260 (.branch 1255 (.branch 1251 (.branch 1250 (.leaf (1249, (.iadd, 1250, 0), 0)) (.leaf (1250, (.iaload, 1251, 0), 0))) (.branch 1254 (.leaf (1251, (.invokevirtual 146, 1254, 152), 1140)) (.leaf (1254, (.aload_n 2, 1255, 0), 0)))) (.branch 1257 (.branch 1256 (.leaf (1255, (.aload_n 0, 1256, 0), 0)) (.leaf (1256, (.iload_n 3, 1257, 0), 0))) (.branch 1258 (.leaf (1257, (.iconst 1, 1258, 0), 0)) (.branch 1259 (.leaf (1258, (.iadd, 1259, 0), 0)) (.leaf (1259, (.iaload, 1260, 0), 0)))))) (.branch 1265 (.branch 1262 (.branch 1261 (.leaf (1260, (.aload_n 0, 1261, 0), 0)) (.leaf (1261, (.iload_n 3, 1262, 0), 0))) (.branch 1263 (.leaf (1262, (.iconst 2, 1263, 0), 0)) (.branch 1264 (.leaf (1263, (.iadd, 1264, 0), 0)) (.leaf (1264, (.iaload, 1265, 0), 0))))) (.branch 1271 (.branch 1268 (.leaf (1265, (.invokevirtual 149, 1268, 253), 1611)) (.leaf (1268, (.if_icmp .eq 28, 1271, 1296), 0))) (.branch 1272 (.leaf (1271, (.iconst 0, 1272, 0), 0)) (.branch 1273 (.leaf (1272, (.ireturn, 1273, 0), 0)) (.leaf (1273, (.aload_n 1, 1274, 0), 0))))))) (.branch 1286 (.branch 1279 (.branch 1276 (.branch 1275 (.leaf (1274, (.aload_n 0, 1275, 0), 0)) (.leaf (1275, (.iload_n 3, 1276, 0), 0))) (.branch 1277 (.leaf (1276, (.iconst 1, 1277, 0), 0)) (.branch 1278 (.leaf (1277, (.iadd, 1278, 0), 0)) (.leaf (1278, (.iaload, 1279, 0), 0))))) (.branch 1283 (.branch 1282 (.leaf (1279, (.invokevirtual 150, 1282, 153), 1148)) (.leaf (1282, (.aload_n 2, 1283, 0), 0))) (.branch 1284 (.leaf (1283, (.aload_n 0, 1284, 0), 0)) (.branch 1285 (.leaf (1284, (.iload_n 3, 1285, 0), 0)) (.leaf (1285, (.iconst 1, 1286, 0), 0)))))) (.branch 1295 (.branch 1288 (.branch 1287 (.leaf (1286, (.iadd, 1287, 0), 0)) (.leaf (1287, (.iaload, 1288, 0), 0))) (.branch 1291 (.leaf (1288, (.invokevirtual 153, 1291, 254), 1615)) (.branch 1294 (.leaf (1291, (.if_icmp .eq 5, 1294, 1296), 0)) (.leaf (1294, (.iconst 0, 1295, 0), 0))))) (.branch 1299 (.branch 1296 (.leaf (1295, (.ireturn, 1296, 0), 0)) (.leaf (1296, (.iinc 3 6, 1299, 0), 0))) (.branch 1302 (.leaf (1299, (.goto (-1281), 1302, 18), 0)) (.branch 1303 (.leaf (1302, (.iconst 1, 1303, 0), 0)) (.leaf (1303, (.ireturn, 1304, 0), 0)))))))
/-- DeckBenchLaw.law([I)Z -/
def mt_0 : Lean.RArray mLf :=
  .branch 721 (.branch 437 (.branch 296 (.branch 200 (mt_0_0) (.branch 245 (mt_0_1) (mt_0_2))) (.branch 341 (mt_0_3) (.branch 388 (mt_0_4) (mt_0_5)))) (.branch 578 (.branch 484 (mt_0_6) (.branch 529 (mt_0_7) (mt_0_8))) (.branch 629 (mt_0_9) (.branch 674 (mt_0_10) (mt_0_11))))) (.branch 1008 (.branch 867 (.branch 769 (mt_0_12) (.branch 820 (mt_0_13) (mt_0_14))) (.branch 916 (mt_0_15) (.branch 961 (mt_0_16) (mt_0_17)))) (.branch 1153 (.branch 1057 (mt_0_18) (.branch 1104 (mt_0_19) (mt_0_20))) (.branch 1202 (mt_0_21) (.branch 1249 (mt_0_22) (mt_0_23)))))
set_option maxRecDepth 100000 in
/-- DeckBench$Dealer.<init>(LDeckBench$FormSearch;)V -/
def mt_1 : Lean.RArray mLf :=
  .branch 16 (.branch 8 (.branch 4 (.branch 1 (.leaf (0, (.aload_n 0, 1, 0), 0)) (.leaf (1, (.invokespecial 1, 4, 900), 216))) (.branch 5 (.leaf (4, (.aload_n 0, 5, 0), 0)) (.leaf (5, (.new 7, 8, 6), 217)))) (.branch 12 (.branch 9 (.leaf (8, (.dup, 9, 0), 0)) (.leaf (9, (.invokespecial 9, 12, 54), 218))) (.branch 15 (.leaf (12, (.putfield 10, 15, 1), 236)) (.leaf (15, (.aload_n 0, 16, 0), 0))))) (.branch 26 (.branch 20 (.branch 19 (.leaf (16, (.new 16, 19, 5), 219)) (.leaf (19, (.dup, 20, 0), 0))) (.branch 23 (.leaf (20, (.invokespecial 18, 23, 47), 221)) (.leaf (23, (.putfield 19, 26, 2), 237)))) (.branch 28 (.branch 27 (.leaf (26, (.aload_n 0, 27, 0), 0)) (.leaf (27, (.aload_n 1, 28, 0), 0))) (.branch 31 (.leaf (28, (.putfield 23, 31, 0), 235)) (.leaf (31, (.return_, 32, 0), 0)))))
set_option maxRecDepth 100000 in
/-- DeckBench$Dealer.formOf(LDeckBench$Net;)I -/
def mt_2 : Lean.RArray mLf :=
  .branch 4 (.branch 1 (.leaf (0, (.aload_n 0, 1, 0), 0)) (.leaf (1, (.getfield 23, 4, 0), 235))) (.branch 5 (.leaf (4, (.aload_n 1, 5, 0), 0)) (.branch 8 (.leaf (5, (.invokevirtual 27, 8, 34), 739)) (.leaf (8, (.ireturn, 9, 0), 0))))
set_option maxRecDepth 100000 in
/-- DeckBench$Dealer.cardForm(LDeckBench$Net;I)I -/
def mt_3 : Lean.RArray mLf :=
  .branch 13 (.branch 6 (.branch 4 (.branch 1 (.leaf (0, (.aload_n 0, 1, 0), 0)) (.leaf (1, (.getfield 10, 4, 1), 236))) (.branch 5 (.leaf (4, (.aload_n 1, 5, 0), 0)) (.leaf (5, (.aload_n 1, 6, 0), 0)))) (.branch 10 (.branch 9 (.leaf (6, (.invokevirtual 33, 9, 60), 737)) (.leaf (9, (.iconst 1, 10, 0), 0))) (.branch 11 (.leaf (10, (.iload_n 2, 11, 0), 0)) (.branch 12 (.leaf (11, (.ishl, 12, 0), 0)) (.leaf (12, (.iconst (-1), 13, 0), 0)))))) (.branch 19 (.branch 15 (.branch 14 (.leaf (13, (.ixor, 14, 0), 0)) (.leaf (14, (.iand, 15, 0), 0))) (.branch 18 (.leaf (15, (.invokevirtual 37, 18, 68), 738)) (.leaf (18, (.aload_n 0, 19, 0), 0)))) (.branch 23 (.branch 22 (.leaf (19, (.getfield 23, 22, 0), 235)) (.leaf (22, (.aload_n 0, 23, 0), 0))) (.branch 26 (.leaf (23, (.getfield 10, 26, 1), 236)) (.branch 29 (.leaf (26, (.invokevirtual 27, 29, 34), 739)) (.leaf (29, (.ireturn, 30, 0), 0))))))
set_option maxRecDepth 100000 in
/-- DeckBench$Dealer.dealInto(LDeckBench$Net;LDeckBench$Deck;)V -/
def mt_4 : Lean.RArray mLf :=
  .branch 17 (.branch 7 (.branch 2 (.branch 1 (.leaf (0, (.iconst 0, 1, 0), 0)) (.leaf (1, (.istore_n 3, 2, 0), 0))) (.branch 3 (.leaf (2, (.iload_n 3, 3, 0), 0)) (.branch 4 (.leaf (3, (.aload_n 1, 4, 0), 0)) (.leaf (4, (.getfield 41, 7, 600), 177))))) (.branch 14 (.branch 10 (.leaf (7, (.if_icmp .ge 21, 10, 28), 0)) (.branch 11 (.leaf (10, (.aload_n 2, 11, 0), 0)) (.leaf (11, (.getfield 45, 14, 101), 303)))) (.branch 15 (.leaf (14, (.iload_n 3, 15, 0), 0)) (.branch 16 (.leaf (15, (.aload_n 0, 16, 0), 0)) (.leaf (16, (.aload_n 1, 17, 0), 0)))))) (.branch 29 (.branch 22 (.branch 18 (.leaf (17, (.iload_n 3, 18, 0), 0)) (.branch 21 (.leaf (18, (.invokevirtual 51, 21, 3), 733)) (.leaf (21, (.iastore, 22, 0), 0)))) (.branch 25 (.leaf (22, (.iinc 3 1, 25, 0), 0)) (.branch 28 (.leaf (25, (.goto (-23), 28, 2), 0)) (.leaf (28, (.aload_n 2, 29, 0), 0))))) (.branch 36 (.branch 30 (.leaf (29, (.aload_n 1, 30, 0), 0)) (.branch 33 (.leaf (30, (.getfield 41, 33, 600), 177)) (.leaf (33, (.putfield 55, 36, 100), 297)))) (.branch 37 (.leaf (36, (.aload_n 2, 37, 0), 0)) (.branch 40 (.leaf (37, (.invokevirtual 56, 40, 10), 740)) (.leaf (40, (.return_, 41, 0), 0))))))
set_option maxRecDepth 100000 in
def mt_5_0 : Lean.RArray mLf :=
  .branch 22 (.branch 12 (.branch 7 (.branch 1 (.leaf (0, (.aload_n 0, 1, 0), 0)) (.branch 4 (.leaf (1, (.getfield 19, 4, 2), 237)) (.leaf (4, (.invokevirtual 59, 7, 48), 945)))) (.branch 8 (.leaf (7, (.aload_n 0, 8, 0), 0)) (.branch 11 (.leaf (8, (.getfield 10, 11, 1), 236)) (.leaf (11, (.aload_n 1, 12, 0), 0))))) (.branch 17 (.branch 15 (.leaf (12, (.invokevirtual 62, 15, 57), 949)) (.branch 16 (.leaf (15, (.iconst 1, 16, 0), 0)) (.leaf (16, (.istore_n 2, 17, 0), 0)))) (.branch 18 (.leaf (17, (.iload_n 2, 18, 0), 0)) (.branch 19 (.leaf (18, (.aload_n 1, 19, 0), 0)) (.leaf (19, (.getfield 41, 22, 600), 177)))))) (.branch 32 (.branch 27 (.branch 25 (.leaf (22, (.if_icmp .ge 67, 25, 89), 0)) (.branch 26 (.leaf (25, (.iconst 0, 26, 0), 0)) (.leaf (26, (.istore_n 3, 27, 0), 0)))) (.branch 28 (.leaf (27, (.iload_n 3, 28, 0), 0)) (.branch 29 (.leaf (28, (.iload_n 2, 29, 0), 0)) (.leaf (29, (.if_icmp .ge 54, 32, 83), 0))))) (.branch 35 (.branch 33 (.leaf (32, (.aload_n 1, 33, 0), 0)) (.branch 34 (.leaf (33, (.iload_n 3, 34, 0), 0)) (.leaf (34, (.iload_n 2, 35, 0), 0)))) (.branch 41 (.branch 38 (.leaf (35, (.invokevirtual 66, 38, 64), 950)) (.leaf (38, (.ifCond .eq 39, 41, 77), 0))) (.branch 42 (.leaf (41, (.aload_n 0, 42, 0), 0)) (.leaf (42, (.getfield 10, 45, 1), 236))))))
set_option maxRecDepth 100000 in
def mt_5_1 : Lean.RArray mLf :=
  .branch 72 (.branch 55 (.branch 50 (.branch 46 (.leaf (45, (.iload_n 3, 46, 0), 0)) (.branch 47 (.leaf (46, (.iload_n 2, 47, 0), 0)) (.leaf (47, (.invokevirtual 70, 50, 65), 951)))) (.branch 51 (.leaf (50, (.aload_n 0, 51, 0), 0)) (.branch 54 (.leaf (51, (.getfield 19, 54, 2), 237)) (.leaf (54, (.aload_n 0, 55, 0), 0))))) (.branch 62 (.branch 58 (.leaf (55, (.getfield 23, 58, 0), 235)) (.branch 59 (.leaf (58, (.aload_n 0, 59, 0), 0)) (.leaf (59, (.getfield 10, 62, 1), 236)))) (.branch 68 (.branch 65 (.leaf (62, (.invokevirtual 27, 65, 34), 739)) (.leaf (65, (.invokevirtual 74, 68, 49), 952))) (.branch 69 (.leaf (68, (.aload_n 0, 69, 0), 0)) (.leaf (69, (.getfield 10, 72, 1), 236)))))) (.branch 86 (.branch 77 (.branch 73 (.leaf (72, (.iload_n 3, 73, 0), 0)) (.branch 74 (.leaf (73, (.iload_n 2, 74, 0), 0)) (.leaf (74, (.invokevirtual 70, 77, 65), 951)))) (.branch 80 (.leaf (77, (.iinc 3 1, 80, 0), 0)) (.branch 83 (.leaf (80, (.goto (-53), 83, 27), 0)) (.leaf (83, (.iinc 2 1, 86, 0), 0))))) (.branch 93 (.branch 89 (.leaf (86, (.goto (-69), 89, 17), 0)) (.branch 90 (.leaf (89, (.aload_n 0, 90, 0), 0)) (.leaf (90, (.getfield 19, 93, 2), 237)))) (.branch 97 (.branch 96 (.leaf (93, (.invokevirtual 78, 96, 50), 956)) (.leaf (96, (.aload_n 0, 97, 0), 0))) (.branch 100 (.leaf (97, (.getfield 19, 100, 2), 237)) (.leaf (100, (.areturn, 101, 0), 0))))))
/-- DeckBench$Dealer.lineDeckOf(LDeckBench$Net;)LDeckBench$LineDeck; -/
def mt_5 : Lean.RArray mLf :=
  .branch 45 (mt_5_0) (mt_5_1)
set_option maxRecDepth 100000 in
def mt_6_0 : Lean.RArray mLf :=
  .branch 18 (.branch 9 (.branch 4 (.branch 1 (.leaf (0, (.iload_n 2, 1, 0), 0)) (.leaf (1, (.invokestatic 79, 4, 255), 890))) (.branch 6 (.leaf (4, (.istore 4, 6, 0), 0)) (.branch 7 (.leaf (6, (.iconst 0, 7, 0), 0)) (.leaf (7, (.istore 5, 9, 0), 0))))) (.branch 12 (.branch 10 (.leaf (9, (.iconst 0, 10, 0), 0)) (.leaf (10, (.istore 6, 12, 0), 0))) (.branch 14 (.leaf (12, (.iload 6, 14, 0), 0)) (.branch 15 (.leaf (14, (.aload_n 3, 15, 0), 0)) (.leaf (15, (.invokevirtual 33, 18, 60), 737)))))) (.branch 30 (.branch 23 (.branch 21 (.leaf (18, (.if_icmp .gt 70, 21, 88), 0)) (.leaf (21, (.iload 6, 23, 0), 0))) (.branch 26 (.leaf (23, (.invokestatic 79, 26, 255), 890)) (.branch 27 (.leaf (26, (.iload_n 1, 27, 0), 0)) (.leaf (27, (.if_icmp .ne 55, 30, 82), 0))))) (.branch 35 (.branch 31 (.leaf (30, (.aload_n 0, 31, 0), 0)) (.branch 34 (.leaf (31, (.getfield 10, 34, 1), 236)) (.leaf (34, (.aload_n 3, 35, 0), 0)))) (.branch 37 (.leaf (35, (.iload 6, 37, 0), 0)) (.branch 40 (.leaf (37, (.invokevirtual 37, 40, 68), 738)) (.leaf (40, (.aload_n 0, 41, 0), 0))))))
set_option maxRecDepth 100000 in
def mt_6_1 : Lean.RArray mLf :=
  .branch 65 (.branch 53 (.branch 47 (.branch 44 (.leaf (41, (.getfield 10, 44, 1), 236)) (.leaf (44, (.invokevirtual 85, 47, 63), 891))) (.branch 49 (.leaf (47, (.iload 4, 49, 0), 0)) (.branch 52 (.leaf (49, (.if_icmp .ne 7, 52, 56), 0)) (.leaf (52, (.iconst 1, 53, 0), 0))))) (.branch 59 (.branch 56 (.leaf (53, (.goto 4, 56, 57), 0)) (.branch 57 (.leaf (56, (.iconst 0, 57, 0), 0)) (.leaf (57, (.istore 7, 59, 0), 0)))) (.branch 61 (.leaf (59, (.iload 7, 61, 0), 0)) (.branch 64 (.leaf (61, (.ifCond .eq 21, 64, 82), 0)) (.leaf (64, (.aload_n 0, 65, 0), 0)))))) (.branch 76 (.branch 69 (.branch 68 (.leaf (65, (.getfield 23, 68, 0), 235)) (.leaf (68, (.aload_n 0, 69, 0), 0))) (.branch 72 (.leaf (69, (.getfield 10, 72, 1), 236)) (.branch 75 (.leaf (72, (.invokevirtual 27, 75, 34), 739)) (.leaf (75, (.iload_n 2, 76, 0), 0))))) (.branch 85 (.branch 79 (.leaf (76, (.if_icmp .ne 6, 79, 82), 0)) (.branch 82 (.leaf (79, (.iinc 5 1, 82, 0), 0)) (.leaf (82, (.iinc 6 1, 85, 0), 0)))) (.branch 88 (.leaf (85, (.goto (-73), 88, 12), 0)) (.branch 90 (.leaf (88, (.iload 5, 90, 0), 0)) (.leaf (90, (.ireturn, 91, 0), 0))))))
/-- DeckBench$Dealer.partsIn(IILDeckBench$Net;)I -/
def mt_6 : Lean.RArray mLf :=
  .branch 41 (mt_6_0) (mt_6_1)
set_option maxRecDepth 100000 in
/-- DeckBench$Deck.<init>()V -/
def mt_7 : Lean.RArray mLf :=
  .branch 9 (.branch 4 (.branch 1 (.leaf (0, (.aload_n 0, 1, 0), 0)) (.leaf (1, (.invokespecial 3, 4, 900), 292))) (.branch 5 (.leaf (4, (.aload_n 0, 5, 0), 0)) (.branch 6 (.leaf (5, (.iconst 0, 6, 0), 0)) (.leaf (6, (.putfield 9, 9, 100), 293))))) (.branch 12 (.branch 10 (.leaf (9, (.aload_n 0, 10, 0), 0)) (.leaf (10, (.bipush 7, 12, 0), 0))) (.branch 14 (.leaf (12, (.newarray .int, 14, 0), 0)) (.branch 17 (.leaf (14, (.putfield 15, 17, 101), 300)) (.leaf (17, (.return_, 18, 0), 0)))))
set_option maxRecDepth 100000 in
/-- DeckBench$Deck.copy(LDeckBench$Deck;)V -/
def mt_8 : Lean.RArray mLf :=
  .branch 12 (.branch 5 (.branch 1 (.leaf (0, (.aload_n 0, 1, 0), 0)) (.branch 2 (.leaf (1, (.aload_n 1, 2, 0), 0)) (.leaf (2, (.getfield 9, 5, 100), 293)))) (.branch 8 (.leaf (5, (.putfield 9, 8, 100), 293)) (.branch 9 (.leaf (8, (.aload_n 1, 9, 0), 0)) (.leaf (9, (.getfield 15, 12, 101), 300))))) (.branch 17 (.branch 13 (.leaf (12, (.iconst 0, 13, 0), 0)) (.branch 14 (.leaf (13, (.aload_n 0, 14, 0), 0)) (.leaf (14, (.getfield 15, 17, 101), 300)))) (.branch 20 (.branch 18 (.leaf (17, (.iconst 0, 18, 0), 0)) (.leaf (18, (.bipush 7, 20, 0), 0))) (.branch 23 (.leaf (20, (.invokestatic 19, 23, 901), 647)) (.leaf (23, (.return_, 24, 0), 0)))))
set_option maxRecDepth 100000 in
/-- DeckBench$Deck.clear()V -/
def mt_9 : Lean.RArray mLf :=
  .branch 2 (.branch 1 (.leaf (0, (.aload_n 0, 1, 0), 0)) (.leaf (1, (.iconst 0, 2, 0), 0))) (.branch 5 (.leaf (2, (.putfield 9, 5, 100), 293)) (.leaf (5, (.return_, 6, 0), 0)))
set_option maxRecDepth 100000 in
/-- DeckBench$Deck.sort()V -/
def mt_10 : Lean.RArray mLf :=
  .branch 5 (.branch 1 (.leaf (0, (.aload_n 0, 1, 0), 0)) (.branch 4 (.leaf (1, (.getfield 15, 4, 101), 300)) (.leaf (4, (.aload_n 0, 5, 0), 0)))) (.branch 8 (.leaf (5, (.getfield 9, 8, 100), 293)) (.branch 11 (.leaf (8, (.invokestatic 25, 11, 11), 633)) (.leaf (11, (.return_, 12, 0), 0))))
set_option maxRecDepth 100000 in
def mt_11_0 : Lean.RArray mLf :=
  .branch 14 (.branch 7 (.branch 2 (.branch 1 (.leaf (0, (.iconst 1, 1, 0), 0)) (.leaf (1, (.istore_n 2, 2, 0), 0))) (.branch 3 (.leaf (2, (.iload_n 2, 3, 0), 0)) (.branch 4 (.leaf (3, (.iload_n 1, 4, 0), 0)) (.leaf (4, (.if_icmp .ge 58, 7, 62), 0))))) (.branch 9 (.branch 8 (.leaf (7, (.iload_n 2, 8, 0), 0)) (.leaf (8, (.aload_n 0, 9, 0), 0))) (.branch 10 (.leaf (9, (.arraylength, 10, 0), 0)) (.branch 13 (.leaf (10, (.if_icmp .ge 52, 13, 62), 0)) (.leaf (13, (.aload_n 0, 14, 0), 0)))))) (.branch 20 (.branch 16 (.branch 15 (.leaf (14, (.iload_n 2, 15, 0), 0)) (.leaf (15, (.iaload, 16, 0), 0))) (.branch 17 (.leaf (16, (.istore_n 3, 17, 0), 0)) (.branch 18 (.leaf (17, (.iload_n 2, 18, 0), 0)) (.leaf (18, (.istore 4, 20, 0), 0))))) (.branch 25 (.branch 22 (.leaf (20, (.iload 4, 22, 0), 0)) (.leaf (22, (.ifCond .le 29, 25, 51), 0))) (.branch 26 (.leaf (25, (.aload_n 0, 26, 0), 0)) (.branch 28 (.leaf (26, (.iload 4, 28, 0), 0)) (.leaf (28, (.iconst 1, 29, 0), 0))))))
set_option maxRecDepth 100000 in
def mt_11_1 : Lean.RArray mLf :=
  .branch 43 (.branch 36 (.branch 31 (.branch 30 (.leaf (29, (.isub, 30, 0), 0)) (.leaf (30, (.iaload, 31, 0), 0))) (.branch 32 (.leaf (31, (.iload_n 3, 32, 0), 0)) (.branch 35 (.leaf (32, (.if_icmp .le 19, 35, 51), 0)) (.leaf (35, (.aload_n 0, 36, 0), 0))))) (.branch 39 (.branch 38 (.leaf (36, (.iload 4, 38, 0), 0)) (.leaf (38, (.aload_n 0, 39, 0), 0))) (.branch 41 (.leaf (39, (.iload 4, 41, 0), 0)) (.branch 42 (.leaf (41, (.iconst 1, 42, 0), 0)) (.leaf (42, (.isub, 43, 0), 0)))))) (.branch 52 (.branch 45 (.branch 44 (.leaf (43, (.iaload, 44, 0), 0)) (.leaf (44, (.iastore, 45, 0), 0))) (.branch 48 (.leaf (45, (.iinc 4 (-1), 48, 0), 0)) (.branch 51 (.leaf (48, (.goto (-28), 51, 20), 0)) (.leaf (51, (.aload_n 0, 52, 0), 0))))) (.branch 56 (.branch 54 (.leaf (52, (.iload 4, 54, 0), 0)) (.branch 55 (.leaf (54, (.iload_n 3, 55, 0), 0)) (.leaf (55, (.iastore, 56, 0), 0)))) (.branch 59 (.leaf (56, (.iinc 2 1, 59, 0), 0)) (.branch 62 (.leaf (59, (.goto (-57), 62, 2), 0)) (.leaf (62, (.return_, 63, 0), 0))))))
/-- DeckBench$Deck.sortFirst([II)V -/
def mt_11 : Lean.RArray mLf :=
  .branch 29 (mt_11_0) (mt_11_1)
set_option maxRecDepth 100000 in
/-- DeckBench$Deck.unlikeIn([II)I -/
def mt_12 : Lean.RArray mLf :=
  .branch 19 (.branch 6 (.branch 3 (.branch 1 (.leaf (0, (.iconst 0, 1, 0), 0)) (.branch 2 (.leaf (1, (.istore_n 2, 2, 0), 0)) (.leaf (2, (.iconst 0, 3, 0), 0)))) (.branch 4 (.leaf (3, (.istore_n 3, 4, 0), 0)) (.branch 5 (.leaf (4, (.iload_n 3, 5, 0), 0)) (.leaf (5, (.iload_n 1, 6, 0), 0))))) (.branch 11 (.branch 9 (.leaf (6, (.if_icmp .ge 33, 9, 39), 0)) (.branch 10 (.leaf (9, (.iload_n 3, 10, 0), 0)) (.leaf (10, (.aload_n 0, 11, 0), 0)))) (.branch 15 (.branch 12 (.leaf (11, (.arraylength, 12, 0), 0)) (.leaf (12, (.if_icmp .ge 27, 15, 39), 0))) (.branch 16 (.leaf (15, (.iload_n 3, 16, 0), 0)) (.leaf (16, (.ifCond .eq 14, 19, 30), 0)))))) (.branch 26 (.branch 22 (.branch 20 (.leaf (19, (.aload_n 0, 20, 0), 0)) (.branch 21 (.leaf (20, (.iload_n 3, 21, 0), 0)) (.leaf (21, (.iaload, 22, 0), 0)))) (.branch 24 (.branch 23 (.leaf (22, (.aload_n 0, 23, 0), 0)) (.leaf (23, (.iload_n 3, 24, 0), 0))) (.branch 25 (.leaf (24, (.iconst 1, 25, 0), 0)) (.leaf (25, (.isub, 26, 0), 0))))) (.branch 33 (.branch 27 (.leaf (26, (.iaload, 27, 0), 0)) (.branch 30 (.leaf (27, (.if_icmp .eq 6, 30, 33), 0)) (.leaf (30, (.iinc 2 1, 33, 0), 0)))) (.branch 39 (.branch 36 (.leaf (33, (.iinc 3 1, 36, 0), 0)) (.leaf (36, (.goto (-32), 39, 4), 0))) (.branch 40 (.leaf (39, (.iload_n 2, 40, 0), 0)) (.leaf (40, (.ireturn, 41, 0), 0))))))
set_option maxRecDepth 100000 in
/-- DeckBench$Deck.unlikeCards()I -/
def mt_13 : Lean.RArray mLf :=
  .branch 5 (.branch 1 (.leaf (0, (.aload_n 0, 1, 0), 0)) (.branch 4 (.leaf (1, (.getfield 15, 4, 101), 300)) (.leaf (4, (.aload_n 0, 5, 0), 0)))) (.branch 8 (.leaf (5, (.getfield 9, 8, 100), 293)) (.branch 11 (.leaf (8, (.invokestatic 29, 11, 12), 745)) (.leaf (11, (.ireturn, 12, 0), 0))))
set_option maxRecDepth 100000 in
/-- DeckBench$Deck.firstOf(I)I -/
def mt_14 : Lean.RArray mLf :=
  .branch 15 (.branch 4 (.branch 2 (.branch 1 (.leaf (0, (.iconst 0, 1, 0), 0)) (.leaf (1, (.istore_n 2, 2, 0), 0))) (.branch 3 (.leaf (2, (.iload_n 2, 3, 0), 0)) (.leaf (3, (.aload_n 0, 4, 0), 0)))) (.branch 10 (.branch 7 (.leaf (4, (.getfield 9, 7, 100), 293)) (.leaf (7, (.if_icmp .ge 21, 10, 28), 0))) (.branch 11 (.leaf (10, (.aload_n 0, 11, 0), 0)) (.branch 14 (.leaf (11, (.getfield 15, 14, 101), 300)) (.leaf (14, (.iload_n 2, 15, 0), 0)))))) (.branch 21 (.branch 17 (.branch 16 (.leaf (15, (.iaload, 16, 0), 0)) (.leaf (16, (.iload_n 1, 17, 0), 0))) (.branch 20 (.leaf (17, (.if_icmp .ne 5, 20, 22), 0)) (.leaf (20, (.iload_n 2, 21, 0), 0)))) (.branch 25 (.branch 22 (.leaf (21, (.ireturn, 22, 0), 0)) (.leaf (22, (.iinc 2 1, 25, 0), 0))) (.branch 28 (.leaf (25, (.goto (-23), 28, 2), 0)) (.branch 29 (.leaf (28, (.iconst (-1), 29, 0), 0)) (.leaf (29, (.ireturn, 30, 0), 0))))))
set_option maxRecDepth 100000 in
def mt_15_0 : Lean.RArray mLf :=
  .branch 18 (.branch 12 (.branch 5 (.branch 1 (.leaf (0, (.aload_n 0, 1, 0), 0)) (.branch 4 (.leaf (1, (.getfield 9, 4, 100), 293)) (.leaf (4, (.aload_n 1, 5, 0), 0)))) (.branch 8 (.leaf (5, (.getfield 9, 8, 100), 293)) (.branch 11 (.leaf (8, (.if_icmp .eq 5, 11, 13), 0)) (.leaf (11, (.iconst 0, 12, 0), 0))))) (.branch 15 (.branch 13 (.leaf (12, (.ireturn, 13, 0), 0)) (.branch 14 (.leaf (13, (.iconst 0, 14, 0), 0)) (.leaf (14, (.istore_n 2, 15, 0), 0)))) (.branch 16 (.leaf (15, (.iconst 0, 16, 0), 0)) (.branch 17 (.leaf (16, (.istore_n 3, 17, 0), 0)) (.leaf (17, (.iconst 0, 18, 0), 0)))))) (.branch 30 (.branch 23 (.branch 20 (.leaf (18, (.istore 4, 20, 0), 0)) (.branch 22 (.leaf (20, (.iload 4, 22, 0), 0)) (.leaf (22, (.aload_n 0, 23, 0), 0)))) (.branch 26 (.leaf (23, (.getfield 9, 26, 100), 293)) (.branch 29 (.leaf (26, (.if_icmp .ge 69, 29, 95), 0)) (.leaf (29, (.iload_n 3, 30, 0), 0))))) (.branch 37 (.branch 31 (.leaf (30, (.aload_n 0, 31, 0), 0)) (.branch 34 (.leaf (31, (.getfield 9, 34, 100), 293)) (.leaf (34, (.if_icmp .ge 25, 37, 59), 0)))) (.branch 41 (.branch 38 (.leaf (37, (.aload_n 1, 38, 0), 0)) (.leaf (38, (.getfield 15, 41, 101), 300))) (.branch 42 (.leaf (41, (.iload_n 3, 42, 0), 0)) (.leaf (42, (.iaload, 43, 0), 0))))))
set_option maxRecDepth 100000 in
def mt_15_1 : Lean.RArray mLf :=
  .branch 71 (.branch 56 (.branch 49 (.branch 44 (.leaf (43, (.aload_n 0, 44, 0), 0)) (.branch 47 (.leaf (44, (.getfield 15, 47, 101), 300)) (.leaf (47, (.iload 4, 49, 0), 0)))) (.branch 50 (.leaf (49, (.iaload, 50, 0), 0)) (.branch 53 (.leaf (50, (.if_icmp .ge 9, 53, 59), 0)) (.leaf (53, (.iinc 3 1, 56, 0), 0))))) (.branch 61 (.branch 59 (.leaf (56, (.goto (-27), 59, 29), 0)) (.branch 60 (.leaf (59, (.iload_n 3, 60, 0), 0)) (.leaf (60, (.aload_n 0, 61, 0), 0)))) (.branch 67 (.branch 64 (.leaf (61, (.getfield 9, 64, 100), 293)) (.leaf (64, (.if_icmp .ge 25, 67, 89), 0))) (.branch 68 (.leaf (67, (.aload_n 1, 68, 0), 0)) (.leaf (68, (.getfield 15, 71, 101), 300)))))) (.branch 80 (.branch 74 (.branch 72 (.leaf (71, (.iload_n 3, 72, 0), 0)) (.branch 73 (.leaf (72, (.iaload, 73, 0), 0)) (.leaf (73, (.aload_n 0, 74, 0), 0)))) (.branch 77 (.leaf (74, (.getfield 15, 77, 101), 300)) (.branch 79 (.leaf (77, (.iload 4, 79, 0), 0)) (.leaf (79, (.iaload, 80, 0), 0))))) (.branch 89 (.branch 83 (.leaf (80, (.if_icmp .ne 9, 83, 89), 0)) (.branch 86 (.leaf (83, (.iinc 2 1, 86, 0), 0)) (.leaf (86, (.iinc 3 1, 89, 0), 0)))) (.branch 95 (.branch 92 (.leaf (89, (.iinc 4 1, 92, 0), 0)) (.leaf (92, (.goto (-72), 95, 20), 0))) (.branch 96 (.leaf (95, (.iload_n 2, 96, 0), 0)) (.leaf (96, (.ireturn, 97, 0), 0))))))
/-- DeckBench$Deck.sharedWith(LDeckBench$Deck;)I -/
def mt_15 : Lean.RArray mLf :=
  .branch 43 (mt_15_0) (mt_15_1)
set_option maxRecDepth 100000 in
/-- DeckBench$Deck.linesOf(I)I -/
def mt_16 : Lean.RArray mLf :=
  .branch 13 (.branch 5 (.branch 1 (.leaf (0, (.iload_n 1, 1, 0), 0)) (.branch 4 (.leaf (1, (.ifCond .lt 23, 4, 24), 0)) (.leaf (4, (.iload_n 1, 5, 0), 0)))) (.branch 9 (.branch 6 (.leaf (5, (.aload_n 0, 6, 0), 0)) (.leaf (6, (.getfield 9, 9, 100), 293))) (.branch 12 (.leaf (9, (.if_icmp .ge 15, 12, 24), 0)) (.leaf (12, (.aload_n 0, 13, 0), 0))))) (.branch 18 (.branch 16 (.leaf (13, (.getfield 15, 16, 101), 300)) (.branch 17 (.leaf (16, (.iload_n 1, 17, 0), 0)) (.leaf (17, (.iaload, 18, 0), 0)))) (.branch 24 (.branch 21 (.leaf (18, (.invokestatic 33, 21, 255), 781)) (.leaf (21, (.goto 4, 24, 25), 0))) (.branch 25 (.leaf (24, (.iconst 0, 25, 0), 0)) (.leaf (25, (.ireturn, 26, 0), 0)))))
set_option maxRecDepth 100000 in
/-- DeckBench$Deck.fewestLines()I -/
def mt_17 : Lean.RArray mLf :=
  .branch 14 (.branch 5 (.branch 3 (.branch 2 (.leaf (0, (.bipush 21, 2, 0), 0)) (.leaf (2, (.istore_n 1, 3, 0), 0))) (.branch 4 (.leaf (3, (.iconst 0, 4, 0), 0)) (.leaf (4, (.istore_n 2, 5, 0), 0)))) (.branch 7 (.branch 6 (.leaf (5, (.iload_n 2, 6, 0), 0)) (.leaf (6, (.aload_n 0, 7, 0), 0))) (.branch 10 (.leaf (7, (.getfield 9, 10, 100), 293)) (.branch 13 (.leaf (10, (.if_icmp .ge 19, 13, 29), 0)) (.leaf (13, (.iload_n 1, 14, 0), 0)))))) (.branch 22 (.branch 16 (.branch 15 (.leaf (14, (.aload_n 0, 15, 0), 0)) (.leaf (15, (.iload_n 2, 16, 0), 0))) (.branch 19 (.leaf (16, (.invokevirtual 39, 19, 16), 777)) (.leaf (19, (.invokestatic 42, 22, 903), 1080)))) (.branch 26 (.branch 23 (.leaf (22, (.istore_n 1, 23, 0), 0)) (.leaf (23, (.iinc 2 1, 26, 0), 0))) (.branch 29 (.leaf (26, (.goto (-21), 29, 5), 0)) (.branch 30 (.leaf (29, (.iload_n 1, 30, 0), 0)) (.leaf (30, (.ireturn, 31, 0), 0))))))
set_option maxRecDepth 100000 in
/-- DeckBench$Deck.mostLines()I -/
def mt_18 : Lean.RArray mLf :=
  .branch 13 (.branch 4 (.branch 2 (.branch 1 (.leaf (0, (.iconst 0, 1, 0), 0)) (.leaf (1, (.istore_n 1, 2, 0), 0))) (.branch 3 (.leaf (2, (.iconst 0, 3, 0), 0)) (.leaf (3, (.istore_n 2, 4, 0), 0)))) (.branch 6 (.branch 5 (.leaf (4, (.iload_n 2, 5, 0), 0)) (.leaf (5, (.aload_n 0, 6, 0), 0))) (.branch 9 (.leaf (6, (.getfield 9, 9, 100), 293)) (.branch 12 (.leaf (9, (.if_icmp .ge 19, 12, 28), 0)) (.leaf (12, (.iload_n 1, 13, 0), 0)))))) (.branch 21 (.branch 15 (.branch 14 (.leaf (13, (.aload_n 0, 14, 0), 0)) (.leaf (14, (.iload_n 2, 15, 0), 0))) (.branch 18 (.leaf (15, (.invokevirtual 39, 18, 16), 777)) (.leaf (18, (.invokestatic 48, 21, 902), 1085)))) (.branch 25 (.branch 22 (.leaf (21, (.istore_n 1, 22, 0), 0)) (.leaf (22, (.iinc 2 1, 25, 0), 0))) (.branch 28 (.leaf (25, (.goto (-21), 28, 4), 0)) (.branch 29 (.leaf (28, (.iload_n 1, 29, 0), 0)) (.leaf (29, (.ireturn, 30, 0), 0))))))
set_option maxRecDepth 100000 in
/-- DeckBench$Deck.toldLines()I -/
def mt_19 : Lean.RArray mLf :=
  .branch 28 (.branch 13 (.branch 8 (.branch 4 (.branch 1 (.leaf (0, (.aload_n 0, 1, 0), 0)) (.leaf (1, (.getfield 9, 4, 100), 293))) (.branch 5 (.leaf (4, (.iconst 3, 5, 0), 0)) (.leaf (5, (.if_icmp .ge 5, 8, 10), 0)))) (.branch 10 (.branch 9 (.leaf (8, (.iconst (-1), 9, 0), 0)) (.leaf (9, (.ireturn, 10, 0), 0))) (.branch 11 (.leaf (10, (.iconst 0, 11, 0), 0)) (.branch 12 (.leaf (11, (.istore_n 1, 12, 0), 0)) (.leaf (12, (.iconst 0, 13, 0), 0)))))) (.branch 19 (.branch 15 (.branch 14 (.leaf (13, (.istore_n 2, 14, 0), 0)) (.leaf (14, (.iload_n 2, 15, 0), 0))) (.branch 16 (.leaf (15, (.aload_n 0, 16, 0), 0)) (.leaf (16, (.getfield 9, 19, 100), 293)))) (.branch 23 (.branch 22 (.leaf (19, (.if_icmp .ge 17, 22, 36), 0)) (.leaf (22, (.iload_n 1, 23, 0), 0))) (.branch 24 (.leaf (23, (.aload_n 0, 24, 0), 0)) (.branch 25 (.leaf (24, (.iload_n 2, 25, 0), 0)) (.leaf (25, (.invokevirtual 39, 28, 16), 777))))))) (.branch 43 (.branch 36 (.branch 30 (.branch 29 (.leaf (28, (.iadd, 29, 0), 0)) (.leaf (29, (.istore_n 1, 30, 0), 0))) (.branch 33 (.leaf (30, (.iinc 2 1, 33, 0), 0)) (.leaf (33, (.goto (-19), 36, 14), 0)))) (.branch 40 (.branch 37 (.leaf (36, (.aload_n 0, 37, 0), 0)) (.leaf (37, (.getfield 9, 40, 100), 293))) (.branch 41 (.leaf (40, (.iconst 2, 41, 0), 0)) (.branch 42 (.leaf (41, (.isub, 42, 0), 0)) (.leaf (42, (.istore_n 2, 43, 0), 0)))))) (.branch 50 (.branch 45 (.branch 44 (.leaf (43, (.iload_n 1, 44, 0), 0)) (.leaf (44, (.iload_n 2, 45, 0), 0))) (.branch 46 (.leaf (45, (.irem, 46, 0), 0)) (.branch 49 (.leaf (46, (.ifCond .ne 9, 49, 55), 0)) (.leaf (49, (.iload_n 1, 50, 0), 0))))) (.branch 52 (.branch 51 (.leaf (50, (.iload_n 2, 51, 0), 0)) (.leaf (51, (.idiv, 52, 0), 0))) (.branch 55 (.leaf (52, (.goto 4, 55, 56), 0)) (.branch 56 (.leaf (55, (.iconst (-1), 56, 0), 0)) (.leaf (56, (.ireturn, 57, 0), 0)))))))
set_option maxRecDepth 100000 in
/-- DeckBench$Figures.<init>(LDeckBench$FormSearch;)V -/
def mt_20 : Lean.RArray mLf :=
  .branch 27 (.branch 12 (.branch 5 (.branch 1 (.leaf (0, (.aload_n 0, 1, 0), 0)) (.branch 4 (.leaf (1, (.invokespecial 3, 4, 900), 165)) (.leaf (4, (.aload_n 0, 5, 0), 0)))) (.branch 8 (.leaf (5, (.new 9, 8, 6), 166)) (.branch 9 (.leaf (8, (.dup, 9, 0), 0)) (.leaf (9, (.invokespecial 11, 12, 54), 168))))) (.branch 19 (.branch 15 (.leaf (12, (.putfield 12, 15, 201), 192)) (.branch 16 (.leaf (15, (.aload_n 0, 16, 0), 0)) (.leaf (16, (.sipush 128, 19, 0), 0)))) (.branch 24 (.branch 21 (.leaf (19, (.newarray .int, 21, 0), 0)) (.leaf (21, (.putfield 18, 24, 202), 193))) (.branch 25 (.leaf (24, (.aload_n 0, 25, 0), 0)) (.leaf (25, (.bipush 49, 27, 0), 0)))))) (.branch 41 (.branch 33 (.branch 29 (.leaf (27, (.newarray .int, 29, 0), 0)) (.branch 32 (.leaf (29, (.putfield 22, 32, 203), 194)) (.leaf (32, (.aload_n 0, 33, 0), 0)))) (.branch 37 (.branch 35 (.leaf (33, (.bipush 49, 35, 0), 0)) (.leaf (35, (.newarray .int, 37, 0), 0))) (.branch 40 (.leaf (37, (.putfield 25, 40, 204), 195)) (.leaf (40, (.aload_n 0, 41, 0), 0))))) (.branch 48 (.branch 43 (.leaf (41, (.bipush 49, 43, 0), 0)) (.branch 45 (.leaf (43, (.newarray .long, 45, 2), 0)) (.leaf (45, (.putfield 28, 48, 205), 196)))) (.branch 50 (.branch 49 (.leaf (48, (.aload_n 0, 49, 0), 0)) (.leaf (49, (.aload_n 1, 50, 0), 0))) (.branch 53 (.leaf (50, (.putfield 32, 53, 200), 191)) (.leaf (53, (.return_, 54, 0), 0))))))
set_option maxRecDepth 100000 in
def mt_21_0 : Lean.RArray mLf :=
  .branch 57 (.branch 10 (.branch 5 (.branch 1 (.leaf (0, (.aload_n 1, 1, 0), 0)) (.branch 4 (.leaf (1, (.getfield 36, 4, 600), 174)) (.leaf (4, (.iconst 1, 5, 0), 0)))) (.branch 8 (.leaf (5, (.if_icmp .ge 5, 8, 10), 0)) (.branch 9 (.leaf (8, (.iconst 0, 9, 0), 0)) (.leaf (9, (.ireturn, 10, 0), 0))))) (.branch 49 (.branch 11 (.leaf (10, (.iload_n 2, 11, 0), 0)) (.branch 48 (.leaf (11, (.tableswitch 115 0 5 #[37, 51, 56, 83, 88, 94], 48, 0), 0)) (.leaf (48, (.aload_n 1, 49, 0), 0)))) (.branch 53 (.branch 52 (.leaf (49, (.invokevirtual 40, 52, 72), 991)) (.leaf (52, (.iconst 1, 53, 0), 0))) (.branch 56 (.leaf (53, (.if_icmp .ne 7, 56, 60), 0)) (.leaf (56, (.iconst 1, 57, 0), 0)))))) (.branch 68 (.branch 62 (.branch 60 (.leaf (57, (.goto 4, 60, 61), 0)) (.branch 61 (.leaf (60, (.iconst 0, 61, 0), 0)) (.leaf (61, (.ireturn, 62, 0), 0)))) (.branch 66 (.branch 63 (.leaf (62, (.aload_n 1, 63, 0), 0)) (.leaf (63, (.invokestatic 44, 66, 22), 992))) (.branch 67 (.leaf (66, (.ireturn, 67, 0), 0)) (.leaf (67, (.aload_n 1, 68, 0), 0))))) (.branch 75 (.branch 71 (.leaf (68, (.invokevirtual 40, 71, 72), 991)) (.branch 72 (.leaf (71, (.iconst 1, 72, 0), 0)) (.leaf (72, (.if_icmp .ne 20, 75, 92), 0)))) (.branch 79 (.branch 76 (.leaf (75, (.aload_n 1, 76, 0), 0)) (.leaf (76, (.invokevirtual 48, 79, 63), 996))) (.branch 80 (.leaf (79, (.aload_n 1, 80, 0), 0)) (.leaf (80, (.getfield 36, 83, 600), 174))))))
set_option maxRecDepth 100000 in
def mt_21_1 : Lean.RArray mLf :=
  .branch 104 (.branch 93 (.branch 88 (.branch 84 (.leaf (83, (.iconst 1, 84, 0), 0)) (.branch 85 (.leaf (84, (.isub, 85, 0), 0)) (.leaf (85, (.if_icmp .ne 7, 88, 92), 0)))) (.branch 89 (.leaf (88, (.iconst 1, 89, 0), 0)) (.branch 92 (.leaf (89, (.goto 4, 92, 93), 0)) (.leaf (92, (.iconst 0, 93, 0), 0))))) (.branch 98 (.branch 94 (.leaf (93, (.ireturn, 94, 0), 0)) (.branch 95 (.leaf (94, (.aload_n 1, 95, 0), 0)) (.leaf (95, (.invokestatic 51, 98, 23), 997)))) (.branch 100 (.branch 99 (.leaf (98, (.ireturn, 99, 0), 0)) (.leaf (99, (.aload_n 0, 100, 0), 0))) (.branch 101 (.leaf (100, (.aload_n 1, 101, 0), 0)) (.leaf (101, (.invokevirtual 54, 104, 25), 1004)))))) (.branch 117 (.branch 109 (.branch 105 (.leaf (104, (.ireturn, 105, 0), 0)) (.branch 106 (.leaf (105, (.aload_n 0, 106, 0), 0)) (.leaf (106, (.getfield 12, 109, 201), 192)))) (.branch 113 (.branch 110 (.leaf (109, (.aload_n 1, 110, 0), 0)) (.leaf (110, (.invokevirtual 57, 113, 67), 1012))) (.branch 114 (.leaf (113, (.aload_n 0, 114, 0), 0)) (.leaf (114, (.getfield 32, 117, 200), 191))))) (.branch 122 (.branch 118 (.leaf (117, (.aload_n 1, 118, 0), 0)) (.branch 119 (.leaf (118, (.aload_n 0, 119, 0), 0)) (.leaf (119, (.getfield 12, 122, 201), 192)))) (.branch 126 (.branch 125 (.leaf (122, (.invokevirtual 61, 125, 35), 1013)) (.leaf (125, (.ireturn, 126, 0), 0))) (.branch 127 (.leaf (126, (.iconst 0, 127, 0), 0)) (.leaf (127, (.ireturn, 128, 0), 0))))))
/-- DeckBench$Figures.isOfClass(LDeckBench$Net;I)Z -/
def mt_21 : Lean.RArray mLf :=
  .branch 83 (mt_21_0) (mt_21_1)
set_option maxRecDepth 100000 in
/-- DeckBench$Figures.hasLikeDegrees(LDeckBench$Net;)Z -/
def mt_22 : Lean.RArray mLf :=
  .branch 15 (.branch 4 (.branch 2 (.branch 1 (.leaf (0, (.iconst 1, 1, 0), 0)) (.leaf (1, (.istore_n 1, 2, 0), 0))) (.branch 3 (.leaf (2, (.iload_n 1, 3, 0), 0)) (.leaf (3, (.aload_n 0, 4, 0), 0)))) (.branch 10 (.branch 7 (.leaf (4, (.getfield 36, 7, 600), 174)) (.leaf (7, (.if_icmp .ge 24, 10, 31), 0))) (.branch 11 (.leaf (10, (.aload_n 0, 11, 0), 0)) (.branch 12 (.leaf (11, (.iload_n 1, 12, 0), 0)) (.leaf (12, (.invokevirtual 67, 15, 62), 995)))))) (.branch 24 (.branch 17 (.branch 16 (.leaf (15, (.aload_n 0, 16, 0), 0)) (.leaf (16, (.iconst 0, 17, 0), 0))) (.branch 20 (.leaf (17, (.invokevirtual 67, 20, 62), 995)) (.branch 23 (.leaf (20, (.if_icmp .eq 5, 23, 25), 0)) (.leaf (23, (.iconst 0, 24, 0), 0))))) (.branch 28 (.branch 25 (.leaf (24, (.ireturn, 25, 0), 0)) (.leaf (25, (.iinc 1 1, 28, 0), 0))) (.branch 31 (.leaf (28, (.goto (-26), 31, 2), 0)) (.branch 32 (.leaf (31, (.iconst 1, 32, 0), 0)) (.leaf (32, (.ireturn, 33, 0), 0))))))
set_option maxRecDepth 100000 in
/-- DeckBench$Figures.hasTwoSides(LDeckBench$Net;)Z -/
def mt_23 : Lean.RArray mLf :=
  .branch 12 (.branch 4 (.branch 2 (.branch 1 (.leaf (0, (.iconst 0, 1, 0), 0)) (.leaf (1, (.istore_n 1, 2, 0), 0))) (.branch 3 (.leaf (2, (.iload_n 1, 3, 0), 0)) (.leaf (3, (.aload_n 0, 4, 0), 0)))) (.branch 10 (.branch 7 (.leaf (4, (.invokevirtual 71, 7, 60), 1000)) (.leaf (7, (.if_icmp .gt 19, 10, 26), 0))) (.branch 11 (.leaf (10, (.aload_n 0, 11, 0), 0)) (.leaf (11, (.iload_n 1, 12, 0), 0))))) (.branch 20 (.branch 18 (.branch 15 (.leaf (12, (.invokestatic 74, 15, 24), 1001)) (.leaf (15, (.ifCond .eq 5, 18, 20), 0))) (.branch 19 (.leaf (18, (.iconst 1, 19, 0), 0)) (.leaf (19, (.ireturn, 20, 0), 0)))) (.branch 26 (.branch 23 (.leaf (20, (.iinc 1 1, 23, 0), 0)) (.leaf (23, (.goto (-21), 26, 2), 0))) (.branch 27 (.leaf (26, (.iconst 0, 27, 0), 0)) (.leaf (27, (.ireturn, 28, 0), 0)))))
set_option maxRecDepth 100000 in
/-- DeckBench$Figures.isSide(LDeckBench$Net;I)Z -/
def mt_24 : Lean.RArray mLf :=
  .branch 23 (.branch 11 (.branch 3 (.branch 1 (.leaf (0, (.iconst 0, 1, 0), 0)) (.branch 2 (.leaf (1, (.istore_n 2, 2, 0), 0)) (.leaf (2, (.iload_n 2, 3, 0), 0)))) (.branch 7 (.branch 4 (.leaf (3, (.aload_n 0, 4, 0), 0)) (.leaf (4, (.getfield 36, 7, 600), 174))) (.branch 10 (.leaf (7, (.if_icmp .ge 38, 10, 45), 0)) (.leaf (10, (.iload_n 1, 11, 0), 0))))) (.branch 15 (.branch 13 (.branch 12 (.leaf (11, (.iload_n 2, 12, 0), 0)) (.leaf (12, (.ishr, 13, 0), 0))) (.branch 14 (.leaf (13, (.iconst 1, 14, 0), 0)) (.leaf (14, (.iand, 15, 0), 0)))) (.branch 19 (.branch 18 (.leaf (15, (.ifCond .eq 7, 18, 22), 0)) (.leaf (18, (.iload_n 1, 19, 0), 0))) (.branch 22 (.leaf (19, (.goto 6, 22, 25), 0)) (.leaf (22, (.iload_n 1, 23, 0), 0)))))) (.branch 33 (.branch 27 (.branch 25 (.branch 24 (.leaf (23, (.iconst (-1), 24, 0), 0)) (.leaf (24, (.ixor, 25, 0), 0))) (.branch 26 (.leaf (25, (.istore_n 3, 26, 0), 0)) (.leaf (26, (.aload_n 0, 27, 0), 0)))) (.branch 31 (.branch 30 (.leaf (27, (.getfield 78, 30, 601), 182)) (.leaf (30, (.iload_n 2, 31, 0), 0))) (.branch 32 (.leaf (31, (.iaload, 32, 0), 0)) (.leaf (32, (.iload_n 3, 33, 0), 0))))) (.branch 39 (.branch 37 (.branch 34 (.leaf (33, (.iand, 34, 0), 0)) (.leaf (34, (.ifCond .eq 5, 37, 39), 0))) (.branch 38 (.leaf (37, (.iconst 0, 38, 0), 0)) (.leaf (38, (.ireturn, 39, 0), 0)))) (.branch 45 (.branch 42 (.leaf (39, (.iinc 2 1, 42, 0), 0)) (.leaf (42, (.goto (-40), 45, 2), 0))) (.branch 46 (.leaf (45, (.iconst 1, 46, 0), 0)) (.leaf (46, (.ireturn, 47, 0), 0))))))
set_option maxRecDepth 100000 in
def mt_25_0 : Lean.RArray mLf :=
  .branch 18 (.branch 10 (.branch 5 (.branch 1 (.leaf (0, (.aload_n 1, 1, 0), 0)) (.branch 4 (.leaf (1, (.getfield 36, 4, 600), 174)) (.leaf (4, (.iconst 3, 5, 0), 0)))) (.branch 8 (.leaf (5, (.if_icmp .ge 5, 8, 10), 0)) (.branch 9 (.leaf (8, (.iconst 0, 9, 0), 0)) (.leaf (9, (.ireturn, 10, 0), 0))))) (.branch 15 (.branch 11 (.leaf (10, (.aload_n 1, 11, 0), 0)) (.branch 14 (.leaf (11, (.invokevirtual 71, 14, 60), 1000)) (.leaf (14, (.istore_n 2, 15, 0), 0)))) (.branch 16 (.leaf (15, (.iconst 0, 16, 0), 0)) (.branch 17 (.leaf (16, (.istore_n 3, 17, 0), 0)) (.leaf (17, (.iload_n 3, 18, 0), 0)))))) (.branch 28 (.branch 23 (.branch 19 (.leaf (18, (.iload_n 2, 19, 0), 0)) (.branch 22 (.leaf (19, (.if_icmp .gt 16, 22, 35), 0)) (.leaf (22, (.aload_n 0, 23, 0), 0)))) (.branch 26 (.leaf (23, (.getfield 18, 26, 202), 193)) (.branch 27 (.leaf (26, (.iload_n 3, 27, 0), 0)) (.leaf (27, (.iconst 0, 28, 0), 0))))) (.branch 35 (.branch 29 (.leaf (28, (.iastore, 29, 0), 0)) (.branch 32 (.leaf (29, (.iinc 3 1, 32, 0), 0)) (.leaf (32, (.goto (-15), 35, 17), 0)))) (.branch 39 (.branch 36 (.leaf (35, (.aload_n 0, 36, 0), 0)) (.leaf (36, (.getfield 18, 39, 202), 193))) (.branch 40 (.leaf (39, (.iconst 1, 40, 0), 0)) (.leaf (40, (.iconst 1, 41, 0), 0))))))
set_option maxRecDepth 100000 in
def mt_25_1 : Lean.RArray mLf :=
  .branch 62 (.branch 49 (.branch 44 (.branch 42 (.leaf (41, (.iastore, 42, 0), 0)) (.branch 43 (.leaf (42, (.iconst 1, 43, 0), 0)) (.leaf (43, (.istore_n 3, 44, 0), 0)))) (.branch 45 (.leaf (44, (.iload_n 3, 45, 0), 0)) (.branch 46 (.leaf (45, (.iload_n 2, 46, 0), 0)) (.leaf (46, (.if_icmp .ge 15, 49, 61), 0))))) (.branch 52 (.branch 50 (.leaf (49, (.aload_n 0, 50, 0), 0)) (.branch 51 (.leaf (50, (.aload_n 1, 51, 0), 0)) (.leaf (51, (.iload_n 3, 52, 0), 0)))) (.branch 58 (.branch 55 (.leaf (52, (.invokevirtual 81, 55, 26), 1008)) (.leaf (55, (.iinc 3 2, 58, 0), 0))) (.branch 61 (.leaf (58, (.goto (-14), 61, 44), 0)) (.leaf (61, (.aload_n 0, 62, 0), 0)))))) (.branch 72 (.branch 67 (.branch 65 (.leaf (62, (.getfield 18, 65, 202), 193)) (.branch 66 (.leaf (65, (.iload_n 2, 66, 0), 0)) (.leaf (66, (.iaload, 67, 0), 0)))) (.branch 68 (.leaf (67, (.aload_n 1, 68, 0), 0)) (.branch 71 (.leaf (68, (.getfield 78, 71, 601), 182)) (.leaf (71, (.iconst 0, 72, 0), 0))))) (.branch 77 (.branch 73 (.leaf (72, (.iaload, 73, 0), 0)) (.branch 74 (.leaf (73, (.iand, 74, 0), 0)) (.leaf (74, (.ifCond .eq 7, 77, 81), 0)))) (.branch 81 (.branch 78 (.leaf (77, (.iconst 1, 78, 0), 0)) (.leaf (78, (.goto 4, 81, 82), 0))) (.branch 82 (.leaf (81, (.iconst 0, 82, 0), 0)) (.leaf (82, (.ireturn, 83, 0), 0))))))
/-- DeckBench$Figures.hasRing(LDeckBench$Net;)Z -/
def mt_25 : Lean.RArray mLf :=
  .branch 41 (mt_25_0) (mt_25_1)
set_option maxRecDepth 100000 in
def mt_26_0 : Lean.RArray mLf :=
  .branch 20 (.branch 11 (.branch 3 (.branch 1 (.leaf (0, (.iconst 0, 1, 0), 0)) (.branch 2 (.leaf (1, (.istore_n 3, 2, 0), 0)) (.leaf (2, (.iload_n 3, 3, 0), 0)))) (.branch 7 (.branch 4 (.leaf (3, (.aload_n 1, 4, 0), 0)) (.leaf (4, (.getfield 36, 7, 600), 174))) (.branch 10 (.leaf (7, (.if_icmp .ge 84, 10, 91), 0)) (.leaf (10, (.aload_n 0, 11, 0), 0))))) (.branch 16 (.branch 14 (.leaf (11, (.getfield 18, 14, 202), 193)) (.branch 15 (.leaf (14, (.iload_n 2, 15, 0), 0)) (.leaf (15, (.iaload, 16, 0), 0)))) (.branch 18 (.branch 17 (.leaf (16, (.iload_n 3, 17, 0), 0)) (.leaf (17, (.ishr, 18, 0), 0))) (.branch 19 (.leaf (18, (.iconst 1, 19, 0), 0)) (.leaf (19, (.iand, 20, 0), 0)))))) (.branch 31 (.branch 27 (.branch 23 (.leaf (20, (.ifCond .eq 16, 23, 36), 0)) (.branch 24 (.leaf (23, (.aload_n 1, 24, 0), 0)) (.leaf (24, (.getfield 78, 27, 601), 182)))) (.branch 29 (.branch 28 (.leaf (27, (.iload_n 3, 28, 0), 0)) (.leaf (28, (.iaload, 29, 0), 0))) (.branch 30 (.leaf (29, (.iload_n 2, 30, 0), 0)) (.leaf (30, (.iconst (-1), 31, 0), 0))))) (.branch 36 (.branch 32 (.leaf (31, (.ixor, 32, 0), 0)) (.branch 33 (.leaf (32, (.iand, 33, 0), 0)) (.leaf (33, (.goto 4, 36, 37), 0)))) (.branch 39 (.branch 37 (.leaf (36, (.iconst 0, 37, 0), 0)) (.leaf (37, (.istore 4, 39, 0), 0))) (.branch 40 (.leaf (39, (.iconst 0, 40, 0), 0)) (.leaf (40, (.istore 5, 42, 0), 0))))))
set_option maxRecDepth 100000 in
def mt_26_1 : Lean.RArray mLf :=
  .branch 67 (.branch 56 (.branch 48 (.branch 44 (.leaf (42, (.iload 5, 44, 0), 0)) (.branch 45 (.leaf (44, (.aload_n 1, 45, 0), 0)) (.leaf (45, (.getfield 36, 48, 600), 174)))) (.branch 53 (.branch 51 (.leaf (48, (.if_icmp .ge 37, 51, 85), 0)) (.leaf (51, (.iload 4, 53, 0), 0))) (.branch 55 (.leaf (53, (.iload 5, 55, 0), 0)) (.leaf (55, (.ishr, 56, 0), 0))))) (.branch 61 (.branch 57 (.leaf (56, (.iconst 1, 57, 0), 0)) (.branch 58 (.leaf (57, (.iand, 58, 0), 0)) (.leaf (58, (.ifCond .eq 21, 61, 79), 0)))) (.branch 65 (.branch 62 (.leaf (61, (.aload_n 0, 62, 0), 0)) (.leaf (62, (.getfield 18, 65, 202), 193))) (.branch 66 (.leaf (65, (.iload_n 2, 66, 0), 0)) (.leaf (66, (.iconst 1, 67, 0), 0)))))) (.branch 76 (.branch 71 (.branch 69 (.leaf (67, (.iload 5, 69, 0), 0)) (.branch 70 (.leaf (69, (.ishl, 70, 0), 0)) (.leaf (70, (.ior, 71, 0), 0)))) (.branch 73 (.branch 72 (.leaf (71, (.dup2, 72, 0), 0)) (.leaf (72, (.iaload, 73, 0), 0))) (.branch 74 (.leaf (73, (.iconst 1, 74, 0), 0)) (.leaf (74, (.iload 5, 76, 0), 0))))) (.branch 82 (.branch 78 (.branch 77 (.leaf (76, (.ishl, 77, 0), 0)) (.leaf (77, (.ior, 78, 0), 0))) (.branch 79 (.leaf (78, (.iastore, 79, 0), 0)) (.leaf (79, (.iinc 5 1, 82, 0), 0)))) (.branch 88 (.branch 85 (.leaf (82, (.goto (-40), 85, 42), 0)) (.leaf (85, (.iinc 3 1, 88, 0), 0))) (.branch 91 (.leaf (88, (.goto (-86), 91, 2), 0)) (.leaf (91, (.return_, 92, 0), 0))))))
/-- DeckBench$Figures.lengthenRows(LDeckBench$Net;I)V -/
def mt_26 : Lean.RArray mLf :=
  .branch 42 (mt_26_0) (mt_26_1)
set_option maxRecDepth 100000 in
def mt_27_0 : Lean.RArray mLf :=
  .branch 20 (.branch 11 (.branch 5 (.branch 1 (.leaf (0, (.aload_n 1, 1, 0), 0)) (.branch 4 (.leaf (1, (.invokevirtual 40, 4, 72), 991)) (.leaf (4, (.iconst 1, 5, 0), 0)))) (.branch 9 (.branch 8 (.leaf (5, (.if_icmp .eq 5, 8, 10), 0)) (.leaf (8, (.iconst 0, 9, 0), 0))) (.branch 10 (.leaf (9, (.ireturn, 10, 0), 0)) (.leaf (10, (.aload_n 1, 11, 0), 0))))) (.branch 16 (.branch 14 (.leaf (11, (.getfield 36, 14, 600), 174)) (.branch 15 (.leaf (14, (.iconst 1, 15, 0), 0)) (.leaf (15, (.isub, 16, 0), 0)))) (.branch 18 (.branch 17 (.leaf (16, (.istore_n 2, 17, 0), 0)) (.leaf (17, (.iconst 0, 18, 0), 0))) (.branch 19 (.leaf (18, (.istore_n 3, 19, 0), 0)) (.leaf (19, (.iload_n 3, 20, 0), 0)))))) (.branch 33 (.branch 25 (.branch 21 (.leaf (20, (.iload_n 2, 21, 0), 0)) (.branch 24 (.leaf (21, (.if_icmp .ge 68, 24, 89), 0)) (.leaf (24, (.iconst 0, 25, 0), 0)))) (.branch 29 (.branch 27 (.leaf (25, (.istore 4, 27, 0), 0)) (.leaf (27, (.iload 4, 29, 0), 0))) (.branch 30 (.leaf (29, (.iload_n 2, 30, 0), 0)) (.leaf (30, (.if_icmp .ge 53, 33, 83), 0))))) (.branch 40 (.branch 37 (.branch 34 (.leaf (33, (.aload_n 0, 34, 0), 0)) (.leaf (34, (.getfield 28, 37, 205), 196))) (.branch 38 (.leaf (37, (.iload_n 3, 38, 0), 0)) (.leaf (38, (.bipush 7, 40, 0), 0)))) (.branch 43 (.branch 41 (.leaf (40, (.imul, 41, 0), 0)) (.leaf (41, (.iload 4, 43, 0), 0))) (.branch 44 (.leaf (43, (.iadd, 44, 0), 0)) (.leaf (44, (.iload_n 3, 45, 0), 0))))))
set_option maxRecDepth 100000 in
def mt_27_1 : Lean.RArray mLf :=
  .branch 75 (.branch 59 (.branch 51 (.branch 47 (.leaf (45, (.iload 4, 47, 0), 0)) (.branch 50 (.leaf (47, (.if_icmp .ne 12, 50, 59), 0)) (.leaf (50, (.aload_n 1, 51, 0), 0)))) (.branch 55 (.branch 52 (.leaf (51, (.iload_n 3, 52, 0), 0)) (.leaf (52, (.invokevirtual 67, 55, 62), 995))) (.branch 56 (.leaf (55, (.i2l, 56, 0), 0)) (.leaf (56, (.goto 20, 59, 76), 0))))) (.branch 63 (.branch 60 (.leaf (59, (.aload_n 1, 60, 0), 0)) (.branch 61 (.leaf (60, (.iload_n 3, 61, 0), 0)) (.leaf (61, (.iload 4, 63, 0), 0)))) (.branch 69 (.branch 66 (.leaf (63, (.invokevirtual 85, 66, 64), 1022)) (.leaf (66, (.ifCond .eq 9, 69, 75), 0))) (.branch 72 (.leaf (69, (.ldc2_w 89, 72, 18446744073709551615), 1023)) (.leaf (72, (.goto 4, 75, 76), 0)))))) (.branch 90 (.branch 80 (.branch 76 (.leaf (75, (.lconst 0, 76, 0), 0)) (.branch 77 (.leaf (76, (.lastore, 77, 0), 0)) (.leaf (77, (.iinc 4 1, 80, 0), 0)))) (.branch 86 (.branch 83 (.leaf (80, (.goto (-53), 83, 27), 0)) (.leaf (83, (.iinc 3 1, 86, 0), 0))) (.branch 89 (.leaf (86, (.goto (-67), 89, 19), 0)) (.leaf (89, (.lconst 1, 90, 0), 0))))) (.branch 96 (.branch 92 (.branch 91 (.leaf (90, (.lstore_n 3, 91, 0), 0)) (.leaf (91, (.iconst 0, 92, 0), 0))) (.branch 94 (.leaf (92, (.istore 5, 94, 0), 0)) (.leaf (94, (.iload 5, 96, 0), 0)))) (.branch 100 (.branch 97 (.leaf (96, (.iload_n 2, 97, 0), 0)) (.leaf (97, (.if_icmp .ge 50, 100, 147), 0))) (.branch 101 (.leaf (100, (.aload_n 0, 101, 0), 0)) (.leaf (101, (.getfield 28, 104, 205), 196))))))
set_option maxRecDepth 100000 in
def mt_27_2 : Lean.RArray mLf :=
  .branch 125 (.branch 115 (.branch 109 (.branch 106 (.leaf (104, (.iload 5, 106, 0), 0)) (.branch 108 (.leaf (106, (.bipush 7, 108, 0), 0)) (.leaf (108, (.imul, 109, 0), 0)))) (.branch 112 (.branch 111 (.leaf (109, (.iload 5, 111, 0), 0)) (.leaf (111, (.iadd, 112, 0), 0))) (.branch 113 (.leaf (112, (.laload, 113, 0), 0)) (.leaf (113, (.lstore 6, 115, 0), 0))))) (.branch 119 (.branch 117 (.leaf (115, (.lload 6, 117, 0), 0)) (.branch 118 (.leaf (117, (.lconst 0, 118, 0), 0)) (.leaf (118, (.lcmp, 119, 0), 0)))) (.branch 123 (.branch 122 (.leaf (119, (.ifCond .eq 9, 122, 128), 0)) (.leaf (122, (.lload_n 3, 123, 0), 0))) (.branch 124 (.leaf (123, (.lconst 0, 124, 0), 0)) (.leaf (124, (.lcmp, 125, 0), 0)))))) (.branch 135 (.branch 130 (.branch 128 (.leaf (125, (.ifCond .ne 5, 128, 130), 0)) (.branch 129 (.leaf (128, (.iconst 0, 129, 0), 0)) (.leaf (129, (.ireturn, 130, 0), 0)))) (.branch 133 (.branch 131 (.leaf (130, (.aload_n 0, 131, 0), 0)) (.leaf (131, (.iload 5, 133, 0), 0))) (.branch 134 (.leaf (133, (.iload_n 2, 134, 0), 0)) (.leaf (134, (.lload_n 3, 135, 0), 0))))) (.branch 144 (.branch 140 (.branch 138 (.leaf (135, (.invokevirtual 91, 138, 28), 1024)) (.leaf (138, (.lload 6, 140, 0), 0))) (.branch 141 (.leaf (140, (.lstore_n 3, 141, 0), 0)) (.leaf (141, (.iinc 5 1, 144, 0), 0)))) (.branch 148 (.branch 147 (.leaf (144, (.goto (-50), 147, 94), 0)) (.leaf (147, (.lload_n 3, 148, 0), 0))) (.branch 149 (.leaf (148, (.l2i, 149, 0), 0)) (.leaf (149, (.ireturn, 150, 0), 0))))))
/-- DeckBench$Figures.treeCount(LDeckBench$Net;)I -/
def mt_27 : Lean.RArray mLf :=
  .branch 45 (mt_27_0) (.branch 104 (mt_27_1) (mt_27_2))
set_option maxRecDepth 100000 in
def mt_28_0 : Lean.RArray mLf :=
  .branch 23 (.branch 12 (.branch 6 (.branch 2 (.branch 1 (.leaf (0, (.lload_n 3, 1, 0), 0)) (.leaf (1, (.lconst 0, 2, 0), 0))) (.branch 3 (.leaf (2, (.lcmp, 3, 0), 0)) (.leaf (3, (.ifCond .ne 4, 6, 7), 0)))) (.branch 8 (.branch 7 (.leaf (6, (.return_, 7, 0), 0)) (.leaf (7, (.aload_n 0, 8, 0), 0))) (.branch 11 (.leaf (8, (.getfield 28, 11, 205), 196)) (.leaf (11, (.iload_n 1, 12, 0), 0))))) (.branch 17 (.branch 15 (.branch 14 (.leaf (12, (.bipush 7, 14, 0), 0)) (.leaf (14, (.imul, 15, 0), 0))) (.branch 16 (.leaf (15, (.iload_n 1, 16, 0), 0)) (.leaf (16, (.iadd, 17, 0), 0)))) (.branch 20 (.branch 18 (.leaf (17, (.laload, 18, 0), 0)) (.leaf (18, (.lstore 5, 20, 0), 0))) (.branch 21 (.leaf (20, (.iload_n 1, 21, 0), 0)) (.branch 22 (.leaf (21, (.iconst 1, 22, 0), 0)) (.leaf (22, (.iadd, 23, 0), 0))))))) (.branch 40 (.branch 31 (.branch 27 (.branch 25 (.leaf (23, (.istore 7, 25, 0), 0)) (.leaf (25, (.iload 7, 27, 0), 0))) (.branch 28 (.leaf (27, (.iload_n 2, 28, 0), 0)) (.leaf (28, (.if_icmp .ge 85, 31, 113), 0)))) (.branch 35 (.branch 32 (.leaf (31, (.aload_n 0, 32, 0), 0)) (.leaf (32, (.getfield 28, 35, 205), 196))) (.branch 37 (.leaf (35, (.iload 7, 37, 0), 0)) (.branch 39 (.leaf (37, (.bipush 7, 39, 0), 0)) (.leaf (39, (.imul, 40, 0), 0)))))) (.branch 45 (.branch 42 (.branch 41 (.leaf (40, (.iload_n 1, 41, 0), 0)) (.leaf (41, (.iadd, 42, 0), 0))) (.branch 43 (.leaf (42, (.laload, 43, 0), 0)) (.leaf (43, (.lstore 8, 45, 0), 0)))) (.branch 47 (.branch 46 (.leaf (45, (.iload_n 1, 46, 0), 0)) (.leaf (46, (.iconst 1, 47, 0), 0))) (.branch 48 (.leaf (47, (.iadd, 48, 0), 0)) (.branch 50 (.leaf (48, (.istore 10, 50, 0), 0)) (.leaf (50, (.iload 10, 52, 0), 0)))))))
set_option maxRecDepth 100000 in
def mt_28_1 : Lean.RArray mLf :=
  .branch 84 (.branch 67 (.branch 60 (.branch 56 (.branch 53 (.leaf (52, (.iload_n 2, 53, 0), 0)) (.leaf (53, (.if_icmp .ge 54, 56, 107), 0))) (.branch 58 (.leaf (56, (.iload 7, 58, 0), 0)) (.leaf (58, (.bipush 7, 60, 0), 0)))) (.branch 63 (.branch 61 (.leaf (60, (.imul, 61, 0), 0)) (.leaf (61, (.iload 10, 63, 0), 0))) (.branch 64 (.leaf (63, (.iadd, 64, 0), 0)) (.branch 66 (.leaf (64, (.istore 11, 66, 0), 0)) (.leaf (66, (.aload_n 0, 67, 0), 0)))))) (.branch 76 (.branch 72 (.branch 70 (.leaf (67, (.getfield 28, 70, 205), 196)) (.leaf (70, (.iload 11, 72, 0), 0))) (.branch 73 (.leaf (72, (.aload_n 0, 73, 0), 0)) (.leaf (73, (.getfield 28, 76, 205), 196)))) (.branch 79 (.branch 78 (.leaf (76, (.iload 11, 78, 0), 0)) (.leaf (78, (.laload, 79, 0), 0))) (.branch 81 (.leaf (79, (.lload 5, 81, 0), 0)) (.branch 82 (.leaf (81, (.lmul, 82, 0), 0)) (.leaf (82, (.lload 8, 84, 0), 0))))))) (.branch 97 (.branch 91 (.branch 88 (.branch 85 (.leaf (84, (.aload_n 0, 85, 0), 0)) (.leaf (85, (.getfield 28, 88, 205), 196))) (.branch 89 (.leaf (88, (.iload_n 1, 89, 0), 0)) (.leaf (89, (.bipush 7, 91, 0), 0)))) (.branch 94 (.branch 92 (.leaf (91, (.imul, 92, 0), 0)) (.leaf (92, (.iload 10, 94, 0), 0))) (.branch 95 (.leaf (94, (.iadd, 95, 0), 0)) (.branch 96 (.leaf (95, (.laload, 96, 0), 0)) (.leaf (96, (.lmul, 97, 0), 0)))))) (.branch 101 (.branch 99 (.branch 98 (.leaf (97, (.lsub, 98, 0), 0)) (.leaf (98, (.lload_n 3, 99, 0), 0))) (.branch 100 (.leaf (99, (.ldiv, 100, 0), 0)) (.leaf (100, (.lastore, 101, 0), 0)))) (.branch 107 (.branch 104 (.leaf (101, (.iinc 10 1, 104, 0), 0)) (.leaf (104, (.goto (-54), 107, 50), 0))) (.branch 110 (.leaf (107, (.iinc 7 1, 110, 0), 0)) (.branch 113 (.leaf (110, (.goto (-85), 113, 25), 0)) (.leaf (113, (.return_, 114, 0), 0)))))))
/-- DeckBench$Figures.clearColumn(IIJ)V -/
def mt_28 : Lean.RArray mLf :=
  .branch 52 (mt_28_0) (mt_28_1)
set_option maxRecDepth 100000 in
/-- DeckBench$Figures.coefficient(LDeckBench$Net;I)I -/
def mt_29 : Lean.RArray mLf :=
  .branch 35 (.branch 16 (.branch 5 (.branch 2 (.branch 1 (.leaf (0, (.iconst 1, 1, 0), 0)) (.leaf (1, (.istore_n 3, 2, 0), 0))) (.branch 3 (.leaf (2, (.iconst 0, 3, 0), 0)) (.leaf (3, (.istore 4, 5, 0), 0)))) (.branch 9 (.branch 7 (.leaf (5, (.iload 4, 7, 0), 0)) (.leaf (7, (.bipush 49, 9, 0), 0))) (.branch 12 (.leaf (9, (.if_icmp .ge 17, 12, 26), 0)) (.branch 13 (.leaf (12, (.aload_n 0, 13, 0), 0)) (.leaf (13, (.getfield 25, 16, 204), 195)))))) (.branch 26 (.branch 19 (.branch 18 (.leaf (16, (.iload 4, 18, 0), 0)) (.leaf (18, (.iconst 0, 19, 0), 0))) (.branch 20 (.leaf (19, (.iastore, 20, 0), 0)) (.branch 23 (.leaf (20, (.iinc 4 1, 23, 0), 0)) (.leaf (23, (.goto (-18), 26, 5), 0))))) (.branch 29 (.branch 27 (.leaf (26, (.iconst 1, 27, 0), 0)) (.leaf (27, (.istore 4, 29, 0), 0))) (.branch 31 (.leaf (29, (.iload 4, 31, 0), 0)) (.branch 32 (.leaf (31, (.iload_n 2, 32, 0), 0)) (.leaf (32, (.if_icmp .gt 36, 35, 68), 0))))))) (.branch 51 (.branch 44 (.branch 37 (.branch 36 (.leaf (35, (.aload_n 0, 36, 0), 0)) (.leaf (36, (.aload_n 1, 37, 0), 0))) (.branch 40 (.leaf (37, (.getfield 36, 40, 600), 174)) (.branch 41 (.leaf (40, (.iload_n 3, 41, 0), 0)) (.leaf (41, (.invokevirtual 95, 44, 30), 1036))))) (.branch 46 (.branch 45 (.leaf (44, (.aload_n 0, 45, 0), 0)) (.leaf (45, (.aload_n 1, 46, 0), 0))) (.branch 49 (.leaf (46, (.invokevirtual 99, 49, 31), 1041)) (.branch 50 (.leaf (49, (.aload_n 0, 50, 0), 0)) (.leaf (50, (.aload_n 1, 51, 0), 0)))))) (.branch 61 (.branch 57 (.branch 54 (.leaf (51, (.getfield 36, 54, 600), 174)) (.leaf (54, (.invokevirtual 102, 57, 32), 1045))) (.branch 58 (.leaf (57, (.ineg, 58, 0), 0)) (.branch 60 (.leaf (58, (.iload 4, 60, 0), 0)) (.leaf (60, (.idiv, 61, 0), 0))))) (.branch 65 (.branch 62 (.leaf (61, (.istore_n 3, 62, 0), 0)) (.leaf (62, (.iinc 4 1, 65, 0), 0))) (.branch 68 (.leaf (65, (.goto (-36), 68, 29), 0)) (.branch 69 (.leaf (68, (.iload_n 3, 69, 0), 0)) (.leaf (69, (.ireturn, 70, 0), 0)))))))
set_option maxRecDepth 100000 in
/-- DeckBench$Figures.copyWithDiagonal(II)V -/
def mt_30 : Lean.RArray mLf :=
  .branch 23 (.branch 12 (.branch 5 (.branch 1 (.leaf (0, (.aload_n 0, 1, 0), 0)) (.branch 4 (.leaf (1, (.getfield 25, 4, 204), 195)) (.leaf (4, (.iconst 0, 5, 0), 0)))) (.branch 9 (.branch 6 (.leaf (5, (.aload_n 0, 6, 0), 0)) (.leaf (6, (.getfield 22, 9, 203), 194))) (.branch 10 (.leaf (9, (.iconst 0, 10, 0), 0)) (.leaf (10, (.bipush 49, 12, 0), 0))))) (.branch 17 (.branch 15 (.leaf (12, (.invokestatic 105, 15, 901), 1040)) (.branch 16 (.leaf (15, (.iconst 0, 16, 0), 0)) (.leaf (16, (.istore_n 3, 17, 0), 0)))) (.branch 19 (.branch 18 (.leaf (17, (.iload_n 3, 18, 0), 0)) (.leaf (18, (.iload_n 1, 19, 0), 0))) (.branch 22 (.leaf (19, (.if_icmp .ge 24, 22, 43), 0)) (.leaf (22, (.aload_n 0, 23, 0), 0)))))) (.branch 33 (.branch 29 (.branch 26 (.leaf (23, (.getfield 22, 26, 203), 194)) (.branch 27 (.leaf (26, (.iload_n 3, 27, 0), 0)) (.leaf (27, (.bipush 7, 29, 0), 0)))) (.branch 31 (.branch 30 (.leaf (29, (.imul, 30, 0), 0)) (.leaf (30, (.iload_n 3, 31, 0), 0))) (.branch 32 (.leaf (31, (.iadd, 32, 0), 0)) (.leaf (32, (.dup2, 33, 0), 0))))) (.branch 36 (.branch 34 (.leaf (33, (.iaload, 34, 0), 0)) (.branch 35 (.leaf (34, (.iload_n 2, 35, 0), 0)) (.leaf (35, (.iadd, 36, 0), 0)))) (.branch 40 (.branch 37 (.leaf (36, (.iastore, 37, 0), 0)) (.leaf (37, (.iinc 3 1, 40, 0), 0))) (.branch 43 (.leaf (40, (.goto (-23), 43, 17), 0)) (.leaf (43, (.return_, 44, 0), 0))))))
set_option maxRecDepth 100000 in
def mt_31_0 : Lean.RArray mLf :=
  .branch 23 (.branch 11 (.branch 3 (.branch 1 (.leaf (0, (.iconst 0, 1, 0), 0)) (.branch 2 (.leaf (1, (.istore_n 2, 2, 0), 0)) (.leaf (2, (.iload_n 2, 3, 0), 0)))) (.branch 7 (.branch 4 (.leaf (3, (.aload_n 1, 4, 0), 0)) (.leaf (4, (.getfield 36, 7, 600), 174))) (.branch 10 (.leaf (7, (.if_icmp .ge 94, 10, 101), 0)) (.leaf (10, (.iconst 0, 11, 0), 0))))) (.branch 14 (.branch 12 (.leaf (11, (.istore_n 3, 12, 0), 0)) (.branch 13 (.leaf (12, (.iload_n 3, 13, 0), 0)) (.leaf (13, (.aload_n 1, 14, 0), 0)))) (.branch 20 (.branch 17 (.leaf (14, (.getfield 36, 17, 600), 174)) (.leaf (17, (.if_icmp .ge 78, 20, 95), 0))) (.branch 21 (.leaf (20, (.iconst 0, 21, 0), 0)) (.leaf (21, (.istore 4, 23, 0), 0)))))) (.branch 37 (.branch 28 (.branch 24 (.leaf (23, (.iconst 0, 24, 0), 0)) (.branch 26 (.leaf (24, (.istore 5, 26, 0), 0)) (.leaf (26, (.iload 5, 28, 0), 0)))) (.branch 32 (.branch 29 (.leaf (28, (.aload_n 1, 29, 0), 0)) (.leaf (29, (.getfield 36, 32, 600), 174))) (.branch 35 (.leaf (32, (.if_icmp .ge 44, 35, 76), 0)) (.leaf (35, (.iload 4, 37, 0), 0))))) (.branch 43 (.branch 41 (.branch 38 (.leaf (37, (.aload_n 1, 38, 0), 0)) (.leaf (38, (.getfield 78, 41, 601), 182))) (.branch 42 (.leaf (41, (.iload_n 2, 42, 0), 0)) (.leaf (42, (.iaload, 43, 0), 0)))) (.branch 46 (.branch 45 (.leaf (43, (.iload 5, 45, 0), 0)) (.leaf (45, (.ishr, 46, 0), 0))) (.branch 47 (.leaf (46, (.iconst 1, 47, 0), 0)) (.leaf (47, (.iand, 48, 0), 0))))))
set_option maxRecDepth 100000 in
def mt_31_1 : Lean.RArray mLf :=
  .branch 73 (.branch 61 (.branch 55 (.branch 51 (.leaf (48, (.ifCond .eq 18, 51, 66), 0)) (.branch 52 (.leaf (51, (.aload_n 0, 52, 0), 0)) (.leaf (52, (.getfield 22, 55, 203), 194)))) (.branch 59 (.branch 57 (.leaf (55, (.iload 5, 57, 0), 0)) (.leaf (57, (.bipush 7, 59, 0), 0))) (.branch 60 (.leaf (59, (.imul, 60, 0), 0)) (.leaf (60, (.iload_n 3, 61, 0), 0))))) (.branch 66 (.branch 62 (.leaf (61, (.iadd, 62, 0), 0)) (.branch 63 (.leaf (62, (.iaload, 63, 0), 0)) (.leaf (63, (.goto 4, 66, 67), 0)))) (.branch 68 (.branch 67 (.leaf (66, (.iconst 0, 67, 0), 0)) (.leaf (67, (.iadd, 68, 0), 0))) (.branch 70 (.leaf (68, (.istore 4, 70, 0), 0)) (.leaf (70, (.iinc 5 1, 73, 0), 0)))))) (.branch 85 (.branch 80 (.branch 76 (.leaf (73, (.goto (-47), 76, 26), 0)) (.branch 77 (.leaf (76, (.aload_n 0, 77, 0), 0)) (.leaf (77, (.getfield 25, 80, 204), 195)))) (.branch 83 (.branch 81 (.leaf (80, (.iload_n 2, 81, 0), 0)) (.leaf (81, (.bipush 7, 83, 0), 0))) (.branch 84 (.leaf (83, (.imul, 84, 0), 0)) (.leaf (84, (.iload_n 3, 85, 0), 0))))) (.branch 92 (.branch 88 (.branch 86 (.leaf (85, (.iadd, 86, 0), 0)) (.leaf (86, (.iload 4, 88, 0), 0))) (.branch 89 (.leaf (88, (.iastore, 89, 0), 0)) (.leaf (89, (.iinc 3 1, 92, 0), 0)))) (.branch 98 (.branch 95 (.leaf (92, (.goto (-80), 95, 12), 0)) (.leaf (95, (.iinc 2 1, 98, 0), 0))) (.branch 101 (.leaf (98, (.goto (-96), 101, 2), 0)) (.leaf (101, (.return_, 102, 0), 0))))))
/-- DeckBench$Figures.multiply(LDeckBench$Net;)V -/
def mt_31 : Lean.RArray mLf :=
  .branch 48 (mt_31_0) (mt_31_1)
set_option maxRecDepth 100000 in
/-- DeckBench$Figures.trace(I)I -/
def mt_32 : Lean.RArray mLf :=
  .branch 15 (.branch 5 (.branch 2 (.branch 1 (.leaf (0, (.iconst 0, 1, 0), 0)) (.leaf (1, (.istore_n 2, 2, 0), 0))) (.branch 3 (.leaf (2, (.iconst 0, 3, 0), 0)) (.branch 4 (.leaf (3, (.istore_n 3, 4, 0), 0)) (.leaf (4, (.iload_n 3, 5, 0), 0))))) (.branch 10 (.branch 6 (.leaf (5, (.iload_n 1, 6, 0), 0)) (.branch 9 (.leaf (6, (.if_icmp .ge 23, 9, 29), 0)) (.leaf (9, (.iload_n 2, 10, 0), 0)))) (.branch 11 (.leaf (10, (.aload_n 0, 11, 0), 0)) (.branch 14 (.leaf (11, (.getfield 25, 14, 204), 195)) (.leaf (14, (.iload_n 3, 15, 0), 0)))))) (.branch 21 (.branch 18 (.branch 17 (.leaf (15, (.bipush 7, 17, 0), 0)) (.leaf (17, (.imul, 18, 0), 0))) (.branch 19 (.leaf (18, (.iload_n 3, 19, 0), 0)) (.branch 20 (.leaf (19, (.iadd, 20, 0), 0)) (.leaf (20, (.iaload, 21, 0), 0))))) (.branch 26 (.branch 22 (.leaf (21, (.iadd, 22, 0), 0)) (.branch 23 (.leaf (22, (.istore_n 2, 23, 0), 0)) (.leaf (23, (.iinc 3 1, 26, 0), 0)))) (.branch 29 (.leaf (26, (.goto (-22), 29, 4), 0)) (.branch 30 (.leaf (29, (.iload_n 2, 30, 0), 0)) (.leaf (30, (.ireturn, 31, 0), 0))))))
set_option maxRecDepth 100000 in
/-- DeckBench$FormSearch.<init>()V -/
def mt_33 : Lean.RArray mLf :=
  .branch 17 (.branch 7 (.branch 4 (.branch 1 (.leaf (0, (.aload_n 0, 1, 0), 0)) (.leaf (1, (.invokespecial 5, 4, 900), 133))) (.branch 5 (.leaf (4, (.aload_n 0, 5, 0), 0)) (.leaf (5, (.bipush 49, 7, 0), 0)))) (.branch 12 (.branch 9 (.leaf (7, (.newarray .int, 9, 0), 0)) (.leaf (9, (.putfield 11, 12, 300), 134))) (.branch 13 (.leaf (12, (.aload_n 0, 13, 0), 0)) (.branch 15 (.leaf (13, (.bipush 7, 15, 0), 0)) (.leaf (15, (.newarray .int, 17, 0), 0)))))) (.branch 25 (.branch 21 (.branch 20 (.leaf (17, (.putfield 17, 20, 301), 135)) (.leaf (20, (.aload_n 0, 21, 0), 0))) (.branch 23 (.leaf (21, (.bipush 7, 23, 0), 0)) (.leaf (23, (.newarray .int, 25, 0), 0)))) (.branch 29 (.branch 28 (.leaf (25, (.putfield 20, 28, 302), 136)) (.leaf (28, (.aload_n 0, 29, 0), 0))) (.branch 30 (.leaf (29, (.iconst 0, 30, 0), 0)) (.branch 33 (.leaf (30, (.putfield 23, 33, 303), 137)) (.leaf (33, (.return_, 34, 0), 0))))))
set_option maxRecDepth 100000 in
/-- DeckBench$FormSearch.formOf(LDeckBench$Net;)I -/
def mt_34 : Lean.RArray mLf :=
  .branch 26 (.branch 14 (.branch 8 (.branch 4 (.branch 1 (.leaf (0, (.aload_n 1, 1, 0), 0)) (.leaf (1, (.getfield 27, 4, 600), 173))) (.branch 5 (.leaf (4, (.iconst 2, 5, 0), 0)) (.leaf (5, (.if_icmp .ge 5, 8, 10), 0)))) (.branch 10 (.branch 9 (.leaf (8, (.iconst 0, 9, 0), 0)) (.leaf (9, (.ireturn, 10, 0), 0))) (.branch 11 (.leaf (10, (.aload_n 1, 11, 0), 0)) (.leaf (11, (.getfield 27, 14, 600), 173))))) (.branch 18 (.branch 16 (.branch 15 (.leaf (14, (.iconst 1, 15, 0), 0)) (.leaf (15, (.isub, 16, 0), 0))) (.branch 17 (.leaf (16, (.istore_n 2, 17, 0), 0)) (.leaf (17, (.aload_n 0, 18, 0), 0)))) (.branch 22 (.branch 21 (.leaf (18, (.getfield 11, 21, 300), 134)) (.leaf (21, (.iload_n 2, 22, 0), 0))) (.branch 24 (.leaf (22, (.bipush 7, 24, 0), 0)) (.branch 25 (.leaf (24, (.imul, 25, 0), 0)) (.leaf (25, (.aload_n 1, 26, 0), 0))))))) (.branch 40 (.branch 34 (.branch 30 (.branch 29 (.leaf (26, (.invokevirtual 32, 29, 60), 598)) (.leaf (29, (.iastore, 30, 0), 0))) (.branch 31 (.leaf (30, (.aload_n 0, 31, 0), 0)) (.leaf (31, (.getfield 17, 34, 301), 135)))) (.branch 36 (.branch 35 (.leaf (34, (.iload_n 2, 35, 0), 0)) (.leaf (35, (.iconst 1, 36, 0), 0))) (.branch 37 (.leaf (36, (.iastore, 37, 0), 0)) (.branch 38 (.leaf (37, (.aload_n 0, 38, 0), 0)) (.leaf (38, (.ldc 36, 40, 2147483647), 602)))))) (.branch 46 (.branch 44 (.branch 43 (.leaf (40, (.putfield 23, 43, 303), 137)) (.leaf (43, (.aload_n 0, 44, 0), 0))) (.branch 45 (.leaf (44, (.aload_n 1, 45, 0), 0)) (.leaf (45, (.iload_n 2, 46, 0), 0)))) (.branch 50 (.branch 47 (.leaf (46, (.iconst 0, 47, 0), 0)) (.leaf (47, (.invokestatic 37, 50, 36), 603))) (.branch 51 (.leaf (50, (.aload_n 0, 51, 0), 0)) (.branch 54 (.leaf (51, (.getfield 23, 54, 303), 137)) (.leaf (54, (.ireturn, 55, 0), 0)))))))
set_option maxRecDepth 100000 in
/-- DeckBench$FormSearch.areAlike(LDeckBench$Net;LDeckBench$Net;)Z -/
def mt_35 : Lean.RArray mLf :=
  .branch 22 (.branch 11 (.branch 4 (.branch 1 (.leaf (0, (.aload_n 1, 1, 0), 0)) (.leaf (1, (.getfield 27, 4, 600), 173))) (.branch 5 (.leaf (4, (.aload_n 2, 5, 0), 0)) (.branch 8 (.leaf (5, (.getfield 27, 8, 600), 173)) (.leaf (8, (.if_icmp .ne 31, 11, 39), 0))))) (.branch 15 (.branch 12 (.leaf (11, (.aload_n 1, 12, 0), 0)) (.leaf (12, (.invokevirtual 41, 15, 63), 880))) (.branch 16 (.leaf (15, (.aload_n 2, 16, 0), 0)) (.branch 19 (.leaf (16, (.invokevirtual 41, 19, 63), 880)) (.leaf (19, (.if_icmp .ne 20, 22, 39), 0)))))) (.branch 29 (.branch 24 (.branch 23 (.leaf (22, (.aload_n 0, 23, 0), 0)) (.leaf (23, (.aload_n 1, 24, 0), 0))) (.branch 27 (.leaf (24, (.invokevirtual 44, 27, 34), 881)) (.branch 28 (.leaf (27, (.aload_n 0, 28, 0), 0)) (.leaf (28, (.aload_n 2, 29, 0), 0))))) (.branch 36 (.branch 32 (.leaf (29, (.invokevirtual 44, 32, 34), 881)) (.branch 35 (.leaf (32, (.if_icmp .ne 7, 35, 39), 0)) (.leaf (35, (.iconst 1, 36, 0), 0)))) (.branch 39 (.leaf (36, (.goto 4, 39, 40), 0)) (.branch 40 (.leaf (39, (.iconst 0, 40, 0), 0)) (.leaf (40, (.ireturn, 41, 0), 0))))))
set_option maxRecDepth 100000 in
def mt_36_0 : Lean.RArray mLf :=
  .branch 35 (.branch 16 (.branch 7 (.branch 4 (.branch 1 (.leaf (0, (.iload_n 2, 1, 0), 0)) (.leaf (1, (.ifCond .le 9, 4, 10), 0))) (.branch 5 (.leaf (4, (.iload_n 2, 5, 0), 0)) (.leaf (5, (.bipush 7, 7, 0), 0)))) (.branch 11 (.branch 10 (.leaf (7, (.if_icmp .lt 16, 10, 23), 0)) (.leaf (10, (.aload_n 0, 11, 0), 0))) (.branch 12 (.leaf (11, (.aload_n 0, 12, 0), 0)) (.branch 15 (.leaf (12, (.getfield 23, 15, 303), 137)) (.leaf (15, (.iload_n 3, 16, 0), 0)))))) (.branch 25 (.branch 22 (.branch 19 (.leaf (16, (.invokestatic 48, 19, 903), 606)) (.leaf (19, (.putfield 23, 22, 303), 137))) (.branch 23 (.leaf (22, (.return_, 23, 0), 0)) (.branch 24 (.leaf (23, (.aload_n 0, 24, 0), 0)) (.leaf (24, (.aload_n 1, 25, 0), 0))))) (.branch 29 (.branch 26 (.leaf (25, (.iload_n 2, 26, 0), 0)) (.leaf (26, (.invokevirtual 54, 29, 37), 607))) (.branch 31 (.leaf (29, (.istore 4, 31, 0), 0)) (.branch 32 (.leaf (31, (.iload_n 2, 32, 0), 0)) (.leaf (32, (.invokestatic 58, 35, 58), 617))))))) (.branch 50 (.branch 43 (.branch 38 (.branch 37 (.leaf (35, (.istore 5, 37, 0), 0)) (.leaf (37, (.iload_n 3, 38, 0), 0))) (.branch 39 (.leaf (38, (.aload_n 0, 39, 0), 0)) (.branch 42 (.leaf (39, (.getfield 20, 42, 302), 136)) (.leaf (42, (.iload_n 2, 43, 0), 0))))) (.branch 46 (.branch 44 (.leaf (43, (.iaload, 44, 0), 0)) (.leaf (44, (.iload 5, 46, 0), 0))) (.branch 47 (.leaf (46, (.ishl, 47, 0), 0)) (.branch 48 (.leaf (47, (.ior, 48, 0), 0)) (.leaf (48, (.istore 6, 50, 0), 0)))))) (.branch 59 (.branch 54 (.branch 52 (.leaf (50, (.iload 6, 52, 0), 0)) (.leaf (52, (.iload 5, 54, 0), 0))) (.branch 55 (.leaf (54, (.ishr, 55, 0), 0)) (.branch 56 (.leaf (55, (.aload_n 0, 56, 0), 0)) (.leaf (56, (.getfield 23, 59, 303), 137))))) (.branch 62 (.branch 61 (.leaf (59, (.iload 5, 61, 0), 0)) (.leaf (61, (.ishr, 62, 0), 0))) (.branch 65 (.leaf (62, (.if_icmp .le 4, 65, 66), 0)) (.branch 66 (.leaf (65, (.return_, 66, 0), 0)) (.leaf (66, (.iconst 0, 67, 0), 0)))))))
set_option maxRecDepth 100000 in
def mt_36_1 : Lean.RArray mLf :=
  .branch 104 (.branch 85 (.branch 74 (.branch 70 (.branch 69 (.leaf (67, (.istore 7, 69, 0), 0)) (.leaf (69, (.iconst 0, 70, 0), 0))) (.branch 72 (.leaf (70, (.istore 8, 72, 0), 0)) (.leaf (72, (.iload 8, 74, 0), 0)))) (.branch 78 (.branch 75 (.leaf (74, (.aload_n 1, 75, 0), 0)) (.leaf (75, (.getfield 27, 78, 600), 173))) (.branch 81 (.leaf (78, (.if_icmp .ge 57, 81, 135), 0)) (.branch 83 (.leaf (81, (.iload 4, 83, 0), 0)) (.leaf (83, (.iload 8, 85, 0), 0)))))) (.branch 92 (.branch 87 (.branch 86 (.leaf (85, (.ishr, 86, 0), 0)) (.leaf (86, (.iconst 1, 87, 0), 0))) (.branch 88 (.leaf (87, (.iand, 88, 0), 0)) (.branch 91 (.leaf (88, (.ifCond .eq 41, 91, 129), 0)) (.leaf (91, (.aload_n 1, 92, 0), 0))))) (.branch 96 (.branch 94 (.leaf (92, (.iload 8, 94, 0), 0)) (.leaf (94, (.iload 7, 96, 0), 0))) (.branch 99 (.leaf (96, (.invokestatic 62, 99, 38), 618)) (.branch 102 (.leaf (99, (.ifCond .ne 30, 102, 129), 0)) (.leaf (102, (.iload 7, 104, 0), 0))))))) (.branch 119 (.branch 111 (.branch 107 (.branch 105 (.leaf (104, (.iconst 1, 105, 0), 0)) (.leaf (105, (.iload 8, 107, 0), 0))) (.branch 108 (.leaf (107, (.ishl, 108, 0), 0)) (.branch 109 (.leaf (108, (.ior, 109, 0), 0)) (.leaf (109, (.istore 7, 111, 0), 0))))) (.branch 113 (.branch 112 (.leaf (111, (.aload_n 0, 112, 0), 0)) (.leaf (112, (.aload_n 1, 113, 0), 0))) (.branch 114 (.leaf (113, (.iload_n 2, 114, 0), 0)) (.branch 116 (.leaf (114, (.iload 8, 116, 0), 0)) (.leaf (116, (.invokevirtual 66, 119, 39), 621)))))) (.branch 124 (.branch 121 (.branch 120 (.leaf (119, (.aload_n 0, 120, 0), 0)) (.leaf (120, (.aload_n 1, 121, 0), 0))) (.branch 122 (.leaf (121, (.iload_n 2, 122, 0), 0)) (.branch 123 (.leaf (122, (.iconst 1, 123, 0), 0)) (.leaf (123, (.isub, 124, 0), 0))))) (.branch 129 (.branch 126 (.leaf (124, (.iload 6, 126, 0), 0)) (.leaf (126, (.invokestatic 37, 129, 36), 603))) (.branch 132 (.leaf (129, (.iinc 8 1, 132, 0), 0)) (.branch 135 (.leaf (132, (.goto (-60), 135, 72), 0)) (.leaf (135, (.return_, 136, 0), 0)))))))
/-- DeckBench$FormSearch.fillPlace(LDeckBench$FormSearch;LDeckBench$Net;II)V -/
def mt_36 : Lean.RArray mLf :=
  .branch 67 (mt_36_0) (mt_36_1)
set_option maxRecDepth 100000 in
def mt_37_0 : Lean.RArray mLf :=
  .branch 27 (.branch 13 (.branch 6 (.branch 4 (.branch 1 (.leaf (0, (.aload_n 0, 1, 0), 0)) (.leaf (1, (.getfield 17, 4, 301), 135))) (.branch 5 (.leaf (4, (.iload_n 2, 5, 0), 0)) (.leaf (5, (.iaload, 6, 0), 0)))) (.branch 8 (.branch 7 (.leaf (6, (.istore_n 3, 7, 0), 0)) (.leaf (7, (.iload_n 2, 8, 0), 0))) (.branch 10 (.leaf (8, (.bipush 7, 10, 0), 0)) (.branch 11 (.leaf (10, (.imul, 11, 0), 0)) (.leaf (11, (.istore 4, 13, 0), 0)))))) (.branch 21 (.branch 17 (.branch 14 (.leaf (13, (.iload_n 3, 14, 0), 0)) (.leaf (14, (.ifCond .le 17, 17, 31), 0))) (.branch 18 (.leaf (17, (.aload_n 0, 18, 0), 0)) (.leaf (18, (.getfield 11, 21, 300), 134)))) (.branch 24 (.branch 23 (.leaf (21, (.iload 4, 23, 0), 0)) (.leaf (23, (.iload_n 3, 24, 0), 0))) (.branch 25 (.leaf (24, (.iadd, 25, 0), 0)) (.branch 26 (.leaf (25, (.iconst 1, 26, 0), 0)) (.leaf (26, (.isub, 27, 0), 0))))))) (.branch 42 (.branch 34 (.branch 31 (.branch 28 (.leaf (27, (.iaload, 28, 0), 0)) (.leaf (28, (.goto 4, 31, 32), 0))) (.branch 32 (.leaf (31, (.iconst 0, 32, 0), 0)) (.leaf (32, (.istore 5, 34, 0), 0)))) (.branch 37 (.branch 35 (.leaf (34, (.iconst 0, 35, 0), 0)) (.leaf (35, (.istore 6, 37, 0), 0))) (.branch 38 (.leaf (37, (.aload_n 0, 38, 0), 0)) (.branch 41 (.leaf (38, (.getfield 20, 41, 302), 136)) (.leaf (41, (.iload_n 2, 42, 0), 0)))))) (.branch 50 (.branch 45 (.branch 44 (.leaf (42, (.ldc 36, 44, 2147483647), 602)) (.leaf (44, (.iastore, 45, 0), 0))) (.branch 46 (.leaf (45, (.iconst 0, 46, 0), 0)) (.branch 48 (.leaf (46, (.istore 7, 48, 0), 0)) (.leaf (48, (.iload 7, 50, 0), 0))))) (.branch 54 (.branch 51 (.leaf (50, (.aload_n 1, 51, 0), 0)) (.leaf (51, (.getfield 27, 54, 600), 173))) (.branch 57 (.leaf (54, (.if_icmp .ge 133, 57, 187), 0)) (.branch 58 (.leaf (57, (.iconst 0, 58, 0), 0)) (.leaf (58, (.istore 8, 60, 0), 0)))))))
set_option maxRecDepth 100000 in
def mt_37_1 : Lean.RArray mLf :=
  .branch 90 (.branch 76 (.branch 66 (.branch 63 (.branch 61 (.leaf (60, (.iconst 0, 61, 0), 0)) (.leaf (61, (.istore 9, 63, 0), 0))) (.branch 64 (.leaf (63, (.iconst 0, 64, 0), 0)) (.leaf (64, (.istore 10, 66, 0), 0)))) (.branch 69 (.branch 68 (.leaf (66, (.iload 10, 68, 0), 0)) (.leaf (68, (.iload_n 3, 69, 0), 0))) (.branch 72 (.leaf (69, (.if_icmp .ge 56, 72, 125), 0)) (.branch 73 (.leaf (72, (.aload_n 0, 73, 0), 0)) (.leaf (73, (.getfield 11, 76, 300), 134)))))) (.branch 82 (.branch 80 (.branch 78 (.leaf (76, (.iload 4, 78, 0), 0)) (.leaf (78, (.iload 10, 80, 0), 0))) (.branch 81 (.leaf (80, (.iadd, 81, 0), 0)) (.leaf (81, (.iaload, 82, 0), 0)))) (.branch 86 (.branch 84 (.leaf (82, (.istore 11, 84, 0), 0)) (.leaf (84, (.iload 8, 86, 0), 0))) (.branch 87 (.leaf (86, (.iconst 1, 87, 0), 0)) (.branch 89 (.leaf (87, (.iload 11, 89, 0), 0)) (.leaf (89, (.aload_n 1, 90, 0), 0))))))) (.branch 105 (.branch 97 (.branch 95 (.branch 93 (.leaf (90, (.getfield 70, 93, 601), 183)) (.leaf (93, (.iload 7, 95, 0), 0))) (.branch 96 (.leaf (95, (.iaload, 96, 0), 0)) (.leaf (96, (.iand, 97, 0), 0)))) (.branch 101 (.branch 100 (.leaf (97, (.invokestatic 73, 100, 255), 611)) (.leaf (100, (.ishl, 101, 0), 0))) (.branch 102 (.leaf (101, (.iconst 1, 102, 0), 0)) (.branch 103 (.leaf (102, (.isub, 103, 0), 0)) (.leaf (103, (.iload 9, 105, 0), 0)))))) (.branch 113 (.branch 107 (.branch 106 (.leaf (105, (.ishl, 106, 0), 0)) (.leaf (106, (.ior, 107, 0), 0))) (.branch 109 (.leaf (107, (.istore 8, 109, 0), 0)) (.branch 111 (.leaf (109, (.iload 9, 111, 0), 0)) (.leaf (111, (.iload 11, 113, 0), 0))))) (.branch 117 (.branch 116 (.leaf (113, (.invokestatic 73, 116, 255), 611)) (.leaf (116, (.iadd, 117, 0), 0))) (.branch 119 (.leaf (117, (.istore 9, 119, 0), 0)) (.branch 122 (.leaf (119, (.iinc 10 1, 122, 0), 0)) (.leaf (122, (.goto (-56), 125, 66), 0)))))))
set_option maxRecDepth 100000 in
def mt_37_2 : Lean.RArray mLf :=
  .branch 157 (.branch 141 (.branch 131 (.branch 129 (.branch 127 (.leaf (125, (.iload 5, 127, 0), 0)) (.leaf (127, (.iload 7, 129, 0), 0))) (.branch 130 (.leaf (129, (.ishr, 130, 0), 0)) (.leaf (130, (.iconst 1, 131, 0), 0)))) (.branch 135 (.branch 132 (.leaf (131, (.iand, 132, 0), 0)) (.leaf (132, (.ifCond .eq 49, 135, 181), 0))) (.branch 137 (.leaf (135, (.iload 8, 137, 0), 0)) (.branch 138 (.leaf (137, (.aload_n 0, 138, 0), 0)) (.leaf (138, (.getfield 20, 141, 302), 136)))))) (.branch 148 (.branch 143 (.branch 142 (.leaf (141, (.iload_n 2, 142, 0), 0)) (.leaf (142, (.iaload, 143, 0), 0))) (.branch 146 (.leaf (143, (.if_icmp .gt 38, 146, 181), 0)) (.leaf (146, (.iload 8, 148, 0), 0)))) (.branch 152 (.branch 149 (.leaf (148, (.aload_n 0, 149, 0), 0)) (.leaf (149, (.getfield 20, 152, 302), 136))) (.branch 153 (.leaf (152, (.iload_n 2, 153, 0), 0)) (.branch 154 (.leaf (153, (.iaload, 154, 0), 0)) (.leaf (154, (.if_icmp .ge 10, 157, 164), 0))))))) (.branch 171 (.branch 164 (.branch 160 (.branch 158 (.leaf (157, (.iconst 1, 158, 0), 0)) (.leaf (158, (.iload 7, 160, 0), 0))) (.branch 161 (.leaf (160, (.ishl, 161, 0), 0)) (.leaf (161, (.goto 10, 164, 171), 0)))) (.branch 167 (.branch 166 (.leaf (164, (.iload 6, 166, 0), 0)) (.leaf (166, (.iconst 1, 167, 0), 0))) (.branch 169 (.leaf (167, (.iload 7, 169, 0), 0)) (.branch 170 (.leaf (169, (.ishl, 170, 0), 0)) (.leaf (170, (.ior, 171, 0), 0)))))) (.branch 180 (.branch 174 (.branch 173 (.leaf (171, (.istore 6, 173, 0), 0)) (.leaf (173, (.aload_n 0, 174, 0), 0))) (.branch 177 (.leaf (174, (.getfield 20, 177, 302), 136)) (.branch 178 (.leaf (177, (.iload_n 2, 178, 0), 0)) (.leaf (178, (.iload 8, 180, 0), 0))))) (.branch 184 (.branch 181 (.leaf (180, (.iastore, 181, 0), 0)) (.leaf (181, (.iinc 7 1, 184, 0), 0))) (.branch 187 (.leaf (184, (.goto (-136), 187, 48), 0)) (.branch 189 (.leaf (187, (.iload 6, 189, 0), 0)) (.leaf (189, (.ireturn, 190, 0), 0)))))))
/-- DeckBench$FormSearch.nodesOfLeastRow(LDeckBench$Net;I)I -/
def mt_37 : Lean.RArray mLf :=
  .branch 60 (mt_37_0) (.branch 125 (mt_37_1) (mt_37_2))
set_option maxRecDepth 100000 in
def mt_38_0 : Lean.RArray mLf :=
  .branch 14 (.branch 7 (.branch 2 (.branch 1 (.leaf (0, (.iconst 0, 1, 0), 0)) (.leaf (1, (.istore_n 3, 2, 0), 0))) (.branch 3 (.leaf (2, (.iload_n 3, 3, 0), 0)) (.branch 4 (.leaf (3, (.aload_n 0, 4, 0), 0)) (.leaf (4, (.getfield 27, 7, 600), 173))))) (.branch 11 (.branch 10 (.leaf (7, (.if_icmp .ge 53, 10, 60), 0)) (.leaf (10, (.iconst 1, 11, 0), 0))) (.branch 12 (.leaf (11, (.iload_n 1, 12, 0), 0)) (.branch 13 (.leaf (12, (.ishl, 13, 0), 0)) (.leaf (13, (.iconst 1, 14, 0), 0)))))) (.branch 20 (.branch 16 (.branch 15 (.leaf (14, (.iload_n 3, 15, 0), 0)) (.leaf (15, (.ishl, 16, 0), 0))) (.branch 17 (.leaf (16, (.ior, 17, 0), 0)) (.branch 19 (.leaf (17, (.istore 4, 19, 0), 0)) (.leaf (19, (.iload_n 2, 20, 0), 0))))) (.branch 23 (.branch 21 (.leaf (20, (.iload_n 3, 21, 0), 0)) (.branch 22 (.leaf (21, (.ishr, 22, 0), 0)) (.leaf (22, (.iconst 1, 23, 0), 0)))) (.branch 24 (.leaf (23, (.iand, 24, 0), 0)) (.branch 27 (.leaf (24, (.ifCond .eq 30, 27, 54), 0)) (.leaf (27, (.aload_n 0, 28, 0), 0))))))
set_option maxRecDepth 100000 in
def mt_38_1 : Lean.RArray mLf :=
  .branch 44 (.branch 36 (.branch 32 (.branch 31 (.leaf (28, (.getfield 70, 31, 601), 183)) (.leaf (31, (.iload_n 1, 32, 0), 0))) (.branch 33 (.leaf (32, (.iaload, 33, 0), 0)) (.branch 35 (.leaf (33, (.iload 4, 35, 0), 0)) (.leaf (35, (.iconst (-1), 36, 0), 0))))) (.branch 39 (.branch 37 (.leaf (36, (.ixor, 37, 0), 0)) (.branch 38 (.leaf (37, (.iand, 38, 0), 0)) (.leaf (38, (.aload_n 0, 39, 0), 0)))) (.branch 42 (.leaf (39, (.getfield 70, 42, 601), 183)) (.branch 43 (.leaf (42, (.iload_n 3, 43, 0), 0)) (.leaf (43, (.iaload, 44, 0), 0)))))) (.branch 52 (.branch 47 (.branch 46 (.leaf (44, (.iload 4, 46, 0), 0)) (.leaf (46, (.iconst (-1), 47, 0), 0))) (.branch 48 (.leaf (47, (.ixor, 48, 0), 0)) (.branch 49 (.leaf (48, (.iand, 49, 0), 0)) (.leaf (49, (.if_icmp .ne 5, 52, 54), 0))))) (.branch 57 (.branch 53 (.leaf (52, (.iconst 1, 53, 0), 0)) (.branch 54 (.leaf (53, (.ireturn, 54, 0), 0)) (.leaf (54, (.iinc 3 1, 57, 0), 0)))) (.branch 60 (.leaf (57, (.goto (-55), 60, 2), 0)) (.branch 61 (.leaf (60, (.iconst 0, 61, 0), 0)) (.leaf (61, (.ireturn, 62, 0), 0))))))
/-- DeckBench$FormSearch.hasTwin(LDeckBench$Net;II)Z -/
def mt_38 : Lean.RArray mLf :=
  .branch 28 (mt_38_0) (mt_38_1)
set_option maxRecDepth 100000 in
def mt_39_0 : Lean.RArray mLf :=
  .branch 19 (.branch 9 (.branch 3 (.branch 1 (.leaf (0, (.iload_n 2, 1, 0), 0)) (.branch 2 (.leaf (1, (.iconst 1, 2, 0), 0)) (.leaf (2, (.isub, 3, 0), 0)))) (.branch 5 (.leaf (3, (.istore 4, 5, 0), 0)) (.branch 6 (.leaf (5, (.aload_n 0, 6, 0), 0)) (.leaf (6, (.getfield 17, 9, 301), 135))))) (.branch 13 (.branch 11 (.leaf (9, (.iload 4, 11, 0), 0)) (.branch 12 (.leaf (11, (.iconst 0, 12, 0), 0)) (.leaf (12, (.iastore, 13, 0), 0)))) (.branch 16 (.branch 14 (.leaf (13, (.iconst 0, 14, 0), 0)) (.leaf (14, (.istore 5, 16, 0), 0))) (.branch 18 (.leaf (16, (.iload 5, 18, 0), 0)) (.leaf (18, (.aload_n 0, 19, 0), 0)))))) (.branch 32 (.branch 24 (.branch 22 (.leaf (19, (.getfield 17, 22, 301), 135)) (.branch 23 (.leaf (22, (.iload_n 2, 23, 0), 0)) (.leaf (23, (.iaload, 24, 0), 0)))) (.branch 28 (.branch 27 (.leaf (24, (.if_icmp .ge 61, 27, 85), 0)) (.leaf (27, (.aload_n 0, 28, 0), 0))) (.branch 31 (.leaf (28, (.getfield 11, 31, 300), 134)) (.leaf (31, (.iload_n 2, 32, 0), 0))))) (.branch 37 (.branch 34 (.leaf (32, (.bipush 7, 34, 0), 0)) (.branch 35 (.leaf (34, (.imul, 35, 0), 0)) (.leaf (35, (.iload 5, 37, 0), 0)))) (.branch 39 (.branch 38 (.leaf (37, (.iadd, 38, 0), 0)) (.leaf (38, (.iaload, 39, 0), 0))) (.branch 40 (.leaf (39, (.iconst 1, 40, 0), 0)) (.leaf (40, (.iload_n 3, 41, 0), 0))))))
set_option maxRecDepth 100000 in
def mt_39_1 : Lean.RArray mLf :=
  .branch 62 (.branch 50 (.branch 44 (.branch 42 (.leaf (41, (.ishl, 42, 0), 0)) (.branch 43 (.leaf (42, (.iconst (-1), 43, 0), 0)) (.leaf (43, (.ixor, 44, 0), 0)))) (.branch 47 (.branch 45 (.leaf (44, (.iand, 45, 0), 0)) (.leaf (45, (.istore 6, 47, 0), 0))) (.branch 48 (.leaf (47, (.aload_n 0, 48, 0), 0)) (.leaf (48, (.iload 4, 50, 0), 0))))) (.branch 56 (.branch 52 (.leaf (50, (.iload 6, 52, 0), 0)) (.branch 53 (.leaf (52, (.aload_n 1, 53, 0), 0)) (.leaf (53, (.getfield 70, 56, 601), 183)))) (.branch 58 (.branch 57 (.leaf (56, (.iload_n 3, 57, 0), 0)) (.leaf (57, (.iaload, 58, 0), 0))) (.branch 59 (.leaf (58, (.iand, 59, 0), 0)) (.leaf (59, (.invokevirtual 76, 62, 40), 625)))))) (.branch 73 (.branch 67 (.branch 63 (.leaf (62, (.aload_n 0, 63, 0), 0)) (.branch 65 (.leaf (63, (.iload 4, 65, 0), 0)) (.leaf (65, (.iload 6, 67, 0), 0)))) (.branch 71 (.branch 68 (.leaf (67, (.aload_n 1, 68, 0), 0)) (.leaf (68, (.getfield 70, 71, 601), 183))) (.branch 72 (.leaf (71, (.iload_n 3, 72, 0), 0)) (.leaf (72, (.iaload, 73, 0), 0))))) (.branch 76 (.branch 74 (.leaf (73, (.iconst (-1), 74, 0), 0)) (.branch 75 (.leaf (74, (.ixor, 75, 0), 0)) (.leaf (75, (.iand, 76, 0), 0)))) (.branch 82 (.branch 79 (.leaf (76, (.invokevirtual 76, 79, 40), 625)) (.leaf (79, (.iinc 5 1, 82, 0), 0))) (.branch 85 (.leaf (82, (.goto (-66), 85, 16), 0)) (.leaf (85, (.return_, 86, 0), 0))))))
/-- DeckBench$FormSearch.splitCells(LDeckBench$Net;II)V -/
def mt_39 : Lean.RArray mLf :=
  .branch 41 (mt_39_0) (mt_39_1)
set_option maxRecDepth 100000 in
/-- DeckBench$FormSearch.addCell(II)V -/
def mt_40 : Lean.RArray mLf :=
  .branch 24 (.branch 12 (.branch 5 (.branch 1 (.leaf (0, (.iload_n 2, 1, 0), 0)) (.branch 4 (.leaf (1, (.ifCond .eq 41, 4, 42), 0)) (.leaf (4, (.aload_n 0, 5, 0), 0)))) (.branch 9 (.branch 8 (.leaf (5, (.getfield 17, 8, 301), 135)) (.leaf (8, (.iload_n 1, 9, 0), 0))) (.branch 10 (.leaf (9, (.iaload, 10, 0), 0)) (.leaf (10, (.bipush 7, 12, 0), 0))))) (.branch 19 (.branch 15 (.leaf (12, (.if_icmp .ge 30, 15, 42), 0)) (.branch 16 (.leaf (15, (.aload_n 0, 16, 0), 0)) (.leaf (16, (.getfield 11, 19, 300), 134)))) (.branch 22 (.branch 20 (.leaf (19, (.iload_n 1, 20, 0), 0)) (.leaf (20, (.bipush 7, 22, 0), 0))) (.branch 23 (.leaf (22, (.imul, 23, 0), 0)) (.leaf (23, (.aload_n 0, 24, 0), 0)))))) (.branch 33 (.branch 29 (.branch 27 (.leaf (24, (.getfield 17, 27, 301), 135)) (.branch 28 (.leaf (27, (.iload_n 1, 28, 0), 0)) (.leaf (28, (.iaload, 29, 0), 0)))) (.branch 31 (.branch 30 (.leaf (29, (.iadd, 30, 0), 0)) (.leaf (30, (.iload_n 2, 31, 0), 0))) (.branch 32 (.leaf (31, (.iastore, 32, 0), 0)) (.leaf (32, (.aload_n 0, 33, 0), 0))))) (.branch 39 (.branch 37 (.branch 36 (.leaf (33, (.getfield 17, 36, 301), 135)) (.leaf (36, (.iload_n 1, 37, 0), 0))) (.branch 38 (.leaf (37, (.dup2, 38, 0), 0)) (.leaf (38, (.iaload, 39, 0), 0)))) (.branch 41 (.branch 40 (.leaf (39, (.iconst 1, 40, 0), 0)) (.leaf (40, (.iadd, 41, 0), 0))) (.branch 42 (.leaf (41, (.iastore, 42, 0), 0)) (.leaf (42, (.return_, 43, 0), 0))))))
set_option maxRecDepth 100000 in
/-- DeckBench$History.<init>()V -/
def mt_41 : Lean.RArray mLf :=
  .branch 12 (.branch 5 (.branch 1 (.leaf (0, (.aload_n 0, 1, 0), 0)) (.branch 4 (.leaf (1, (.invokespecial 3, 4, 900), 114)) (.leaf (4, (.aload_n 0, 5, 0), 0)))) (.branch 7 (.leaf (5, (.bipush 100, 7, 0), 0)) (.branch 9 (.leaf (7, (.newarray .int, 9, 0), 0)) (.leaf (9, (.putfield 11, 12, 400), 115))))) (.branch 17 (.branch 13 (.leaf (12, (.aload_n 0, 13, 0), 0)) (.branch 14 (.leaf (13, (.iconst 0, 14, 0), 0)) (.leaf (14, (.putfield 15, 17, 401), 116)))) (.branch 19 (.branch 18 (.leaf (17, (.aload_n 0, 18, 0), 0)) (.leaf (18, (.iconst 0, 19, 0), 0))) (.branch 22 (.leaf (19, (.putfield 19, 22, 402), 117)) (.leaf (22, (.return_, 23, 0), 0)))))
set_option maxRecDepth 100000 in
/-- DeckBench$History.forget()V -/
def mt_42 : Lean.RArray mLf :=
  .branch 2 (.branch 1 (.leaf (0, (.aload_n 0, 1, 0), 0)) (.leaf (1, (.iconst 0, 2, 0), 0))) (.branch 5 (.leaf (2, (.putfield 19, 5, 402), 117)) (.leaf (5, (.return_, 6, 0), 0)))
set_option maxRecDepth 100000 in
/-- DeckBench$History.keepNet(ILDeckBench$Net;)V -/
def mt_43 : Lean.RArray mLf :=
  .branch 4 (.branch 2 (.branch 1 (.leaf (0, (.aload_n 0, 1, 0), 0)) (.leaf (1, (.iconst 0, 2, 0), 0))) (.branch 3 (.leaf (2, (.iload_n 1, 3, 0), 0)) (.leaf (3, (.aload_n 2, 4, 0), 0)))) (.branch 8 (.branch 7 (.leaf (4, (.getfield 22, 7, 600), 176)) (.leaf (7, (.aload_n 2, 8, 0), 0))) (.branch 11 (.leaf (8, (.getfield 25, 11, 601), 181)) (.branch 14 (.leaf (11, (.invokevirtual 28, 14, 45), 671)) (.leaf (14, (.return_, 15, 0), 0)))))
set_option maxRecDepth 100000 in
/-- DeckBench$History.keepDeck(ILDeckBench$Deck;)V -/
def mt_44 : Lean.RArray mLf :=
  .branch 4 (.branch 2 (.branch 1 (.leaf (0, (.aload_n 0, 1, 0), 0)) (.leaf (1, (.iconst 1, 2, 0), 0))) (.branch 3 (.leaf (2, (.iload_n 1, 3, 0), 0)) (.leaf (3, (.aload_n 2, 4, 0), 0)))) (.branch 8 (.branch 7 (.leaf (4, (.getfield 32, 7, 100), 295)) (.leaf (7, (.aload_n 2, 8, 0), 0))) (.branch 11 (.leaf (8, (.getfield 35, 11, 101), 302)) (.branch 14 (.leaf (11, (.invokevirtual 28, 14, 45), 671)) (.leaf (14, (.return_, 15, 0), 0)))))
set_option maxRecDepth 100000 in
def mt_45_0 : Lean.RArray mLf :=
  .branch 21 (.branch 10 (.branch 6 (.branch 1 (.leaf (0, (.aload_n 0, 1, 0), 0)) (.branch 4 (.leaf (1, (.getfield 15, 4, 401), 116)) (.leaf (4, (.bipush 10, 6, 0), 0)))) (.branch 7 (.leaf (6, (.imul, 7, 0), 0)) (.branch 9 (.leaf (7, (.istore 5, 9, 0), 0)) (.leaf (9, (.aload_n 0, 10, 0), 0))))) (.branch 16 (.branch 13 (.leaf (10, (.getfield 11, 13, 400), 115)) (.branch 15 (.leaf (13, (.iload 5, 15, 0), 0)) (.leaf (15, (.iload_n 1, 16, 0), 0)))) (.branch 17 (.leaf (16, (.iastore, 17, 0), 0)) (.branch 18 (.leaf (17, (.aload_n 0, 18, 0), 0)) (.leaf (18, (.getfield 11, 21, 400), 115)))))) (.branch 28 (.branch 25 (.branch 23 (.leaf (21, (.iload 5, 23, 0), 0)) (.branch 24 (.leaf (23, (.iconst 1, 24, 0), 0)) (.leaf (24, (.iadd, 25, 0), 0)))) (.branch 26 (.leaf (25, (.iload_n 2, 26, 0), 0)) (.branch 27 (.leaf (26, (.iastore, 27, 0), 0)) (.leaf (27, (.aload_n 0, 28, 0), 0))))) (.branch 34 (.branch 31 (.leaf (28, (.getfield 11, 31, 400), 115)) (.branch 33 (.leaf (31, (.iload 5, 33, 0), 0)) (.leaf (33, (.iconst 2, 34, 0), 0)))) (.branch 36 (.branch 35 (.leaf (34, (.iadd, 35, 0), 0)) (.leaf (35, (.iload_n 3, 36, 0), 0))) (.branch 37 (.leaf (36, (.iastore, 37, 0), 0)) (.leaf (37, (.aload 4, 39, 0), 0))))))
set_option maxRecDepth 100000 in
def mt_45_1 : Lean.RArray mLf :=
  .branch 59 (.branch 48 (.branch 44 (.branch 40 (.leaf (39, (.iconst 0, 40, 0), 0)) (.branch 41 (.leaf (40, (.aload_n 0, 41, 0), 0)) (.leaf (41, (.getfield 11, 44, 400), 115)))) (.branch 46 (.leaf (44, (.iload 5, 46, 0), 0)) (.branch 47 (.leaf (46, (.iconst 3, 47, 0), 0)) (.leaf (47, (.iadd, 48, 0), 0))))) (.branch 54 (.branch 50 (.leaf (48, (.bipush 7, 50, 0), 0)) (.branch 53 (.leaf (50, (.invokestatic 38, 53, 901), 675)) (.leaf (53, (.aload_n 0, 54, 0), 0)))) (.branch 55 (.leaf (54, (.aload_n 0, 55, 0), 0)) (.branch 58 (.leaf (55, (.getfield 15, 58, 401), 116)) (.leaf (58, (.iconst 1, 59, 0), 0)))))) (.branch 69 (.branch 63 (.branch 60 (.leaf (59, (.iadd, 60, 0), 0)) (.branch 62 (.leaf (60, (.bipush 10, 62, 0), 0)) (.leaf (62, (.irem, 63, 0), 0)))) (.branch 66 (.leaf (63, (.putfield 15, 66, 401), 116)) (.branch 67 (.leaf (66, (.aload_n 0, 67, 0), 0)) (.leaf (67, (.bipush 10, 69, 0), 0))))) (.branch 74 (.branch 70 (.leaf (69, (.aload_n 0, 70, 0), 0)) (.branch 73 (.leaf (70, (.getfield 19, 73, 402), 117)) (.leaf (73, (.iconst 1, 74, 0), 0)))) (.branch 78 (.branch 75 (.leaf (74, (.iadd, 75, 0), 0)) (.leaf (75, (.invokestatic 44, 78, 903), 676))) (.branch 81 (.leaf (78, (.putfield 19, 81, 402), 117)) (.leaf (81, (.return_, 82, 0), 0))))))
/-- DeckBench$History.keep(III[I)V -/
def mt_45 : Lean.RArray mLf :=
  .branch 39 (mt_45_0) (mt_45_1)
set_option maxRecDepth 100000 in
def mt_46_0 : Lean.RArray mLf :=
  .branch 27 (.branch 14 (.branch 8 (.branch 4 (.branch 1 (.leaf (0, (.aload_n 0, 1, 0), 0)) (.leaf (1, (.getfield 19, 4, 402), 117))) (.branch 7 (.leaf (4, (.ifCond .gt 4, 7, 8), 0)) (.leaf (7, (.return_, 8, 0), 0)))) (.branch 10 (.branch 9 (.leaf (8, (.aload_n 0, 9, 0), 0)) (.leaf (9, (.dup, 10, 0), 0))) (.branch 13 (.leaf (10, (.getfield 19, 13, 402), 117)) (.leaf (13, (.iconst 1, 14, 0), 0))))) (.branch 20 (.branch 18 (.branch 15 (.leaf (14, (.isub, 15, 0), 0)) (.leaf (15, (.putfield 19, 18, 402), 117))) (.branch 19 (.leaf (18, (.aload_n 0, 19, 0), 0)) (.leaf (19, (.aload_n 0, 20, 0), 0)))) (.branch 25 (.branch 23 (.leaf (20, (.getfield 15, 23, 401), 116)) (.leaf (23, (.bipush 10, 25, 0), 0))) (.branch 26 (.leaf (25, (.iadd, 26, 0), 0)) (.leaf (26, (.iconst 1, 27, 0), 0)))))) (.branch 41 (.branch 34 (.branch 30 (.branch 28 (.leaf (27, (.isub, 28, 0), 0)) (.leaf (28, (.bipush 10, 30, 0), 0))) (.branch 31 (.leaf (30, (.irem, 31, 0), 0)) (.leaf (31, (.putfield 15, 34, 401), 116)))) (.branch 38 (.branch 35 (.leaf (34, (.aload_n 0, 35, 0), 0)) (.leaf (35, (.getfield 15, 38, 401), 116))) (.branch 40 (.leaf (38, (.bipush 10, 40, 0), 0)) (.leaf (40, (.imul, 41, 0), 0))))) (.branch 47 (.branch 43 (.branch 42 (.leaf (41, (.istore_n 3, 42, 0), 0)) (.leaf (42, (.aload_n 0, 43, 0), 0))) (.branch 46 (.leaf (43, (.getfield 11, 46, 400), 115)) (.leaf (46, (.iload_n 3, 47, 0), 0)))) (.branch 49 (.branch 48 (.leaf (47, (.iconst 1, 48, 0), 0)) (.leaf (48, (.iadd, 49, 0), 0))) (.branch 50 (.leaf (49, (.iaload, 50, 0), 0)) (.branch 52 (.leaf (50, (.istore 4, 52, 0), 0)) (.leaf (52, (.aload_n 0, 53, 0), 0)))))))
set_option maxRecDepth 100000 in
def mt_46_1 : Lean.RArray mLf :=
  .branch 83 (.branch 69 (.branch 61 (.branch 57 (.branch 56 (.leaf (53, (.getfield 11, 56, 400), 115)) (.leaf (56, (.iload_n 3, 57, 0), 0))) (.branch 58 (.leaf (57, (.iaload, 58, 0), 0)) (.leaf (58, (.ifCond .ne 53, 61, 111), 0)))) (.branch 66 (.branch 63 (.leaf (61, (.iload 4, 63, 0), 0)) (.leaf (63, (.ifCond .lt 48, 66, 111), 0))) (.branch 68 (.leaf (66, (.iload 4, 68, 0), 0)) (.leaf (68, (.aload_n 1, 69, 0), 0))))) (.branch 76 (.branch 73 (.branch 70 (.leaf (69, (.arraylength, 70, 0), 0)) (.leaf (70, (.if_icmp .ge 41, 73, 111), 0))) (.branch 74 (.leaf (73, (.aload_n 1, 74, 0), 0)) (.leaf (74, (.iload 4, 76, 0), 0)))) (.branch 78 (.branch 77 (.leaf (76, (.aaload, 77, 0), 0)) (.leaf (77, (.aload_n 0, 78, 0), 0))) (.branch 81 (.leaf (78, (.getfield 11, 81, 400), 115)) (.branch 82 (.leaf (81, (.iload_n 3, 82, 0), 0)) (.leaf (82, (.iconst 2, 83, 0), 0))))))) (.branch 95 (.branch 89 (.branch 85 (.branch 84 (.leaf (83, (.iadd, 84, 0), 0)) (.leaf (84, (.iaload, 85, 0), 0))) (.branch 88 (.leaf (85, (.putfield 22, 88, 600), 176)) (.leaf (88, (.aload_n 0, 89, 0), 0)))) (.branch 93 (.branch 92 (.leaf (89, (.getfield 11, 92, 400), 115)) (.leaf (92, (.iload_n 3, 93, 0), 0))) (.branch 94 (.leaf (93, (.iconst 3, 94, 0), 0)) (.leaf (94, (.iadd, 95, 0), 0))))) (.branch 102 (.branch 98 (.branch 96 (.leaf (95, (.aload_n 1, 96, 0), 0)) (.leaf (96, (.iload 4, 98, 0), 0))) (.branch 99 (.leaf (98, (.aaload, 99, 0), 0)) (.leaf (99, (.getfield 25, 102, 601), 181)))) (.branch 105 (.branch 103 (.leaf (102, (.iconst 0, 103, 0), 0)) (.leaf (103, (.bipush 7, 105, 0), 0))) (.branch 108 (.leaf (105, (.invokestatic 38, 108, 901), 675)) (.branch 111 (.leaf (108, (.goto 60, 111, 168), 0)) (.leaf (111, (.aload_n 0, 112, 0), 0)))))))
set_option maxRecDepth 100000 in
def mt_46_2 : Lean.RArray mLf :=
  .branch 142 (.branch 128 (.branch 118 (.branch 116 (.branch 115 (.leaf (112, (.getfield 11, 115, 400), 115)) (.leaf (115, (.iload_n 3, 116, 0), 0))) (.branch 117 (.leaf (116, (.iaload, 117, 0), 0)) (.leaf (117, (.iconst 1, 118, 0), 0)))) (.branch 123 (.branch 121 (.leaf (118, (.if_icmp .ne 50, 121, 168), 0)) (.leaf (121, (.iload 4, 123, 0), 0))) (.branch 126 (.leaf (123, (.ifCond .lt 45, 126, 168), 0)) (.leaf (126, (.iload 4, 128, 0), 0))))) (.branch 134 (.branch 130 (.branch 129 (.leaf (128, (.aload_n 2, 129, 0), 0)) (.leaf (129, (.arraylength, 130, 0), 0))) (.branch 133 (.leaf (130, (.if_icmp .ge 38, 133, 168), 0)) (.leaf (133, (.aload_n 2, 134, 0), 0)))) (.branch 137 (.branch 136 (.leaf (134, (.iload 4, 136, 0), 0)) (.leaf (136, (.aaload, 137, 0), 0))) (.branch 138 (.leaf (137, (.aload_n 0, 138, 0), 0)) (.branch 141 (.leaf (138, (.getfield 11, 141, 400), 115)) (.leaf (141, (.iload_n 3, 142, 0), 0))))))) (.branch 154 (.branch 148 (.branch 144 (.branch 143 (.leaf (142, (.iconst 2, 143, 0), 0)) (.leaf (143, (.iadd, 144, 0), 0))) (.branch 145 (.leaf (144, (.iaload, 145, 0), 0)) (.leaf (145, (.putfield 32, 148, 100), 295)))) (.branch 152 (.branch 149 (.leaf (148, (.aload_n 0, 149, 0), 0)) (.leaf (149, (.getfield 11, 152, 400), 115))) (.branch 153 (.leaf (152, (.iload_n 3, 153, 0), 0)) (.leaf (153, (.iconst 3, 154, 0), 0))))) (.branch 159 (.branch 156 (.branch 155 (.leaf (154, (.iadd, 155, 0), 0)) (.leaf (155, (.aload_n 2, 156, 0), 0))) (.branch 158 (.leaf (156, (.iload 4, 158, 0), 0)) (.leaf (158, (.aaload, 159, 0), 0)))) (.branch 163 (.branch 162 (.leaf (159, (.getfield 35, 162, 101), 302)) (.leaf (162, (.iconst 0, 163, 0), 0))) (.branch 165 (.leaf (163, (.bipush 7, 165, 0), 0)) (.branch 168 (.leaf (165, (.invokestatic 38, 168, 901), 675)) (.leaf (168, (.return_, 169, 0), 0)))))))
/-- DeckBench$History.restoreLatest([LDeckBench$Net;[LDeckBench$Deck;)V -/
def mt_46 : Lean.RArray mLf :=
  .branch 53 (mt_46_0) (.branch 112 (mt_46_1) (mt_46_2))
set_option maxRecDepth 100000 in
/-- DeckBench$LineDeck.<init>()V -/
def mt_47 : Lean.RArray mLf :=
  .branch 9 (.branch 4 (.branch 1 (.leaf (0, (.aload_n 0, 1, 0), 0)) (.leaf (1, (.invokespecial 3, 4, 900), 224))) (.branch 5 (.leaf (4, (.aload_n 0, 5, 0), 0)) (.branch 6 (.leaf (5, (.iconst 0, 6, 0), 0)) (.leaf (6, (.putfield 9, 9, 500), 225))))) (.branch 12 (.branch 10 (.leaf (9, (.aload_n 0, 10, 0), 0)) (.leaf (10, (.bipush 21, 12, 0), 0))) (.branch 14 (.leaf (12, (.newarray .int, 14, 0), 0)) (.branch 17 (.leaf (14, (.putfield 15, 17, 501), 228)) (.leaf (17, (.return_, 18, 0), 0)))))
set_option maxRecDepth 100000 in
/-- DeckBench$LineDeck.clear()V -/
def mt_48 : Lean.RArray mLf :=
  .branch 2 (.branch 1 (.leaf (0, (.aload_n 0, 1, 0), 0)) (.leaf (1, (.iconst 0, 2, 0), 0))) (.branch 5 (.leaf (2, (.putfield 9, 5, 500), 225)) (.leaf (5, (.return_, 6, 0), 0)))
set_option maxRecDepth 100000 in
/-- DeckBench$LineDeck.add(I)V -/
def mt_49 : Lean.RArray mLf :=
  .branch 17 (.branch 9 (.branch 4 (.branch 1 (.leaf (0, (.aload_n 0, 1, 0), 0)) (.leaf (1, (.getfield 9, 4, 500), 225))) (.branch 6 (.leaf (4, (.bipush 21, 6, 0), 0)) (.leaf (6, (.if_icmp .ge 23, 9, 29), 0)))) (.branch 13 (.branch 10 (.leaf (9, (.aload_n 0, 10, 0), 0)) (.leaf (10, (.getfield 15, 13, 501), 228))) (.branch 14 (.leaf (13, (.aload_n 0, 14, 0), 0)) (.leaf (14, (.getfield 9, 17, 500), 225))))) (.branch 21 (.branch 19 (.branch 18 (.leaf (17, (.iload_n 1, 18, 0), 0)) (.leaf (18, (.iastore, 19, 0), 0))) (.branch 20 (.leaf (19, (.aload_n 0, 20, 0), 0)) (.leaf (20, (.dup, 21, 0), 0)))) (.branch 25 (.branch 24 (.leaf (21, (.getfield 9, 24, 500), 225)) (.leaf (24, (.iconst 1, 25, 0), 0))) (.branch 26 (.leaf (25, (.iadd, 26, 0), 0)) (.branch 29 (.leaf (26, (.putfield 9, 29, 500), 225)) (.leaf (29, (.return_, 30, 0), 0))))))
set_option maxRecDepth 100000 in
/-- DeckBench$LineDeck.sort()V -/
def mt_50 : Lean.RArray mLf :=
  .branch 5 (.branch 1 (.leaf (0, (.aload_n 0, 1, 0), 0)) (.branch 4 (.leaf (1, (.getfield 15, 4, 501), 228)) (.leaf (4, (.aload_n 0, 5, 0), 0)))) (.branch 8 (.leaf (5, (.getfield 9, 8, 500), 225)) (.branch 11 (.leaf (8, (.invokestatic 19, 11, 11), 960)) (.leaf (11, (.return_, 12, 0), 0))))
set_option maxRecDepth 100000 in
/-- DeckBench$LineDeck.unlikeForms()I -/
def mt_51 : Lean.RArray mLf :=
  .branch 5 (.branch 1 (.leaf (0, (.aload_n 0, 1, 0), 0)) (.branch 4 (.leaf (1, (.getfield 15, 4, 501), 228)) (.leaf (4, (.aload_n 0, 5, 0), 0)))) (.branch 8 (.leaf (5, (.getfield 9, 8, 500), 225)) (.branch 11 (.leaf (8, (.invokestatic 25, 11, 12), 979)) (.leaf (11, (.ireturn, 12, 0), 0))))
set_option maxRecDepth 100000 in
/-- DeckBench$LineDeck.copy(LDeckBench$LineDeck;)V -/
def mt_52 : Lean.RArray mLf :=
  .branch 12 (.branch 5 (.branch 1 (.leaf (0, (.aload_n 0, 1, 0), 0)) (.branch 2 (.leaf (1, (.aload_n 1, 2, 0), 0)) (.leaf (2, (.getfield 9, 5, 500), 225)))) (.branch 8 (.leaf (5, (.putfield 9, 8, 500), 225)) (.branch 9 (.leaf (8, (.aload_n 1, 9, 0), 0)) (.leaf (9, (.getfield 15, 12, 501), 228))))) (.branch 17 (.branch 13 (.leaf (12, (.iconst 0, 13, 0), 0)) (.branch 14 (.leaf (13, (.aload_n 0, 14, 0), 0)) (.leaf (14, (.getfield 15, 17, 501), 228)))) (.branch 20 (.branch 18 (.leaf (17, (.iconst 0, 18, 0), 0)) (.leaf (18, (.bipush 21, 20, 0), 0))) (.branch 23 (.leaf (20, (.invokestatic 29, 23, 901), 965)) (.leaf (23, (.return_, 24, 0), 0)))))
set_option maxRecDepth 100000 in
/-- DeckBench$LineDeck.isSameAs(LDeckBench$LineDeck;)Z -/
def mt_53 : Lean.RArray mLf :=
  .branch 24 (.branch 13 (.branch 5 (.branch 1 (.leaf (0, (.aload_n 0, 1, 0), 0)) (.branch 4 (.leaf (1, (.getfield 9, 4, 500), 225)) (.leaf (4, (.aload_n 1, 5, 0), 0)))) (.branch 11 (.branch 8 (.leaf (5, (.getfield 9, 8, 500), 225)) (.leaf (8, (.if_icmp .eq 5, 11, 13), 0))) (.branch 12 (.leaf (11, (.iconst 0, 12, 0), 0)) (.leaf (12, (.ireturn, 13, 0), 0))))) (.branch 16 (.branch 14 (.leaf (13, (.iconst 0, 14, 0), 0)) (.branch 15 (.leaf (14, (.istore_n 2, 15, 0), 0)) (.leaf (15, (.iload_n 2, 16, 0), 0)))) (.branch 20 (.branch 17 (.leaf (16, (.aload_n 0, 17, 0), 0)) (.leaf (17, (.getfield 9, 20, 500), 225))) (.branch 23 (.leaf (20, (.if_icmp .ge 26, 23, 46), 0)) (.leaf (23, (.aload_n 0, 24, 0), 0)))))) (.branch 35 (.branch 29 (.branch 27 (.leaf (24, (.getfield 15, 27, 501), 228)) (.branch 28 (.leaf (27, (.iload_n 2, 28, 0), 0)) (.leaf (28, (.iaload, 29, 0), 0)))) (.branch 33 (.branch 30 (.leaf (29, (.aload_n 1, 30, 0), 0)) (.leaf (30, (.getfield 15, 33, 501), 228))) (.branch 34 (.leaf (33, (.iload_n 2, 34, 0), 0)) (.leaf (34, (.iaload, 35, 0), 0))))) (.branch 40 (.branch 38 (.leaf (35, (.if_icmp .eq 5, 38, 40), 0)) (.branch 39 (.leaf (38, (.iconst 0, 39, 0), 0)) (.leaf (39, (.ireturn, 40, 0), 0)))) (.branch 46 (.branch 43 (.leaf (40, (.iinc 2 1, 43, 0), 0)) (.leaf (43, (.goto (-28), 46, 15), 0))) (.branch 47 (.leaf (46, (.iconst 1, 47, 0), 0)) (.leaf (47, (.ireturn, 48, 0), 0))))))
set_option maxRecDepth 100000 in
/-- DeckBench$Net.<init>()V -/
def mt_54 : Lean.RArray mLf :=
  .branch 9 (.branch 4 (.branch 1 (.leaf (0, (.aload_n 0, 1, 0), 0)) (.leaf (1, (.invokespecial 3, 4, 900), 171))) (.branch 5 (.leaf (4, (.aload_n 0, 5, 0), 0)) (.branch 6 (.leaf (5, (.iconst 0, 6, 0), 0)) (.leaf (6, (.putfield 9, 9, 600), 172))))) (.branch 12 (.branch 10 (.leaf (9, (.aload_n 0, 10, 0), 0)) (.leaf (10, (.bipush 7, 12, 0), 0))) (.branch 14 (.leaf (12, (.newarray .int, 14, 0), 0)) (.branch 17 (.leaf (14, (.putfield 15, 17, 601), 180)) (.leaf (17, (.return_, 18, 0), 0)))))
set_option maxRecDepth 100000 in
/-- DeckBench$Net.clear(I)V -/
def mt_55 : Lean.RArray mLf :=
  .branch 17 (.branch 8 (.branch 2 (.branch 1 (.leaf (0, (.aload_n 0, 1, 0), 0)) (.leaf (1, (.iconst 0, 2, 0), 0))) (.branch 4 (.leaf (2, (.bipush 7, 4, 0), 0)) (.branch 5 (.leaf (4, (.iload_n 1, 5, 0), 0)) (.leaf (5, (.invokestatic 19, 8, 903), 454))))) (.branch 14 (.branch 11 (.leaf (8, (.invokestatic 25, 11, 902), 457)) (.leaf (11, (.putfield 9, 14, 600), 172))) (.branch 15 (.leaf (14, (.iconst 0, 15, 0), 0)) (.branch 16 (.leaf (15, (.istore_n 2, 16, 0), 0)) (.leaf (16, (.iload_n 2, 17, 0), 0)))))) (.branch 27 (.branch 22 (.branch 19 (.leaf (17, (.bipush 7, 19, 0), 0)) (.leaf (19, (.if_icmp .ge 16, 22, 35), 0))) (.branch 23 (.leaf (22, (.aload_n 0, 23, 0), 0)) (.branch 26 (.leaf (23, (.getfield 15, 26, 601), 180)) (.leaf (26, (.iload_n 2, 27, 0), 0))))) (.branch 29 (.branch 28 (.leaf (27, (.iconst 0, 28, 0), 0)) (.leaf (28, (.iastore, 29, 0), 0))) (.branch 32 (.leaf (29, (.iinc 2 1, 32, 0), 0)) (.branch 35 (.leaf (32, (.goto (-16), 35, 16), 0)) (.leaf (35, (.return_, 36, 0), 0))))))
set_option maxRecDepth 100000 in
/-- DeckBench$Net.load(II)V -/
def mt_56 : Lean.RArray mLf :=
  .branch 28 (.branch 12 (.branch 6 (.branch 2 (.branch 1 (.leaf (0, (.aload_n 0, 1, 0), 0)) (.leaf (1, (.iload_n 1, 2, 0), 0))) (.branch 5 (.leaf (2, (.invokevirtual 28, 5, 55), 592)) (.leaf (5, (.iconst 1, 6, 0), 0)))) (.branch 8 (.branch 7 (.leaf (6, (.istore_n 3, 7, 0), 0)) (.leaf (7, (.iload_n 3, 8, 0), 0))) (.branch 9 (.leaf (8, (.aload_n 0, 9, 0), 0)) (.leaf (9, (.getfield 9, 12, 600), 172))))) (.branch 20 (.branch 16 (.branch 15 (.leaf (12, (.if_icmp .ge 49, 15, 61), 0)) (.leaf (15, (.iload_n 2, 16, 0), 0))) (.branch 17 (.leaf (16, (.iload_n 3, 17, 0), 0)) (.leaf (17, (.invokestatic 32, 20, 58), 581)))) (.branch 23 (.branch 21 (.leaf (20, (.ishr, 21, 0), 0)) (.leaf (21, (.istore 4, 23, 0), 0))) (.branch 24 (.leaf (23, (.iconst 0, 24, 0), 0)) (.branch 26 (.leaf (24, (.istore 5, 26, 0), 0)) (.leaf (26, (.iload 5, 28, 0), 0))))))) (.branch 42 (.branch 36 (.branch 32 (.branch 29 (.leaf (28, (.iload_n 3, 29, 0), 0)) (.leaf (29, (.if_icmp .ge 26, 32, 55), 0))) (.branch 34 (.leaf (32, (.iload 4, 34, 0), 0)) (.leaf (34, (.iload 5, 36, 0), 0)))) (.branch 38 (.branch 37 (.leaf (36, (.ishr, 37, 0), 0)) (.leaf (37, (.iconst 1, 38, 0), 0))) (.branch 39 (.leaf (38, (.iand, 39, 0), 0)) (.leaf (39, (.ifCond .eq 10, 42, 49), 0))))) (.branch 49 (.branch 45 (.branch 43 (.leaf (42, (.aload_n 0, 43, 0), 0)) (.leaf (43, (.iload 5, 45, 0), 0))) (.branch 46 (.leaf (45, (.iload_n 3, 46, 0), 0)) (.leaf (46, (.invokevirtual 36, 49, 65), 593)))) (.branch 55 (.branch 52 (.leaf (49, (.iinc 5 1, 52, 0), 0)) (.leaf (52, (.goto (-26), 55, 26), 0))) (.branch 58 (.leaf (55, (.iinc 3 1, 58, 0), 0)) (.branch 61 (.leaf (58, (.goto (-51), 61, 7), 0)) (.leaf (61, (.return_, 62, 0), 0)))))))
set_option maxRecDepth 100000 in
/-- DeckBench$Net.copy(LDeckBench$Net;)V -/
def mt_57 : Lean.RArray mLf :=
  .branch 12 (.branch 5 (.branch 1 (.leaf (0, (.aload_n 0, 1, 0), 0)) (.branch 2 (.leaf (1, (.aload_n 1, 2, 0), 0)) (.leaf (2, (.getfield 9, 5, 600), 172)))) (.branch 8 (.leaf (5, (.putfield 9, 8, 600), 172)) (.branch 9 (.leaf (8, (.aload_n 1, 9, 0), 0)) (.leaf (9, (.getfield 15, 12, 601), 180))))) (.branch 17 (.branch 13 (.leaf (12, (.iconst 0, 13, 0), 0)) (.branch 14 (.leaf (13, (.aload_n 0, 14, 0), 0)) (.leaf (14, (.getfield 15, 17, 601), 180)))) (.branch 20 (.branch 18 (.leaf (17, (.iconst 0, 18, 0), 0)) (.leaf (18, (.bipush 7, 20, 0), 0))) (.branch 23 (.leaf (20, (.invokestatic 40, 23, 901), 640)) (.leaf (23, (.return_, 24, 0), 0)))))
set_option maxRecDepth 100000 in
/-- DeckBench$Net.firstBitOf(I)I -/
def mt_58 : Lean.RArray mLf :=
  .branch 4 (.branch 2 (.branch 1 (.leaf (0, (.iload_n 0, 1, 0), 0)) (.leaf (1, (.iload_n 0, 2, 0), 0))) (.branch 3 (.leaf (2, (.iconst 1, 3, 0), 0)) (.leaf (3, (.isub, 4, 0), 0)))) (.branch 6 (.branch 5 (.leaf (4, (.imul, 5, 0), 0)) (.leaf (5, (.iconst 2, 6, 0), 0))) (.branch 7 (.leaf (6, (.idiv, 7, 0), 0)) (.leaf (7, (.ireturn, 8, 0), 0))))
set_option maxRecDepth 100000 in
/-- DeckBench$Net.code()I -/
def mt_59 : Lean.RArray mLf :=
  .branch 20 (.branch 9 (.branch 3 (.branch 1 (.leaf (0, (.iconst 0, 1, 0), 0)) (.branch 2 (.leaf (1, (.istore_n 1, 2, 0), 0)) (.leaf (2, (.iconst 1, 3, 0), 0)))) (.branch 5 (.branch 4 (.leaf (3, (.istore_n 2, 4, 0), 0)) (.leaf (4, (.iload_n 2, 5, 0), 0))) (.branch 6 (.leaf (5, (.aload_n 0, 6, 0), 0)) (.leaf (6, (.getfield 9, 9, 600), 172))))) (.branch 14 (.branch 12 (.leaf (9, (.if_icmp .ge 29, 12, 38), 0)) (.branch 13 (.leaf (12, (.iload_n 1, 13, 0), 0)) (.leaf (13, (.aload_n 0, 14, 0), 0)))) (.branch 18 (.branch 17 (.leaf (14, (.getfield 15, 17, 601), 180)) (.leaf (17, (.iload_n 2, 18, 0), 0))) (.branch 19 (.leaf (18, (.iaload, 19, 0), 0)) (.leaf (19, (.iconst 1, 20, 0), 0)))))) (.branch 29 (.branch 23 (.branch 21 (.leaf (20, (.iload_n 2, 21, 0), 0)) (.branch 22 (.leaf (21, (.ishl, 22, 0), 0)) (.leaf (22, (.iconst 1, 23, 0), 0)))) (.branch 25 (.branch 24 (.leaf (23, (.isub, 24, 0), 0)) (.leaf (24, (.iand, 25, 0), 0))) (.branch 26 (.leaf (25, (.iload_n 2, 26, 0), 0)) (.leaf (26, (.invokestatic 32, 29, 58), 581))))) (.branch 32 (.branch 30 (.leaf (29, (.ishl, 30, 0), 0)) (.branch 31 (.leaf (30, (.ior, 31, 0), 0)) (.leaf (31, (.istore_n 1, 32, 0), 0)))) (.branch 38 (.branch 35 (.leaf (32, (.iinc 2 1, 35, 0), 0)) (.leaf (35, (.goto (-31), 38, 4), 0))) (.branch 39 (.leaf (38, (.iload_n 1, 39, 0), 0)) (.leaf (39, (.ireturn, 40, 0), 0))))))
set_option maxRecDepth 100000 in
/-- DeckBench$Net.everyNode()I -/
def mt_60 : Lean.RArray mLf :=
  .branch 5 (.branch 1 (.leaf (0, (.iconst 1, 1, 0), 0)) (.branch 2 (.leaf (1, (.aload_n 0, 2, 0), 0)) (.leaf (2, (.getfield 9, 5, 600), 172)))) (.branch 7 (.branch 6 (.leaf (5, (.ishl, 6, 0), 0)) (.leaf (6, (.iconst 1, 7, 0), 0))) (.branch 8 (.leaf (7, (.isub, 8, 0), 0)) (.leaf (8, (.ireturn, 9, 0), 0))))
set_option maxRecDepth 100000 in
/-- DeckBench$Net.hasNode(I)Z -/
def mt_61 : Lean.RArray mLf :=
  .branch 9 (.branch 4 (.branch 1 (.leaf (0, (.iload_n 1, 1, 0), 0)) (.leaf (1, (.ifCond .lt 15, 4, 16), 0))) (.branch 5 (.leaf (4, (.iload_n 1, 5, 0), 0)) (.branch 6 (.leaf (5, (.aload_n 0, 6, 0), 0)) (.leaf (6, (.getfield 9, 9, 600), 172))))) (.branch 13 (.branch 12 (.leaf (9, (.if_icmp .ge 7, 12, 16), 0)) (.leaf (12, (.iconst 1, 13, 0), 0))) (.branch 16 (.leaf (13, (.goto 4, 16, 17), 0)) (.branch 17 (.leaf (16, (.iconst 0, 17, 0), 0)) (.leaf (17, (.ireturn, 18, 0), 0)))))
set_option maxRecDepth 100000 in
/-- DeckBench$Net.degreeOf(I)I -/
def mt_62 : Lean.RArray mLf :=
  .branch 12 (.branch 5 (.branch 1 (.leaf (0, (.aload_n 0, 1, 0), 0)) (.branch 2 (.leaf (1, (.iload_n 1, 2, 0), 0)) (.leaf (2, (.invokevirtual 46, 5, 61), 554)))) (.branch 8 (.leaf (5, (.ifCond .eq 15, 8, 20), 0)) (.branch 9 (.leaf (8, (.aload_n 0, 9, 0), 0)) (.leaf (9, (.getfield 15, 12, 601), 180))))) (.branch 17 (.branch 13 (.leaf (12, (.iload_n 1, 13, 0), 0)) (.branch 14 (.leaf (13, (.iaload, 14, 0), 0)) (.leaf (14, (.invokestatic 50, 17, 255), 682)))) (.branch 20 (.leaf (17, (.goto 4, 20, 21), 0)) (.branch 21 (.leaf (20, (.iconst 0, 21, 0), 0)) (.leaf (21, (.ireturn, 22, 0), 0)))))
set_option maxRecDepth 100000 in
/-- DeckBench$Net.lineCount()I -/
def mt_63 : Lean.RArray mLf :=
  .branch 17 (.branch 5 (.branch 2 (.branch 1 (.leaf (0, (.iconst 0, 1, 0), 0)) (.leaf (1, (.istore_n 1, 2, 0), 0))) (.branch 3 (.leaf (2, (.iconst 0, 3, 0), 0)) (.branch 4 (.leaf (3, (.istore_n 2, 4, 0), 0)) (.leaf (4, (.iload_n 2, 5, 0), 0))))) (.branch 12 (.branch 6 (.leaf (5, (.aload_n 0, 6, 0), 0)) (.branch 9 (.leaf (6, (.getfield 9, 9, 600), 172)) (.leaf (9, (.if_icmp .ge 21, 12, 30), 0)))) (.branch 13 (.leaf (12, (.iload_n 1, 13, 0), 0)) (.branch 14 (.leaf (13, (.aload_n 0, 14, 0), 0)) (.leaf (14, (.getfield 15, 17, 601), 180)))))) (.branch 24 (.branch 19 (.branch 18 (.leaf (17, (.iload_n 2, 18, 0), 0)) (.leaf (18, (.iaload, 19, 0), 0))) (.branch 22 (.leaf (19, (.invokestatic 50, 22, 255), 682)) (.branch 23 (.leaf (22, (.iadd, 23, 0), 0)) (.leaf (23, (.istore_n 1, 24, 0), 0))))) (.branch 31 (.branch 27 (.leaf (24, (.iinc 2 1, 27, 0), 0)) (.branch 30 (.leaf (27, (.goto (-23), 30, 4), 0)) (.leaf (30, (.iload_n 1, 31, 0), 0)))) (.branch 32 (.leaf (31, (.iconst 2, 32, 0), 0)) (.branch 33 (.leaf (32, (.idiv, 33, 0), 0)) (.leaf (33, (.ireturn, 34, 0), 0))))))
set_option maxRecDepth 100000 in
/-- DeckBench$Net.areJoined(II)Z -/
def mt_64 : Lean.RArray mLf :=
  .branch 20 (.branch 9 (.branch 2 (.branch 1 (.leaf (0, (.aload_n 0, 1, 0), 0)) (.leaf (1, (.iload_n 1, 2, 0), 0))) (.branch 5 (.leaf (2, (.invokevirtual 46, 5, 61), 554)) (.branch 8 (.leaf (5, (.ifCond .eq 28, 8, 33), 0)) (.leaf (8, (.aload_n 0, 9, 0), 0))))) (.branch 13 (.branch 10 (.leaf (9, (.iload_n 2, 10, 0), 0)) (.leaf (10, (.invokevirtual 46, 13, 61), 554))) (.branch 16 (.leaf (13, (.ifCond .eq 20, 16, 33), 0)) (.branch 17 (.leaf (16, (.aload_n 0, 17, 0), 0)) (.leaf (17, (.getfield 15, 20, 601), 180)))))) (.branch 25 (.branch 22 (.branch 21 (.leaf (20, (.iload_n 1, 21, 0), 0)) (.leaf (21, (.iaload, 22, 0), 0))) (.branch 23 (.leaf (22, (.iload_n 2, 23, 0), 0)) (.branch 24 (.leaf (23, (.ishr, 24, 0), 0)) (.leaf (24, (.iconst 1, 25, 0), 0))))) (.branch 30 (.branch 26 (.leaf (25, (.iand, 26, 0), 0)) (.branch 29 (.leaf (26, (.ifCond .eq 7, 29, 33), 0)) (.leaf (29, (.iconst 1, 30, 0), 0)))) (.branch 33 (.leaf (30, (.goto 4, 33, 34), 0)) (.branch 34 (.leaf (33, (.iconst 0, 34, 0), 0)) (.leaf (34, (.ireturn, 35, 0), 0))))))
set_option maxRecDepth 100000 in
/-- DeckBench$Net.flip(II)V -/
def mt_65 : Lean.RArray mLf :=
  .branch 28 (.branch 16 (.branch 8 (.branch 2 (.branch 1 (.leaf (0, (.aload_n 0, 1, 0), 0)) (.leaf (1, (.iload_n 1, 2, 0), 0))) (.branch 5 (.leaf (2, (.invokevirtual 46, 5, 61), 554)) (.leaf (5, (.ifCond .eq 40, 8, 45), 0)))) (.branch 10 (.branch 9 (.leaf (8, (.aload_n 0, 9, 0), 0)) (.leaf (9, (.iload_n 2, 10, 0), 0))) (.branch 13 (.leaf (10, (.invokevirtual 46, 13, 61), 554)) (.leaf (13, (.ifCond .eq 32, 16, 45), 0))))) (.branch 22 (.branch 18 (.branch 17 (.leaf (16, (.iload_n 1, 17, 0), 0)) (.leaf (17, (.iload_n 2, 18, 0), 0))) (.branch 21 (.leaf (18, (.if_icmp .eq 27, 21, 45), 0)) (.leaf (21, (.aload_n 0, 22, 0), 0)))) (.branch 26 (.branch 25 (.leaf (22, (.getfield 15, 25, 601), 180)) (.leaf (25, (.iload_n 1, 26, 0), 0))) (.branch 27 (.leaf (26, (.dup2, 27, 0), 0)) (.leaf (27, (.iaload, 28, 0), 0)))))) (.branch 38 (.branch 32 (.branch 30 (.branch 29 (.leaf (28, (.iconst 1, 29, 0), 0)) (.leaf (29, (.iload_n 2, 30, 0), 0))) (.branch 31 (.leaf (30, (.ishl, 31, 0), 0)) (.leaf (31, (.ixor, 32, 0), 0)))) (.branch 34 (.branch 33 (.leaf (32, (.iastore, 33, 0), 0)) (.leaf (33, (.aload_n 0, 34, 0), 0))) (.branch 37 (.leaf (34, (.getfield 15, 37, 601), 180)) (.leaf (37, (.iload_n 2, 38, 0), 0))))) (.branch 42 (.branch 40 (.branch 39 (.leaf (38, (.dup2, 39, 0), 0)) (.leaf (39, (.iaload, 40, 0), 0))) (.branch 41 (.leaf (40, (.iconst 1, 41, 0), 0)) (.leaf (41, (.iload_n 1, 42, 0), 0)))) (.branch 44 (.branch 43 (.leaf (42, (.ishl, 43, 0), 0)) (.leaf (43, (.ixor, 44, 0), 0))) (.branch 45 (.leaf (44, (.iastore, 45, 0), 0)) (.leaf (45, (.return_, 46, 0), 0))))))
set_option maxRecDepth 100000 in
/-- DeckBench$Net.append(I)V -/
def mt_66 : Lean.RArray mLf :=
  .branch 27 (.branch 15 (.branch 9 (.branch 4 (.branch 1 (.leaf (0, (.aload_n 0, 1, 0), 0)) (.leaf (1, (.getfield 9, 4, 600), 172))) (.branch 6 (.leaf (4, (.bipush 7, 6, 0), 0)) (.leaf (6, (.if_icmp .lt 4, 9, 10), 0)))) (.branch 11 (.branch 10 (.leaf (9, (.return_, 10, 0), 0)) (.leaf (10, (.aload_n 0, 11, 0), 0))) (.branch 14 (.leaf (11, (.getfield 9, 14, 600), 172)) (.leaf (14, (.istore_n 2, 15, 0), 0))))) (.branch 21 (.branch 17 (.branch 16 (.leaf (15, (.aload_n 0, 16, 0), 0)) (.leaf (16, (.dup, 17, 0), 0))) (.branch 20 (.leaf (17, (.getfield 9, 20, 600), 172)) (.leaf (20, (.iconst 1, 21, 0), 0)))) (.branch 25 (.branch 22 (.leaf (21, (.iadd, 22, 0), 0)) (.leaf (22, (.putfield 9, 25, 600), 172))) (.branch 26 (.leaf (25, (.iconst 0, 26, 0), 0)) (.leaf (26, (.istore_n 3, 27, 0), 0)))))) (.branch 37 (.branch 33 (.branch 29 (.branch 28 (.leaf (27, (.iload_n 3, 28, 0), 0)) (.leaf (28, (.iload_n 2, 29, 0), 0))) (.branch 32 (.leaf (29, (.if_icmp .ge 23, 32, 52), 0)) (.leaf (32, (.iload_n 1, 33, 0), 0)))) (.branch 35 (.branch 34 (.leaf (33, (.iload_n 3, 34, 0), 0)) (.leaf (34, (.ishr, 35, 0), 0))) (.branch 36 (.leaf (35, (.iconst 1, 36, 0), 0)) (.leaf (36, (.iand, 37, 0), 0))))) (.branch 43 (.branch 41 (.branch 40 (.leaf (37, (.ifCond .eq 9, 40, 46), 0)) (.leaf (40, (.aload_n 0, 41, 0), 0))) (.branch 42 (.leaf (41, (.iload_n 3, 42, 0), 0)) (.leaf (42, (.iload_n 2, 43, 0), 0)))) (.branch 49 (.branch 46 (.leaf (43, (.invokevirtual 36, 46, 65), 593)) (.leaf (46, (.iinc 3 1, 49, 0), 0))) (.branch 52 (.leaf (49, (.goto (-22), 52, 27), 0)) (.leaf (52, (.return_, 53, 0), 0))))))
set_option maxRecDepth 100000 in
/-- DeckBench$Net.invert(LDeckBench$Net;)V -/
def mt_67 : Lean.RArray mLf :=
  .branch 34 (.branch 15 (.branch 6 (.branch 4 (.branch 1 (.leaf (0, (.aload_n 1, 1, 0), 0)) (.leaf (1, (.invokevirtual 55, 4, 60), 711))) (.branch 5 (.leaf (4, (.istore_n 2, 5, 0), 0)) (.leaf (5, (.aload_n 0, 6, 0), 0)))) (.branch 10 (.branch 7 (.leaf (6, (.aload_n 1, 7, 0), 0)) (.leaf (7, (.getfield 9, 10, 600), 172))) (.branch 13 (.leaf (10, (.putfield 9, 13, 600), 172)) (.branch 14 (.leaf (13, (.iconst 0, 14, 0), 0)) (.leaf (14, (.istore_n 3, 15, 0), 0)))))) (.branch 25 (.branch 18 (.branch 16 (.leaf (15, (.iload_n 3, 16, 0), 0)) (.leaf (16, (.bipush 7, 18, 0), 0))) (.branch 21 (.leaf (18, (.if_icmp .ge 43, 21, 61), 0)) (.branch 22 (.leaf (21, (.aload_n 0, 22, 0), 0)) (.leaf (22, (.getfield 15, 25, 601), 180))))) (.branch 27 (.branch 26 (.leaf (25, (.iload_n 3, 26, 0), 0)) (.leaf (26, (.iload_n 3, 27, 0), 0))) (.branch 28 (.leaf (27, (.aload_n 0, 28, 0), 0)) (.branch 31 (.leaf (28, (.getfield 9, 31, 600), 172)) (.leaf (31, (.if_icmp .ge 22, 34, 53), 0))))))) (.branch 46 (.branch 41 (.branch 36 (.branch 35 (.leaf (34, (.iload_n 2, 35, 0), 0)) (.leaf (35, (.aload_n 1, 36, 0), 0))) (.branch 39 (.leaf (36, (.getfield 15, 39, 601), 180)) (.branch 40 (.leaf (39, (.iload_n 3, 40, 0), 0)) (.leaf (40, (.iaload, 41, 0), 0))))) (.branch 43 (.branch 42 (.leaf (41, (.iconst (-1), 42, 0), 0)) (.leaf (42, (.ixor, 43, 0), 0))) (.branch 44 (.leaf (43, (.iand, 44, 0), 0)) (.branch 45 (.leaf (44, (.iconst 1, 45, 0), 0)) (.leaf (45, (.iload_n 3, 46, 0), 0)))))) (.branch 53 (.branch 48 (.branch 47 (.leaf (46, (.ishl, 47, 0), 0)) (.leaf (47, (.iconst (-1), 48, 0), 0))) (.branch 49 (.leaf (48, (.ixor, 49, 0), 0)) (.branch 50 (.leaf (49, (.iand, 50, 0), 0)) (.leaf (50, (.goto 4, 53, 54), 0))))) (.branch 55 (.branch 54 (.leaf (53, (.iconst 0, 54, 0), 0)) (.leaf (54, (.iastore, 55, 0), 0))) (.branch 58 (.leaf (55, (.iinc 3 1, 58, 0), 0)) (.branch 61 (.leaf (58, (.goto (-43), 61, 15), 0)) (.leaf (61, (.return_, 62, 0), 0)))))))
set_option maxRecDepth 100000 in
def mt_68_0 : Lean.RArray mLf :=
  .branch 18 (.branch 8 (.branch 4 (.branch 1 (.leaf (0, (.aload_n 1, 1, 0), 0)) (.leaf (1, (.getfield 9, 4, 600), 172))) (.branch 5 (.leaf (4, (.istore_n 3, 5, 0), 0)) (.branch 6 (.leaf (5, (.iconst 0, 6, 0), 0)) (.leaf (6, (.istore 4, 8, 0), 0))))) (.branch 13 (.branch 9 (.leaf (8, (.iconst 0, 9, 0), 0)) (.branch 11 (.leaf (9, (.istore 5, 11, 0), 0)) (.leaf (11, (.iload 5, 13, 0), 0)))) (.branch 14 (.leaf (13, (.iload_n 3, 14, 0), 0)) (.branch 17 (.leaf (14, (.if_icmp .ge 40, 17, 54), 0)) (.leaf (17, (.iload_n 2, 18, 0), 0)))))) (.branch 27 (.branch 22 (.branch 20 (.leaf (18, (.iload 5, 20, 0), 0)) (.branch 21 (.leaf (20, (.ishr, 21, 0), 0)) (.leaf (21, (.iconst 1, 22, 0), 0)))) (.branch 23 (.leaf (22, (.iand, 23, 0), 0)) (.branch 26 (.leaf (23, (.ifCond .eq 25, 26, 48), 0)) (.leaf (26, (.aload_n 0, 27, 0), 0))))) (.branch 33 (.branch 30 (.leaf (27, (.getfield 15, 30, 601), 180)) (.branch 32 (.leaf (30, (.iload 4, 32, 0), 0)) (.leaf (32, (.aload_n 1, 33, 0), 0)))) (.branch 36 (.leaf (33, (.getfield 15, 36, 601), 180)) (.branch 38 (.leaf (36, (.iload 5, 38, 0), 0)) (.leaf (38, (.iaload, 39, 0), 0))))))
set_option maxRecDepth 100000 in
def mt_68_1 : Lean.RArray mLf :=
  .branch 62 (.branch 48 (.branch 41 (.branch 40 (.leaf (39, (.iload_n 2, 40, 0), 0)) (.leaf (40, (.iload_n 3, 41, 0), 0))) (.branch 44 (.leaf (41, (.invokestatic 59, 44, 69), 700)) (.branch 45 (.leaf (44, (.iastore, 45, 0), 0)) (.leaf (45, (.iinc 4 1, 48, 0), 0))))) (.branch 55 (.branch 51 (.leaf (48, (.iinc 5 1, 51, 0), 0)) (.branch 54 (.leaf (51, (.goto (-40), 54, 11), 0)) (.leaf (54, (.aload_n 0, 55, 0), 0)))) (.branch 57 (.leaf (55, (.iload 4, 57, 0), 0)) (.branch 60 (.leaf (57, (.putfield 9, 60, 600), 172)) (.leaf (60, (.iload 4, 62, 0), 0)))))) (.branch 75 (.branch 68 (.branch 64 (.leaf (62, (.istore 5, 64, 0), 0)) (.branch 66 (.leaf (64, (.iload 5, 66, 0), 0)) (.leaf (66, (.bipush 7, 68, 0), 0)))) (.branch 71 (.leaf (68, (.if_icmp .ge 17, 71, 85), 0)) (.branch 72 (.leaf (71, (.aload_n 0, 72, 0), 0)) (.leaf (72, (.getfield 15, 75, 601), 180))))) (.branch 79 (.branch 77 (.leaf (75, (.iload 5, 77, 0), 0)) (.branch 78 (.leaf (77, (.iconst 0, 78, 0), 0)) (.leaf (78, (.iastore, 79, 0), 0)))) (.branch 82 (.leaf (79, (.iinc 5 1, 82, 0), 0)) (.branch 85 (.leaf (82, (.goto (-18), 85, 64), 0)) (.leaf (85, (.return_, 86, 0), 0))))))
/-- DeckBench$Net.keepOnly(LDeckBench$Net;I)V -/
def mt_68 : Lean.RArray mLf :=
  .branch 39 (mt_68_0) (mt_68_1)
set_option maxRecDepth 100000 in
/-- DeckBench$Net.closeUp(III)I -/
def mt_69 : Lean.RArray mLf :=
  .branch 23 (.branch 10 (.branch 3 (.branch 1 (.leaf (0, (.iconst 0, 1, 0), 0)) (.branch 2 (.leaf (1, (.istore_n 3, 2, 0), 0)) (.leaf (2, (.iconst 0, 3, 0), 0)))) (.branch 6 (.branch 5 (.leaf (3, (.istore 4, 5, 0), 0)) (.leaf (5, (.iconst 0, 6, 0), 0))) (.branch 8 (.leaf (6, (.istore 5, 8, 0), 0)) (.leaf (8, (.iload 5, 10, 0), 0))))) (.branch 17 (.branch 14 (.branch 11 (.leaf (10, (.iload_n 2, 11, 0), 0)) (.leaf (11, (.if_icmp .ge 33, 14, 44), 0))) (.branch 15 (.leaf (14, (.iload_n 1, 15, 0), 0)) (.leaf (15, (.iload 5, 17, 0), 0)))) (.branch 19 (.branch 18 (.leaf (17, (.ishr, 18, 0), 0)) (.leaf (18, (.iconst 1, 19, 0), 0))) (.branch 20 (.leaf (19, (.iand, 20, 0), 0)) (.leaf (20, (.ifCond .eq 18, 23, 38), 0)))))) (.branch 32 (.branch 27 (.branch 24 (.leaf (23, (.iload_n 3, 24, 0), 0)) (.branch 25 (.leaf (24, (.iload_n 0, 25, 0), 0)) (.leaf (25, (.iload 5, 27, 0), 0)))) (.branch 29 (.branch 28 (.leaf (27, (.ishr, 28, 0), 0)) (.leaf (28, (.iconst 1, 29, 0), 0))) (.branch 30 (.leaf (29, (.iand, 30, 0), 0)) (.leaf (30, (.iload 4, 32, 0), 0))))) (.branch 38 (.branch 34 (.branch 33 (.leaf (32, (.ishl, 33, 0), 0)) (.leaf (33, (.ior, 34, 0), 0))) (.branch 35 (.leaf (34, (.istore_n 3, 35, 0), 0)) (.leaf (35, (.iinc 4 1, 38, 0), 0)))) (.branch 44 (.branch 41 (.leaf (38, (.iinc 5 1, 41, 0), 0)) (.leaf (41, (.goto (-33), 44, 8), 0))) (.branch 45 (.leaf (44, (.iload_n 3, 45, 0), 0)) (.leaf (45, (.ireturn, 46, 0), 0))))))
set_option maxRecDepth 100000 in
/-- DeckBench$Net.withNeighbours(I)I -/
def mt_70 : Lean.RArray mLf :=
  .branch 16 (.branch 6 (.branch 3 (.branch 1 (.leaf (0, (.iload_n 1, 1, 0), 0)) (.branch 2 (.leaf (1, (.istore_n 2, 2, 0), 0)) (.leaf (2, (.iconst 0, 3, 0), 0)))) (.branch 4 (.leaf (3, (.istore_n 3, 4, 0), 0)) (.branch 5 (.leaf (4, (.iload_n 3, 5, 0), 0)) (.leaf (5, (.aload_n 0, 6, 0), 0))))) (.branch 13 (.branch 9 (.leaf (6, (.getfield 9, 9, 600), 172)) (.branch 12 (.leaf (9, (.if_icmp .ge 26, 12, 35), 0)) (.leaf (12, (.iload_n 1, 13, 0), 0)))) (.branch 14 (.leaf (13, (.iload_n 3, 14, 0), 0)) (.branch 15 (.leaf (14, (.ishr, 15, 0), 0)) (.leaf (15, (.iconst 1, 16, 0), 0)))))) (.branch 26 (.branch 21 (.branch 17 (.leaf (16, (.iand, 17, 0), 0)) (.branch 20 (.leaf (17, (.ifCond .eq 12, 20, 29), 0)) (.leaf (20, (.iload_n 2, 21, 0), 0)))) (.branch 22 (.leaf (21, (.aload_n 0, 22, 0), 0)) (.branch 25 (.leaf (22, (.getfield 15, 25, 601), 180)) (.leaf (25, (.iload_n 3, 26, 0), 0))))) (.branch 29 (.branch 27 (.leaf (26, (.iaload, 27, 0), 0)) (.branch 28 (.leaf (27, (.ior, 28, 0), 0)) (.leaf (28, (.istore_n 2, 29, 0), 0)))) (.branch 35 (.branch 32 (.leaf (29, (.iinc 3 1, 32, 0), 0)) (.leaf (32, (.goto (-28), 35, 4), 0))) (.branch 36 (.leaf (35, (.iload_n 2, 36, 0), 0)) (.leaf (36, (.ireturn, 37, 0), 0))))))
set_option maxRecDepth 100000 in
/-- DeckBench$Net.pieceOf(I)I -/
def mt_71 : Lean.RArray mLf :=
  .branch 11 (.branch 4 (.branch 2 (.branch 1 (.leaf (0, (.iconst 1, 1, 0), 0)) (.leaf (1, (.iload_n 1, 2, 0), 0))) (.branch 3 (.leaf (2, (.ishl, 3, 0), 0)) (.leaf (3, (.istore_n 2, 4, 0), 0)))) (.branch 6 (.branch 5 (.leaf (4, (.iconst 1, 5, 0), 0)) (.leaf (5, (.istore_n 3, 6, 0), 0))) (.branch 7 (.leaf (6, (.iload_n 3, 7, 0), 0)) (.branch 8 (.leaf (7, (.aload_n 0, 8, 0), 0)) (.leaf (8, (.getfield 9, 11, 600), 172)))))) (.branch 19 (.branch 15 (.branch 14 (.leaf (11, (.if_icmp .ge 15, 14, 26), 0)) (.leaf (14, (.aload_n 0, 15, 0), 0))) (.branch 16 (.leaf (15, (.iload_n 2, 16, 0), 0)) (.leaf (16, (.invokevirtual 63, 19, 70), 848)))) (.branch 23 (.branch 20 (.leaf (19, (.istore_n 2, 20, 0), 0)) (.leaf (20, (.iinc 3 1, 23, 0), 0))) (.branch 26 (.leaf (23, (.goto (-17), 26, 6), 0)) (.branch 27 (.leaf (26, (.iload_n 2, 27, 0), 0)) (.leaf (27, (.ireturn, 28, 0), 0))))))
set_option maxRecDepth 100000 in
/-- DeckBench$Net.pieceCount()I -/
def mt_72 : Lean.RArray mLf :=
  .branch 17 (.branch 6 (.branch 3 (.branch 1 (.leaf (0, (.iconst 0, 1, 0), 0)) (.branch 2 (.leaf (1, (.istore_n 1, 2, 0), 0)) (.leaf (2, (.iconst 0, 3, 0), 0)))) (.branch 4 (.leaf (3, (.istore_n 2, 4, 0), 0)) (.branch 5 (.leaf (4, (.iconst 0, 5, 0), 0)) (.leaf (5, (.istore_n 3, 6, 0), 0))))) (.branch 11 (.branch 7 (.leaf (6, (.iload_n 3, 7, 0), 0)) (.branch 8 (.leaf (7, (.aload_n 0, 8, 0), 0)) (.leaf (8, (.getfield 9, 11, 600), 172)))) (.branch 15 (.branch 14 (.leaf (11, (.if_icmp .ge 28, 14, 39), 0)) (.leaf (14, (.iload_n 1, 15, 0), 0))) (.branch 16 (.leaf (15, (.iload_n 3, 16, 0), 0)) (.leaf (16, (.ishr, 17, 0), 0)))))) (.branch 28 (.branch 22 (.branch 18 (.leaf (17, (.iconst 1, 18, 0), 0)) (.branch 19 (.leaf (18, (.iand, 19, 0), 0)) (.leaf (19, (.ifCond .ne 14, 22, 33), 0)))) (.branch 24 (.branch 23 (.leaf (22, (.iload_n 1, 23, 0), 0)) (.leaf (23, (.aload_n 0, 24, 0), 0))) (.branch 25 (.leaf (24, (.iload_n 3, 25, 0), 0)) (.leaf (25, (.invokevirtual 66, 28, 71), 844))))) (.branch 33 (.branch 29 (.leaf (28, (.ior, 29, 0), 0)) (.branch 30 (.leaf (29, (.istore_n 1, 30, 0), 0)) (.leaf (30, (.iinc 2 1, 33, 0), 0)))) (.branch 39 (.branch 36 (.leaf (33, (.iinc 3 1, 36, 0), 0)) (.leaf (36, (.goto (-30), 39, 6), 0))) (.branch 40 (.leaf (39, (.iload_n 2, 40, 0), 0)) (.leaf (40, (.ireturn, 41, 0), 0))))))
set_option maxRecDepth 100000 in
/-- DeckBench$Net.distance(II)I -/
def mt_73 : Lean.RArray mLf :=
  .branch 19 (.branch 7 (.branch 3 (.branch 1 (.leaf (0, (.iconst 1, 1, 0), 0)) (.branch 2 (.leaf (1, (.iload_n 1, 2, 0), 0)) (.leaf (2, (.ishl, 3, 0), 0)))) (.branch 4 (.leaf (3, (.istore_n 3, 4, 0), 0)) (.branch 5 (.leaf (4, (.iconst 0, 5, 0), 0)) (.leaf (5, (.istore 4, 7, 0), 0))))) (.branch 13 (.branch 9 (.leaf (7, (.iload 4, 9, 0), 0)) (.branch 10 (.leaf (9, (.aload_n 0, 10, 0), 0)) (.leaf (10, (.getfield 9, 13, 600), 172)))) (.branch 17 (.branch 16 (.leaf (13, (.if_icmp .ge 26, 16, 39), 0)) (.leaf (16, (.iload_n 3, 17, 0), 0))) (.branch 18 (.leaf (17, (.iload_n 2, 18, 0), 0)) (.leaf (18, (.ishr, 19, 0), 0)))))) (.branch 28 (.branch 24 (.branch 20 (.leaf (19, (.iconst 1, 20, 0), 0)) (.branch 21 (.leaf (20, (.iand, 21, 0), 0)) (.leaf (21, (.ifCond .eq 6, 24, 27), 0)))) (.branch 26 (.leaf (24, (.iload 4, 26, 0), 0)) (.branch 27 (.leaf (26, (.ireturn, 27, 0), 0)) (.leaf (27, (.aload_n 0, 28, 0), 0))))) (.branch 33 (.branch 29 (.leaf (28, (.iload_n 3, 29, 0), 0)) (.branch 32 (.leaf (29, (.invokevirtual 63, 32, 70), 848)) (.leaf (32, (.istore_n 3, 33, 0), 0)))) (.branch 39 (.branch 36 (.leaf (33, (.iinc 4 1, 36, 0), 0)) (.leaf (36, (.goto (-29), 39, 7), 0))) (.branch 40 (.leaf (39, (.iconst (-1), 40, 0), 0)) (.leaf (40, (.ireturn, 41, 0), 0))))))
set_option maxRecDepth 100000 in
def mt_74_0 : Lean.RArray mLf :=
  .branch 21 (.branch 9 (.branch 4 (.branch 1 (.leaf (0, (.aload_n 0, 1, 0), 0)) (.leaf (1, (.invokespecial 3, 4, 900), 284))) (.branch 5 (.leaf (4, (.aload_n 0, 5, 0), 0)) (.branch 8 (.leaf (5, (.new 9, 8, 6), 285)) (.leaf (8, (.dup, 9, 0), 0))))) (.branch 15 (.branch 12 (.leaf (9, (.invokespecial 11, 12, 54), 286)) (.leaf (12, (.putfield 12, 15, 701), 315))) (.branch 16 (.leaf (15, (.aload_n 0, 16, 0), 0)) (.branch 18 (.leaf (16, (.bipush 53, 18, 0), 0)) (.leaf (18, (.anewarray 18, 21, 4), 287)))))) (.branch 32 (.branch 25 (.branch 24 (.leaf (21, (.putfield 20, 24, 702), 316)) (.leaf (24, (.aload_n 0, 25, 0), 0))) (.branch 28 (.leaf (25, (.new 18, 28, 1), 287)) (.branch 29 (.leaf (28, (.dup, 29, 0), 0)) (.leaf (29, (.invokespecial 24, 32, 7), 289))))) (.branch 39 (.branch 35 (.leaf (32, (.putfield 25, 35, 703), 317)) (.branch 36 (.leaf (35, (.aload_n 0, 36, 0), 0)) (.leaf (36, (.new 29, 39, 5), 312)))) (.branch 40 (.leaf (39, (.dup, 40, 0), 0)) (.branch 43 (.leaf (40, (.invokespecial 31, 43, 47), 313)) (.leaf (43, (.putfield 32, 46, 704), 318))))))
set_option maxRecDepth 100000 in
def mt_74_1 : Lean.RArray mLf :=
  .branch 61 (.branch 53 (.branch 48 (.branch 47 (.leaf (46, (.aload_n 0, 47, 0), 0)) (.leaf (47, (.iconst 0, 48, 0), 0))) (.branch 51 (.leaf (48, (.putfield 36, 51, 705), 319)) (.branch 52 (.leaf (51, (.aload_n 0, 52, 0), 0)) (.leaf (52, (.aload_n 1, 53, 0), 0))))) (.branch 57 (.branch 56 (.leaf (53, (.putfield 40, 56, 700), 314)) (.leaf (56, (.iconst 0, 57, 0), 0))) (.branch 58 (.leaf (57, (.istore_n 2, 58, 0), 0)) (.branch 59 (.leaf (58, (.iload_n 2, 59, 0), 0)) (.leaf (59, (.bipush 53, 61, 0), 0)))))) (.branch 72 (.branch 65 (.branch 64 (.leaf (61, (.if_icmp .ge 22, 64, 83), 0)) (.leaf (64, (.aload_n 0, 65, 0), 0))) (.branch 68 (.leaf (65, (.getfield 20, 68, 702), 316)) (.branch 69 (.leaf (68, (.iload_n 2, 69, 0), 0)) (.leaf (69, (.new 18, 72, 1), 287))))) (.branch 77 (.branch 73 (.leaf (72, (.dup, 73, 0), 0)) (.branch 76 (.leaf (73, (.invokespecial 24, 76, 7), 289)) (.leaf (76, (.aastore, 77, 0), 0)))) (.branch 80 (.leaf (77, (.iinc 2 1, 80, 0), 0)) (.branch 83 (.leaf (80, (.goto (-22), 83, 58), 0)) (.leaf (83, (.return_, 84, 0), 0))))))
/-- DeckBench$SmallNets.<init>(LDeckBench$Dealer;)V -/
def mt_74 : Lean.RArray mLf :=
  .branch 46 (mt_74_0) (mt_74_1)
set_option maxRecDepth 100000 in
def mt_75_0 : Lean.RArray mLf :=
  .branch 18 (.branch 7 (.branch 2 (.branch 1 (.leaf (0, (.iconst 3, 1, 0), 0)) (.leaf (1, (.istore_n 1, 2, 0), 0))) (.branch 3 (.leaf (2, (.iload_n 1, 3, 0), 0)) (.branch 4 (.leaf (3, (.iconst 5, 4, 0), 0)) (.leaf (4, (.if_icmp .gt 69, 7, 73), 0))))) (.branch 11 (.branch 8 (.leaf (7, (.aload_n 0, 8, 0), 0)) (.leaf (8, (.getfield 36, 11, 705), 319))) (.branch 14 (.leaf (11, (.ifCond .ne 62, 14, 73), 0)) (.branch 17 (.leaf (14, (.getstatic 44, 17, 0), 900)) (.leaf (17, (.iload_n 1, 18, 0), 0)))))) (.branch 25 (.branch 20 (.branch 19 (.leaf (18, (.iaload, 19, 0), 0)) (.leaf (19, (.istore_n 2, 20, 0), 0))) (.branch 21 (.leaf (20, (.iload_n 2, 21, 0), 0)) (.branch 24 (.leaf (21, (.getstatic 44, 24, 0), 900)) (.leaf (24, (.iload_n 1, 25, 0), 0))))) (.branch 28 (.branch 26 (.leaf (25, (.iconst 1, 26, 0), 0)) (.branch 27 (.leaf (26, (.iadd, 27, 0), 0)) (.leaf (27, (.iaload, 28, 0), 0)))) (.branch 31 (.leaf (28, (.if_icmp .ge 39, 31, 67), 0)) (.branch 32 (.leaf (31, (.aload_n 0, 32, 0), 0)) (.leaf (32, (.getfield 12, 35, 701), 315))))))
set_option maxRecDepth 100000 in
def mt_75_1 : Lean.RArray mLf :=
  .branch 56 (.branch 44 (.branch 39 (.branch 36 (.leaf (35, (.iload_n 1, 36, 0), 0)) (.leaf (36, (.getstatic 48, 39, 1), 902))) (.branch 40 (.leaf (39, (.iload_n 2, 40, 0), 0)) (.branch 41 (.leaf (40, (.iaload, 41, 0), 0)) (.leaf (41, (.invokevirtual 51, 44, 56), 904))))) (.branch 49 (.branch 45 (.leaf (44, (.aload_n 0, 45, 0), 0)) (.branch 48 (.leaf (45, (.getfield 40, 48, 700), 314)) (.leaf (48, (.aload_n 0, 49, 0), 0)))) (.branch 52 (.leaf (49, (.getfield 12, 52, 701), 315)) (.branch 53 (.leaf (52, (.aload_n 0, 53, 0), 0)) (.leaf (53, (.getfield 20, 56, 702), 316)))))) (.branch 67 (.branch 58 (.branch 57 (.leaf (56, (.iload_n 2, 57, 0), 0)) (.leaf (57, (.aaload, 58, 0), 0))) (.branch 61 (.leaf (58, (.invokevirtual 55, 61, 4), 905)) (.branch 64 (.leaf (61, (.iinc 2 1, 64, 0), 0)) (.leaf (64, (.goto (-44), 67, 20), 0))))) (.branch 74 (.branch 70 (.leaf (67, (.iinc 1 1, 70, 0), 0)) (.branch 73 (.leaf (70, (.goto (-68), 73, 2), 0)) (.leaf (73, (.aload_n 0, 74, 0), 0)))) (.branch 75 (.leaf (74, (.iconst 1, 75, 0), 0)) (.branch 78 (.leaf (75, (.putfield 36, 78, 705), 319)) (.leaf (78, (.return_, 79, 0), 0))))))
/-- DeckBench$SmallNets.dealAll()V -/
def mt_75 : Lean.RArray mLf :=
  .branch 35 (mt_75_0) (mt_75_1)
set_option maxRecDepth 100000 in
/-- DeckBench$SmallNets.howManyOf(I)I -/
def mt_76 : Lean.RArray mLf :=
  .branch 14 (.branch 6 (.branch 4 (.branch 1 (.leaf (0, (.iload_n 1, 1, 0), 0)) (.leaf (1, (.ifCond .lt 24, 4, 25), 0))) (.branch 5 (.leaf (4, (.iload_n 1, 5, 0), 0)) (.leaf (5, (.iconst 5, 6, 0), 0)))) (.branch 12 (.branch 9 (.leaf (6, (.if_icmp .gt 19, 9, 25), 0)) (.leaf (9, (.getstatic 44, 12, 0), 900))) (.branch 13 (.leaf (12, (.iload_n 1, 13, 0), 0)) (.leaf (13, (.iconst 1, 14, 0), 0))))) (.branch 20 (.branch 16 (.branch 15 (.leaf (14, (.iadd, 15, 0), 0)) (.leaf (15, (.iaload, 16, 0), 0))) (.branch 19 (.leaf (16, (.getstatic 44, 19, 0), 900)) (.leaf (19, (.iload_n 1, 20, 0), 0)))) (.branch 22 (.branch 21 (.leaf (20, (.iaload, 21, 0), 0)) (.leaf (21, (.isub, 22, 0), 0))) (.branch 25 (.leaf (22, (.goto 4, 25, 26), 0)) (.branch 26 (.leaf (25, (.iconst 0, 26, 0), 0)) (.leaf (26, (.ireturn, 27, 0), 0))))))
set_option maxRecDepth 100000 in
/-- DeckBench$SmallNets.askFor(II)V -/
def mt_77 : Lean.RArray mLf :=
  .branch 21 (.branch 10 (.branch 5 (.branch 3 (.leaf (0, (.getstatic 44, 3, 0), 900)) (.branch 4 (.leaf (3, (.iload_n 1, 4, 0), 0)) (.leaf (4, (.iaload, 5, 0), 0)))) (.branch 6 (.leaf (5, (.istore_n 3, 6, 0), 0)) (.branch 7 (.leaf (6, (.iload_n 3, 7, 0), 0)) (.leaf (7, (.getstatic 44, 10, 0), 900))))) (.branch 13 (.branch 11 (.leaf (10, (.iload_n 1, 11, 0), 0)) (.branch 12 (.leaf (11, (.iconst 1, 12, 0), 0)) (.leaf (12, (.iadd, 13, 0), 0)))) (.branch 17 (.branch 14 (.leaf (13, (.iaload, 14, 0), 0)) (.leaf (14, (.if_icmp .ge 31, 17, 45), 0))) (.branch 20 (.leaf (17, (.getstatic 48, 20, 1), 902)) (.leaf (20, (.iload_n 3, 21, 0), 0)))))) (.branch 31 (.branch 26 (.branch 22 (.leaf (21, (.iaload, 22, 0), 0)) (.branch 23 (.leaf (22, (.iload_n 2, 23, 0), 0)) (.leaf (23, (.if_icmp .ne 16, 26, 39), 0)))) (.branch 27 (.leaf (26, (.aload_n 0, 27, 0), 0)) (.branch 30 (.leaf (27, (.getfield 25, 30, 703), 317)) (.leaf (30, (.aload_n 0, 31, 0), 0))))) (.branch 36 (.branch 34 (.leaf (31, (.getfield 20, 34, 702), 316)) (.branch 35 (.leaf (34, (.iload_n 3, 35, 0), 0)) (.leaf (35, (.aaload, 36, 0), 0)))) (.branch 42 (.branch 39 (.leaf (36, (.invokevirtual 61, 39, 8), 914)) (.leaf (39, (.iinc 3 1, 42, 0), 0))) (.branch 45 (.leaf (42, (.goto (-36), 45, 6), 0)) (.leaf (45, (.return_, 46, 0), 0))))))
set_option maxRecDepth 100000 in
/-- DeckBench$SmallNets.fewestTelling(II)I -/
def mt_78 : Lean.RArray mLf :=
  .branch 24 (.branch 9 (.branch 3 (.branch 1 (.leaf (0, (.aload_n 0, 1, 0), 0)) (.branch 2 (.leaf (1, (.iload_n 1, 2, 0), 0)) (.leaf (2, (.iload_n 2, 3, 0), 0)))) (.branch 7 (.branch 6 (.leaf (3, (.invokevirtual 65, 6, 77), 910)) (.leaf (6, (.iload_n 1, 7, 0), 0))) (.branch 8 (.leaf (7, (.istore_n 3, 8, 0), 0)) (.leaf (8, (.iconst 1, 9, 0), 0))))) (.branch 15 (.branch 13 (.branch 11 (.leaf (9, (.istore 4, 11, 0), 0)) (.leaf (11, (.iload 4, 13, 0), 0))) (.branch 14 (.leaf (13, (.iconst 1, 14, 0), 0)) (.leaf (14, (.iload_n 1, 15, 0), 0)))) (.branch 19 (.branch 16 (.leaf (15, (.ishl, 16, 0), 0)) (.leaf (16, (.if_icmp .ge 36, 19, 52), 0))) (.branch 21 (.leaf (19, (.iload 4, 21, 0), 0)) (.leaf (21, (.invokestatic 68, 24, 255), 915)))))) (.branch 37 (.branch 32 (.branch 28 (.branch 26 (.leaf (24, (.istore 5, 26, 0), 0)) (.leaf (26, (.iload 5, 28, 0), 0))) (.branch 29 (.leaf (28, (.iload_n 3, 29, 0), 0)) (.leaf (29, (.if_icmp .ge 17, 32, 46), 0)))) (.branch 34 (.branch 33 (.leaf (32, (.aload_n 0, 33, 0), 0)) (.leaf (33, (.iload_n 1, 34, 0), 0))) (.branch 35 (.leaf (34, (.iload_n 2, 35, 0), 0)) (.leaf (35, (.iload 4, 37, 0), 0))))) (.branch 46 (.branch 43 (.branch 40 (.leaf (37, (.invokevirtual 74, 40, 79), 916)) (.leaf (40, (.ifCond .ne 6, 43, 46), 0))) (.branch 45 (.leaf (43, (.iload 5, 45, 0), 0)) (.leaf (45, (.istore_n 3, 46, 0), 0)))) (.branch 52 (.branch 49 (.leaf (46, (.iinc 4 1, 49, 0), 0)) (.leaf (49, (.goto (-38), 52, 11), 0))) (.branch 53 (.leaf (52, (.iload_n 3, 53, 0), 0)) (.leaf (53, (.ireturn, 54, 0), 0))))))
set_option maxRecDepth 100000 in
/-- DeckBench$SmallNets.isInAnother(III)Z -/
def mt_79 : Lean.RArray mLf :=
  .branch 26 (.branch 13 (.branch 5 (.branch 3 (.leaf (0, (.getstatic 44, 3, 0), 900)) (.branch 4 (.leaf (3, (.iload_n 1, 4, 0), 0)) (.leaf (4, (.iaload, 5, 0), 0)))) (.branch 9 (.branch 7 (.leaf (5, (.istore 4, 7, 0), 0)) (.leaf (7, (.iload 4, 9, 0), 0))) (.branch 12 (.leaf (9, (.getstatic 44, 12, 0), 900)) (.leaf (12, (.iload_n 1, 13, 0), 0))))) (.branch 19 (.branch 15 (.branch 14 (.leaf (13, (.iconst 1, 14, 0), 0)) (.leaf (14, (.iadd, 15, 0), 0))) (.branch 16 (.leaf (15, (.iaload, 16, 0), 0)) (.leaf (16, (.if_icmp .ge 36, 19, 52), 0)))) (.branch 24 (.branch 22 (.leaf (19, (.getstatic 48, 22, 1), 902)) (.leaf (22, (.iload 4, 24, 0), 0))) (.branch 25 (.leaf (24, (.iaload, 25, 0), 0)) (.leaf (25, (.iload_n 2, 26, 0), 0)))))) (.branch 38 (.branch 31 (.branch 29 (.leaf (26, (.if_icmp .eq 20, 29, 46), 0)) (.branch 30 (.leaf (29, (.aload_n 0, 30, 0), 0)) (.leaf (30, (.aload_n 0, 31, 0), 0)))) (.branch 36 (.branch 34 (.leaf (31, (.getfield 20, 34, 702), 316)) (.leaf (34, (.iload 4, 36, 0), 0))) (.branch 37 (.leaf (36, (.aaload, 37, 0), 0)) (.leaf (37, (.iload_n 3, 38, 0), 0))))) (.branch 46 (.branch 44 (.branch 41 (.leaf (38, (.invokevirtual 78, 41, 80), 920)) (.leaf (41, (.ifCond .eq 5, 44, 46), 0))) (.branch 45 (.leaf (44, (.iconst 1, 45, 0), 0)) (.leaf (45, (.ireturn, 46, 0), 0)))) (.branch 52 (.branch 49 (.leaf (46, (.iinc 4 1, 49, 0), 0)) (.leaf (49, (.goto (-42), 52, 7), 0))) (.branch 53 (.leaf (52, (.iconst 0, 53, 0), 0)) (.leaf (53, (.ireturn, 54, 0), 0))))))
set_option maxRecDepth 100000 in
def mt_80_0 : Lean.RArray mLf :=
  .branch 22 (.branch 8 (.branch 3 (.branch 1 (.leaf (0, (.iconst 0, 1, 0), 0)) (.branch 2 (.leaf (1, (.istore_n 3, 2, 0), 0)) (.leaf (2, (.iconst 0, 3, 0), 0)))) (.branch 5 (.leaf (3, (.istore 4, 5, 0), 0)) (.branch 7 (.leaf (5, (.iload 4, 7, 0), 0)) (.leaf (7, (.aload_n 0, 8, 0), 0))))) (.branch 17 (.branch 11 (.leaf (8, (.getfield 25, 11, 703), 317)) (.branch 14 (.leaf (11, (.getfield 82, 14, 100), 298)) (.leaf (14, (.if_icmp .ge 83, 17, 97), 0)))) (.branch 20 (.branch 18 (.leaf (17, (.iload_n 2, 18, 0), 0)) (.leaf (18, (.iload 4, 20, 0), 0))) (.branch 21 (.leaf (20, (.ishr, 21, 0), 0)) (.leaf (21, (.iconst 1, 22, 0), 0)))))) (.branch 34 (.branch 27 (.branch 23 (.leaf (22, (.iand, 23, 0), 0)) (.branch 26 (.leaf (23, (.ifCond .eq 68, 26, 91), 0)) (.leaf (26, (.iload_n 3, 27, 0), 0)))) (.branch 28 (.leaf (27, (.aload_n 1, 28, 0), 0)) (.branch 31 (.leaf (28, (.getfield 82, 31, 100), 298)) (.leaf (31, (.if_icmp .ge 28, 34, 59), 0))))) (.branch 39 (.branch 35 (.leaf (34, (.aload_n 1, 35, 0), 0)) (.branch 38 (.leaf (35, (.getfield 86, 38, 101), 305)) (.leaf (38, (.iload_n 3, 39, 0), 0)))) (.branch 41 (.branch 40 (.leaf (39, (.iaload, 40, 0), 0)) (.leaf (40, (.aload_n 0, 41, 0), 0))) (.branch 44 (.leaf (41, (.getfield 25, 44, 703), 317)) (.leaf (44, (.getfield 86, 47, 101), 305))))))
set_option maxRecDepth 100000 in
def mt_80_1 : Lean.RArray mLf :=
  .branch 73 (.branch 60 (.branch 53 (.branch 49 (.leaf (47, (.iload 4, 49, 0), 0)) (.branch 50 (.leaf (49, (.iaload, 50, 0), 0)) (.leaf (50, (.if_icmp .ge 9, 53, 59), 0)))) (.branch 56 (.leaf (53, (.iinc 3 1, 56, 0), 0)) (.branch 59 (.leaf (56, (.goto (-30), 59, 26), 0)) (.leaf (59, (.iload_n 3, 60, 0), 0))))) (.branch 67 (.branch 61 (.leaf (60, (.aload_n 1, 61, 0), 0)) (.branch 64 (.leaf (61, (.getfield 82, 64, 100), 298)) (.leaf (64, (.if_icmp .ge 22, 67, 86), 0)))) (.branch 71 (.branch 68 (.leaf (67, (.aload_n 1, 68, 0), 0)) (.leaf (68, (.getfield 86, 71, 101), 305))) (.branch 72 (.leaf (71, (.iload_n 3, 72, 0), 0)) (.leaf (72, (.iaload, 73, 0), 0)))))) (.branch 86 (.branch 80 (.branch 74 (.leaf (73, (.aload_n 0, 74, 0), 0)) (.branch 77 (.leaf (74, (.getfield 25, 77, 703), 317)) (.leaf (77, (.getfield 86, 80, 101), 305)))) (.branch 82 (.leaf (80, (.iload 4, 82, 0), 0)) (.branch 83 (.leaf (82, (.iaload, 83, 0), 0)) (.leaf (83, (.if_icmp .eq 5, 86, 88), 0))))) (.branch 91 (.branch 87 (.leaf (86, (.iconst 0, 87, 0), 0)) (.branch 88 (.leaf (87, (.ireturn, 88, 0), 0)) (.leaf (88, (.iinc 3 1, 91, 0), 0)))) (.branch 97 (.branch 94 (.leaf (91, (.iinc 4 1, 94, 0), 0)) (.leaf (94, (.goto (-89), 97, 5), 0))) (.branch 98 (.leaf (97, (.iconst 1, 98, 0), 0)) (.leaf (98, (.ireturn, 99, 0), 0))))))
/-- DeckBench$SmallNets.hasChosen(LDeckBench$Deck;I)Z -/
def mt_80 : Lean.RArray mLf :=
  .branch 47 (mt_80_0) (mt_80_1)
set_option maxRecDepth 100000 in
/-- DeckBench$SmallNets.surelyTelling(II)I -/
def mt_81 : Lean.RArray mLf :=
  .branch 32 (.branch 13 (.branch 6 (.branch 2 (.branch 1 (.leaf (0, (.aload_n 0, 1, 0), 0)) (.leaf (1, (.iload_n 1, 2, 0), 0))) (.branch 3 (.leaf (2, (.iload_n 2, 3, 0), 0)) (.leaf (3, (.invokevirtual 65, 6, 77), 910)))) (.branch 8 (.branch 7 (.leaf (6, (.iconst 0, 7, 0), 0)) (.leaf (7, (.istore_n 3, 8, 0), 0))) (.branch 11 (.leaf (8, (.getstatic 44, 11, 0), 900)) (.branch 12 (.leaf (11, (.iload_n 1, 12, 0), 0)) (.leaf (12, (.iaload, 13, 0), 0)))))) (.branch 22 (.branch 17 (.branch 15 (.leaf (13, (.istore 4, 15, 0), 0)) (.leaf (15, (.iload 4, 17, 0), 0))) (.branch 20 (.leaf (17, (.getstatic 44, 20, 0), 900)) (.branch 21 (.leaf (20, (.iload_n 1, 21, 0), 0)) (.leaf (21, (.iconst 1, 22, 0), 0))))) (.branch 24 (.branch 23 (.leaf (22, (.iadd, 23, 0), 0)) (.leaf (23, (.iaload, 24, 0), 0))) (.branch 27 (.leaf (24, (.if_icmp .ge 38, 27, 62), 0)) (.branch 30 (.leaf (27, (.getstatic 48, 30, 1), 902)) (.leaf (30, (.iload 4, 32, 0), 0))))))) (.branch 48 (.branch 38 (.branch 34 (.branch 33 (.leaf (32, (.iaload, 33, 0), 0)) (.leaf (33, (.iload_n 2, 34, 0), 0))) (.branch 37 (.leaf (34, (.if_icmp .eq 22, 37, 56), 0)) (.leaf (37, (.iload_n 3, 38, 0), 0)))) (.branch 42 (.branch 39 (.leaf (38, (.aload_n 0, 39, 0), 0)) (.leaf (39, (.getfield 25, 42, 703), 317))) (.branch 43 (.leaf (42, (.aload_n 0, 43, 0), 0)) (.branch 46 (.leaf (43, (.getfield 20, 46, 702), 316)) (.leaf (46, (.iload 4, 48, 0), 0)))))) (.branch 59 (.branch 52 (.branch 49 (.leaf (48, (.aaload, 49, 0), 0)) (.leaf (49, (.invokevirtual 89, 52, 15), 928))) (.branch 55 (.leaf (52, (.invokestatic 93, 55, 902), 932)) (.branch 56 (.leaf (55, (.istore_n 3, 56, 0), 0)) (.leaf (56, (.iinc 4 1, 59, 0), 0))))) (.branch 63 (.branch 62 (.leaf (59, (.goto (-44), 62, 15), 0)) (.leaf (62, (.iload_n 3, 63, 0), 0))) (.branch 64 (.leaf (63, (.iconst 1, 64, 0), 0)) (.branch 65 (.leaf (64, (.iadd, 65, 0), 0)) (.leaf (65, (.ireturn, 66, 0), 0)))))))
set_option maxRecDepth 100000 in
def mt_82_0 : Lean.RArray mLf :=
  .branch 33 (.branch 14 (.branch 6 (.branch 4 (.branch 1 (.leaf (0, (.aload_n 0, 1, 0), 0)) (.leaf (1, (.getfield 12, 4, 701), 315))) (.branch 5 (.leaf (4, (.iload_n 1, 5, 0), 0)) (.leaf (5, (.iload_n 2, 6, 0), 0)))) (.branch 10 (.branch 9 (.leaf (6, (.invokevirtual 51, 9, 56), 904)) (.leaf (9, (.aload_n 0, 10, 0), 0))) (.branch 13 (.leaf (10, (.getfield 32, 13, 704), 318)) (.leaf (13, (.aload_n 0, 14, 0), 0))))) (.branch 24 (.branch 18 (.branch 17 (.leaf (14, (.getfield 40, 17, 700), 314)) (.leaf (17, (.aload_n 0, 18, 0), 0))) (.branch 21 (.leaf (18, (.getfield 12, 21, 701), 315)) (.leaf (21, (.invokevirtual 99, 24, 5), 941)))) (.branch 28 (.branch 27 (.leaf (24, (.invokevirtual 103, 27, 52), 961)) (.leaf (27, (.iconst 0, 28, 0), 0))) (.branch 29 (.leaf (28, (.istore_n 3, 29, 0), 0)) (.branch 32 (.leaf (29, (.getstatic 44, 32, 0), 900)) (.leaf (32, (.iload_n 1, 33, 0), 0))))))) (.branch 48 (.branch 41 (.branch 36 (.branch 34 (.leaf (33, (.iaload, 34, 0), 0)) (.leaf (34, (.istore 4, 36, 0), 0))) (.branch 38 (.leaf (36, (.iload 4, 38, 0), 0)) (.leaf (38, (.getstatic 44, 41, 0), 900)))) (.branch 43 (.branch 42 (.leaf (41, (.iload_n 1, 42, 0), 0)) (.leaf (42, (.iconst 1, 43, 0), 0))) (.branch 44 (.leaf (43, (.iadd, 44, 0), 0)) (.branch 45 (.leaf (44, (.iaload, 45, 0), 0)) (.leaf (45, (.if_icmp .ge 93, 48, 138), 0)))))) (.branch 55 (.branch 53 (.branch 51 (.leaf (48, (.getstatic 48, 51, 1), 902)) (.leaf (51, (.iload 4, 53, 0), 0))) (.branch 54 (.leaf (53, (.iaload, 54, 0), 0)) (.leaf (54, (.iload_n 2, 55, 0), 0)))) (.branch 61 (.branch 58 (.leaf (55, (.if_icmp .eq 26, 58, 81), 0)) (.leaf (58, (.getstatic 48, 61, 1), 902))) (.branch 63 (.leaf (61, (.iload 4, 63, 0), 0)) (.branch 64 (.leaf (63, (.iaload, 64, 0), 0)) (.leaf (64, (.invokestatic 68, 67, 255), 915)))))))
set_option maxRecDepth 100000 in
def mt_82_1 : Lean.RArray mLf :=
  .branch 104 (.branch 86 (.branch 77 (.branch 71 (.branch 68 (.leaf (67, (.aload_n 0, 68, 0), 0)) (.leaf (68, (.getfield 32, 71, 704), 318))) (.branch 74 (.leaf (71, (.getfield 106, 74, 500), 226)) (.leaf (74, (.if_icmp .ne 7, 77, 81), 0)))) (.branch 81 (.branch 78 (.leaf (77, (.iconst 1, 78, 0), 0)) (.leaf (78, (.goto 4, 81, 82), 0))) (.branch 82 (.leaf (81, (.iconst 0, 82, 0), 0)) (.branch 84 (.leaf (82, (.istore 5, 84, 0), 0)) (.leaf (84, (.iload 5, 86, 0), 0)))))) (.branch 94 (.branch 90 (.branch 89 (.leaf (86, (.ifCond .eq 46, 89, 132), 0)) (.leaf (89, (.aload_n 0, 90, 0), 0))) (.branch 93 (.leaf (90, (.getfield 12, 93, 701), 315)) (.leaf (93, (.iload_n 1, 94, 0), 0)))) (.branch 99 (.branch 97 (.leaf (94, (.getstatic 48, 97, 1), 902)) (.leaf (97, (.iload 4, 99, 0), 0))) (.branch 100 (.leaf (99, (.iaload, 100, 0), 0)) (.branch 103 (.leaf (100, (.invokevirtual 51, 103, 56), 904)) (.leaf (103, (.iload_n 3, 104, 0), 0))))))) (.branch 125 (.branch 112 (.branch 108 (.branch 105 (.leaf (104, (.aload_n 0, 105, 0), 0)) (.leaf (105, (.getfield 40, 108, 700), 314))) (.branch 109 (.leaf (108, (.aload_n 0, 109, 0), 0)) (.leaf (109, (.getfield 12, 112, 701), 315)))) (.branch 116 (.branch 115 (.leaf (112, (.invokevirtual 99, 115, 5), 941)) (.leaf (115, (.aload_n 0, 116, 0), 0))) (.branch 119 (.leaf (116, (.getfield 32, 119, 704), 318)) (.branch 122 (.leaf (119, (.invokevirtual 107, 122, 53), 966)) (.leaf (122, (.ifCond .eq 7, 125, 129), 0)))))) (.branch 131 (.branch 129 (.branch 126 (.leaf (125, (.iconst 1, 126, 0), 0)) (.leaf (126, (.goto 4, 129, 130), 0))) (.branch 130 (.leaf (129, (.iconst 0, 130, 0), 0)) (.leaf (130, (.iadd, 131, 0), 0)))) (.branch 135 (.branch 132 (.leaf (131, (.istore_n 3, 132, 0), 0)) (.leaf (132, (.iinc 4 1, 135, 0), 0))) (.branch 138 (.leaf (135, (.goto (-99), 138, 36), 0)) (.branch 139 (.leaf (138, (.iload_n 3, 139, 0), 0)) (.leaf (139, (.ireturn, 140, 0), 0)))))))
/-- DeckBench$SmallNets.rivalsOf(II)I -/
def mt_82 : Lean.RArray mLf :=
  .branch 67 (mt_82_0) (mt_82_1)
set_option maxRecDepth 100000 in
def mt_83_0 : Lean.RArray mLf :=
  .branch 17 (.branch 9 (.branch 4 (.branch 1 (.leaf (0, (.aload_n 0, 1, 0), 0)) (.leaf (1, (.getfield 25, 4, 703), 317))) (.branch 5 (.leaf (4, (.aload_n 1, 5, 0), 0)) (.branch 8 (.leaf (5, (.invokevirtual 61, 8, 8), 914)) (.leaf (8, (.aload_n 1, 9, 0), 0))))) (.branch 14 (.branch 12 (.leaf (9, (.getfield 82, 12, 100), 298)) (.branch 13 (.leaf (12, (.istore_n 3, 13, 0), 0)) (.leaf (13, (.iconst 1, 14, 0), 0)))) (.branch 15 (.leaf (14, (.iload_n 3, 15, 0), 0)) (.branch 16 (.leaf (15, (.ishl, 16, 0), 0)) (.leaf (16, (.iconst 1, 17, 0), 0)))))) (.branch 22 (.branch 19 (.branch 18 (.leaf (17, (.isub, 18, 0), 0)) (.leaf (18, (.iconst 1, 19, 0), 0))) (.branch 20 (.leaf (19, (.iload_n 2, 20, 0), 0)) (.branch 21 (.leaf (20, (.ishl, 21, 0), 0)) (.leaf (21, (.iconst (-1), 22, 0), 0))))) (.branch 26 (.branch 23 (.leaf (22, (.ixor, 23, 0), 0)) (.branch 24 (.leaf (23, (.iand, 24, 0), 0)) (.leaf (24, (.istore 4, 26, 0), 0)))) (.branch 27 (.leaf (26, (.iconst 0, 27, 0), 0)) (.branch 29 (.leaf (27, (.istore 5, 29, 0), 0)) (.leaf (29, (.getstatic 44, 32, 0), 900))))))
set_option maxRecDepth 100000 in
def mt_83_1 : Lean.RArray mLf :=
  .branch 49 (.branch 41 (.branch 34 (.branch 33 (.leaf (32, (.iload_n 3, 33, 0), 0)) (.leaf (33, (.iaload, 34, 0), 0))) (.branch 36 (.leaf (34, (.istore 6, 36, 0), 0)) (.branch 38 (.leaf (36, (.iload 6, 38, 0), 0)) (.leaf (38, (.getstatic 44, 41, 0), 900))))) (.branch 44 (.branch 42 (.leaf (41, (.iload_n 3, 42, 0), 0)) (.branch 43 (.leaf (42, (.iconst 1, 43, 0), 0)) (.leaf (43, (.iadd, 44, 0), 0)))) (.branch 45 (.leaf (44, (.iaload, 45, 0), 0)) (.branch 48 (.leaf (45, (.if_icmp .ge 28, 48, 73), 0)) (.leaf (48, (.aload_n 0, 49, 0), 0)))))) (.branch 61 (.branch 55 (.branch 50 (.leaf (49, (.aload_n 0, 50, 0), 0)) (.branch 53 (.leaf (50, (.getfield 20, 53, 702), 316)) (.leaf (53, (.iload 6, 55, 0), 0)))) (.branch 56 (.leaf (55, (.aaload, 56, 0), 0)) (.branch 58 (.leaf (56, (.iload 4, 58, 0), 0)) (.leaf (58, (.invokevirtual 78, 61, 80), 920))))) (.branch 70 (.branch 64 (.leaf (61, (.ifCond .eq 6, 64, 67), 0)) (.branch 67 (.leaf (64, (.iinc 5 1, 67, 0), 0)) (.leaf (67, (.iinc 6 1, 70, 0), 0)))) (.branch 73 (.leaf (70, (.goto (-34), 73, 36), 0)) (.branch 75 (.leaf (73, (.iload 5, 75, 0), 0)) (.leaf (75, (.ireturn, 76, 0), 0))))))
/-- DeckBench$SmallNets.decksWithAllBut(LDeckBench$Deck;I)I -/
def mt_83 : Lean.RArray mLf :=
  .branch 32 (mt_83_0) (mt_83_1)
set_option maxRecDepth 100000 in
/-- DeckBench$Solver.<init>(LDeckBench$Dealer;LDeckBench$Figures;)V -/
def mt_84 : Lean.RArray mLf :=
  .branch 35 (.branch 16 (.branch 8 (.branch 4 (.branch 1 (.leaf (0, (.aload_n 0, 1, 0), 0)) (.leaf (1, (.invokespecial 3, 4, 900), 250))) (.branch 5 (.leaf (4, (.aload_n 0, 5, 0), 0)) (.leaf (5, (.new 9, 8, 6), 251)))) (.branch 12 (.branch 9 (.leaf (8, (.dup, 9, 0), 0)) (.leaf (9, (.invokespecial 11, 12, 54), 252))) (.branch 15 (.leaf (12, (.putfield 12, 15, 802), 255)) (.leaf (15, (.aload_n 0, 16, 0), 0))))) (.branch 26 (.branch 20 (.branch 19 (.leaf (16, (.new 9, 19, 6), 251)) (.leaf (19, (.dup, 20, 0), 0))) (.branch 23 (.leaf (20, (.invokespecial 11, 23, 54), 252)) (.leaf (23, (.putfield 18, 26, 803), 256)))) (.branch 29 (.branch 27 (.leaf (26, (.aload_n 0, 27, 0), 0)) (.leaf (27, (.bipush 7, 29, 0), 0))) (.branch 31 (.leaf (29, (.newarray .int, 31, 0), 0)) (.branch 34 (.leaf (31, (.putfield 21, 34, 804), 257)) (.leaf (34, (.aload_n 0, 35, 0), 0))))))) (.branch 50 (.branch 42 (.branch 38 (.branch 36 (.leaf (35, (.iconst 4, 36, 0), 0)) (.leaf (36, (.newarray .int, 38, 0), 0))) (.branch 41 (.leaf (38, (.putfield 25, 41, 805), 258)) (.leaf (41, (.aload_n 0, 42, 0), 0)))) (.branch 46 (.branch 44 (.leaf (42, (.bipush 64, 44, 0), 0)) (.leaf (44, (.newarray .int, 46, 0), 0))) (.branch 49 (.leaf (46, (.putfield 28, 49, 806), 259)) (.leaf (49, (.aload_n 0, 50, 0), 0))))) (.branch 56 (.branch 54 (.branch 51 (.leaf (50, (.iconst 0, 51, 0), 0)) (.leaf (51, (.putfield 31, 54, 807), 261))) (.branch 55 (.leaf (54, (.aload_n 0, 55, 0), 0)) (.leaf (55, (.aload_n 1, 56, 0), 0)))) (.branch 60 (.branch 59 (.leaf (56, (.putfield 35, 59, 800), 253)) (.leaf (59, (.aload_n 0, 60, 0), 0))) (.branch 61 (.leaf (60, (.aload_n 2, 61, 0), 0)) (.branch 64 (.leaf (61, (.putfield 39, 64, 801), 254)) (.leaf (64, (.return_, 65, 0), 0)))))))
set_option maxRecDepth 100000 in
/-- DeckBench$Solver.cardsOfOnePiece(LDeckBench$Deck;)I -/
def mt_85 : Lean.RArray mLf :=
  .branch 22 (.branch 9 (.branch 3 (.branch 1 (.leaf (0, (.iconst 0, 1, 0), 0)) (.branch 2 (.leaf (1, (.istore_n 2, 2, 0), 0)) (.leaf (2, (.iconst 0, 3, 0), 0)))) (.branch 5 (.branch 4 (.leaf (3, (.istore_n 3, 4, 0), 0)) (.leaf (4, (.iload_n 3, 5, 0), 0))) (.branch 6 (.leaf (5, (.aload_n 1, 6, 0), 0)) (.leaf (6, (.getfield 43, 9, 100), 294))))) (.branch 16 (.branch 12 (.leaf (9, (.if_icmp .ge 42, 12, 51), 0)) (.branch 13 (.leaf (12, (.aload_n 0, 13, 0), 0)) (.leaf (13, (.getfield 12, 16, 802), 255)))) (.branch 20 (.branch 17 (.leaf (16, (.aload_n 1, 17, 0), 0)) (.leaf (17, (.getfield 43, 20, 100), 294))) (.branch 21 (.leaf (20, (.iconst 1, 21, 0), 0)) (.leaf (21, (.isub, 22, 0), 0)))))) (.branch 35 (.branch 27 (.branch 23 (.leaf (22, (.aload_n 1, 23, 0), 0)) (.branch 26 (.leaf (23, (.getfield 48, 26, 101), 301)) (.leaf (26, (.iload_n 3, 27, 0), 0)))) (.branch 31 (.branch 28 (.leaf (27, (.iaload, 28, 0), 0)) (.leaf (28, (.invokevirtual 51, 31, 56), 783))) (.branch 32 (.leaf (31, (.aload_n 0, 32, 0), 0)) (.leaf (32, (.getfield 12, 35, 802), 255))))) (.branch 45 (.branch 39 (.branch 38 (.leaf (35, (.invokevirtual 55, 38, 72), 1074)) (.leaf (38, (.iconst 1, 39, 0), 0))) (.branch 42 (.leaf (39, (.if_icmp .ne 6, 42, 45), 0)) (.leaf (42, (.iinc 2 1, 45, 0), 0)))) (.branch 51 (.branch 48 (.leaf (45, (.iinc 3 1, 48, 0), 0)) (.leaf (48, (.goto (-44), 51, 4), 0))) (.branch 52 (.leaf (51, (.iload_n 2, 52, 0), 0)) (.leaf (52, (.ireturn, 53, 0), 0))))))
set_option maxRecDepth 100000 in
/-- DeckBench$Solver.coefficientsAdded(LDeckBench$Deck;I)I -/
def mt_86 : Lean.RArray mLf :=
  .branch 28 (.branch 14 (.branch 5 (.branch 2 (.branch 1 (.leaf (0, (.iconst 0, 1, 0), 0)) (.leaf (1, (.istore_n 3, 2, 0), 0))) (.branch 3 (.leaf (2, (.iconst 0, 3, 0), 0)) (.leaf (3, (.istore 4, 5, 0), 0)))) (.branch 8 (.branch 7 (.leaf (5, (.iload 4, 7, 0), 0)) (.leaf (7, (.aload_n 1, 8, 0), 0))) (.branch 11 (.leaf (8, (.getfield 43, 11, 100), 294)) (.leaf (11, (.if_icmp .ge 44, 14, 55), 0))))) (.branch 22 (.branch 18 (.branch 15 (.leaf (14, (.aload_n 0, 15, 0), 0)) (.leaf (15, (.getfield 12, 18, 802), 255))) (.branch 19 (.leaf (18, (.aload_n 1, 19, 0), 0)) (.leaf (19, (.getfield 43, 22, 100), 294)))) (.branch 24 (.branch 23 (.leaf (22, (.iconst 1, 23, 0), 0)) (.leaf (23, (.isub, 24, 0), 0))) (.branch 25 (.leaf (24, (.aload_n 1, 25, 0), 0)) (.leaf (25, (.getfield 48, 28, 101), 301)))))) (.branch 43 (.branch 35 (.branch 31 (.branch 30 (.leaf (28, (.iload 4, 30, 0), 0)) (.leaf (30, (.iaload, 31, 0), 0))) (.branch 34 (.leaf (31, (.invokevirtual 51, 34, 56), 783)) (.leaf (34, (.iload_n 3, 35, 0), 0)))) (.branch 39 (.branch 36 (.leaf (35, (.aload_n 0, 36, 0), 0)) (.leaf (36, (.getfield 39, 39, 801), 254))) (.branch 40 (.leaf (39, (.aload_n 0, 40, 0), 0)) (.leaf (40, (.getfield 12, 43, 802), 255))))) (.branch 49 (.branch 47 (.branch 44 (.leaf (43, (.iload_n 2, 44, 0), 0)) (.leaf (44, (.invokevirtual 59, 47, 29), 1108))) (.branch 48 (.leaf (47, (.iadd, 48, 0), 0)) (.leaf (48, (.istore_n 3, 49, 0), 0)))) (.branch 55 (.branch 52 (.leaf (49, (.iinc 4 1, 52, 0), 0)) (.leaf (52, (.goto (-47), 55, 5), 0))) (.branch 56 (.leaf (55, (.iload_n 3, 56, 0), 0)) (.leaf (56, (.ireturn, 57, 0), 0))))))
set_option maxRecDepth 100000 in
def mt_87_0 : Lean.RArray mLf :=
  .branch 19 (.branch 10 (.branch 5 (.branch 1 (.leaf (0, (.aload_n 1, 1, 0), 0)) (.branch 4 (.leaf (1, (.getfield 43, 4, 100), 294)) (.leaf (4, (.iload_n 2, 5, 0), 0)))) (.branch 6 (.leaf (5, (.isub, 6, 0), 0)) (.branch 8 (.leaf (6, (.istore 4, 8, 0), 0)) (.leaf (8, (.iload 4, 10, 0), 0))))) (.branch 15 (.branch 13 (.leaf (10, (.ifCond .gt 5, 13, 15), 0)) (.branch 14 (.leaf (13, (.iconst (-1), 14, 0), 0)) (.leaf (14, (.ireturn, 15, 0), 0)))) (.branch 16 (.leaf (15, (.iconst 0, 16, 0), 0)) (.branch 18 (.leaf (16, (.istore 5, 18, 0), 0)) (.leaf (18, (.iconst 0, 19, 0), 0)))))) (.branch 31 (.branch 24 (.branch 21 (.leaf (19, (.istore 6, 21, 0), 0)) (.branch 23 (.leaf (21, (.iload 6, 23, 0), 0)) (.leaf (23, (.aload_n 1, 24, 0), 0)))) (.branch 27 (.leaf (24, (.getfield 43, 27, 100), 294)) (.branch 30 (.leaf (27, (.if_icmp .ge 47, 30, 74), 0)) (.leaf (30, (.aload_n 0, 31, 0), 0))))) (.branch 38 (.branch 34 (.leaf (31, (.getfield 12, 34, 802), 255)) (.branch 35 (.leaf (34, (.aload_n 1, 35, 0), 0)) (.leaf (35, (.getfield 43, 38, 100), 294)))) (.branch 40 (.branch 39 (.leaf (38, (.iconst 1, 39, 0), 0)) (.leaf (39, (.isub, 40, 0), 0))) (.branch 41 (.leaf (40, (.aload_n 1, 41, 0), 0)) (.leaf (41, (.getfield 48, 44, 101), 301))))))
set_option maxRecDepth 100000 in
def mt_87_1 : Lean.RArray mLf :=
  .branch 66 (.branch 56 (.branch 50 (.branch 46 (.leaf (44, (.iload 6, 46, 0), 0)) (.branch 47 (.leaf (46, (.iaload, 47, 0), 0)) (.leaf (47, (.invokevirtual 51, 50, 56), 783)))) (.branch 52 (.leaf (50, (.iload 5, 52, 0), 0)) (.branch 53 (.leaf (52, (.aload_n 0, 53, 0), 0)) (.leaf (53, (.getfield 35, 56, 800), 253))))) (.branch 59 (.branch 57 (.leaf (56, (.iload_n 2, 57, 0), 0)) (.branch 58 (.leaf (57, (.iload_n 3, 58, 0), 0)) (.leaf (58, (.aload_n 0, 59, 0), 0)))) (.branch 62 (.leaf (59, (.getfield 12, 62, 802), 255)) (.branch 65 (.leaf (62, (.invokevirtual 65, 65, 6), 1099)) (.leaf (65, (.iadd, 66, 0), 0)))))) (.branch 79 (.branch 74 (.branch 68 (.leaf (66, (.istore 5, 68, 0), 0)) (.branch 71 (.leaf (68, (.iinc 6 1, 71, 0), 0)) (.leaf (71, (.goto (-50), 74, 21), 0)))) (.branch 76 (.leaf (74, (.iload 5, 76, 0), 0)) (.branch 78 (.leaf (76, (.iload 4, 78, 0), 0)) (.leaf (78, (.irem, 79, 0), 0))))) (.branch 86 (.branch 82 (.leaf (79, (.ifCond .ne 11, 82, 90), 0)) (.branch 84 (.leaf (82, (.iload 5, 84, 0), 0)) (.leaf (84, (.iload 4, 86, 0), 0)))) (.branch 90 (.branch 87 (.leaf (86, (.idiv, 87, 0), 0)) (.leaf (87, (.goto 4, 90, 91), 0))) (.branch 91 (.leaf (90, (.iconst (-1), 91, 0), 0)) (.leaf (91, (.ireturn, 92, 0), 0))))))
/-- DeckBench$Solver.partsTold(LDeckBench$Deck;II)I -/
def mt_87 : Lean.RArray mLf :=
  .branch 44 (mt_87_0) (mt_87_1)
set_option maxRecDepth 100000 in
def mt_88_0 : Lean.RArray mLf :=
  .branch 16 (.branch 9 (.branch 4 (.branch 1 (.leaf (0, (.aload_n 1, 1, 0), 0)) (.leaf (1, (.getfield 43, 4, 100), 294))) (.branch 5 (.leaf (4, (.iconst 3, 5, 0), 0)) (.branch 8 (.leaf (5, (.if_icmp .ge 5, 8, 10), 0)) (.leaf (8, (.iconst 0, 9, 0), 0))))) (.branch 11 (.branch 10 (.leaf (9, (.ireturn, 10, 0), 0)) (.leaf (10, (.aload_n 1, 11, 0), 0))) (.branch 14 (.leaf (11, (.invokevirtual 71, 14, 19), 773)) (.branch 15 (.leaf (14, (.istore_n 2, 15, 0), 0)) (.leaf (15, (.iload_n 2, 16, 0), 0)))))) (.branch 23 (.branch 20 (.branch 17 (.leaf (16, (.iconst (-1), 17, 0), 0)) (.leaf (17, (.if_icmp .ne 5, 20, 22), 0))) (.branch 21 (.leaf (20, (.iconst 1, 21, 0), 0)) (.branch 22 (.leaf (21, (.ireturn, 22, 0), 0)) (.leaf (22, (.iload_n 2, 23, 0), 0))))) (.branch 27 (.branch 24 (.leaf (23, (.aload_n 1, 24, 0), 0)) (.leaf (24, (.invokevirtual 74, 27, 18), 1126))) (.branch 30 (.leaf (27, (.if_icmp .lt 18, 30, 45), 0)) (.branch 31 (.leaf (30, (.iload_n 2, 31, 0), 0)) (.leaf (31, (.aload_n 1, 32, 0), 0))))))
set_option maxRecDepth 100000 in
def mt_88_1 : Lean.RArray mLf :=
  .branch 48 (.branch 41 (.branch 36 (.branch 35 (.leaf (32, (.invokevirtual 77, 35, 17), 1127)) (.leaf (35, (.isub, 36, 0), 0))) (.branch 37 (.leaf (36, (.aload_n 1, 37, 0), 0)) (.branch 40 (.leaf (37, (.getfield 43, 40, 100), 294)) (.leaf (40, (.iconst 1, 41, 0), 0))))) (.branch 45 (.branch 42 (.leaf (41, (.isub, 42, 0), 0)) (.leaf (42, (.if_icmp .le 5, 45, 47), 0))) (.branch 46 (.leaf (45, (.iconst 2, 46, 0), 0)) (.branch 47 (.leaf (46, (.ireturn, 47, 0), 0)) (.leaf (47, (.aload_n 1, 48, 0), 0)))))) (.branch 57 (.branch 52 (.branch 51 (.leaf (48, (.getfield 43, 51, 100), 294)) (.leaf (51, (.iconst 4, 52, 0), 0))) (.branch 55 (.leaf (52, (.if_icmp .lt 15, 55, 67), 0)) (.branch 56 (.leaf (55, (.aload_n 0, 56, 0), 0)) (.leaf (56, (.aload_n 1, 57, 0), 0))))) (.branch 64 (.branch 60 (.leaf (57, (.invokevirtual 80, 60, 89), 1128)) (.branch 63 (.leaf (60, (.ifCond .ne 7, 63, 67), 0)) (.leaf (63, (.iconst 3, 64, 0), 0)))) (.branch 67 (.leaf (64, (.goto 4, 67, 68), 0)) (.branch 68 (.leaf (67, (.iconst 0, 68, 0), 0)) (.leaf (68, (.ireturn, 69, 0), 0))))))
/-- DeckBench$Solver.reasonByNumbers(LDeckBench$Deck;)I -/
def mt_88 : Lean.RArray mLf :=
  .branch 32 (mt_88_0) (mt_88_1)
set_option maxRecDepth 100000 in
def mt_89_0 : Lean.RArray mLf :=
  .branch 21 (.branch 11 (.branch 5 (.branch 1 (.leaf (0, (.aload_n 1, 1, 0), 0)) (.branch 4 (.leaf (1, (.getfield 43, 4, 100), 294)) (.leaf (4, (.iconst 3, 5, 0), 0)))) (.branch 7 (.branch 6 (.leaf (5, (.isub, 6, 0), 0)) (.leaf (6, (.istore_n 2, 7, 0), 0))) (.branch 8 (.leaf (7, (.iload_n 2, 8, 0), 0)) (.leaf (8, (.ifCond .gt 5, 11, 13), 0))))) (.branch 15 (.branch 13 (.branch 12 (.leaf (11, (.iconst 1, 12, 0), 0)) (.leaf (12, (.ireturn, 13, 0), 0))) (.branch 14 (.leaf (13, (.iconst 0, 14, 0), 0)) (.leaf (14, (.istore_n 3, 15, 0), 0)))) (.branch 17 (.branch 16 (.leaf (15, (.iload_n 3, 16, 0), 0)) (.leaf (16, (.iconst 3, 17, 0), 0))) (.branch 20 (.leaf (17, (.if_icmp .gt 16, 20, 33), 0)) (.leaf (20, (.aload_n 0, 21, 0), 0)))))) (.branch 34 (.branch 26 (.branch 24 (.leaf (21, (.getfield 25, 24, 805), 258)) (.branch 25 (.leaf (24, (.iload_n 3, 25, 0), 0)) (.leaf (25, (.iconst 0, 26, 0), 0)))) (.branch 30 (.branch 27 (.leaf (26, (.iastore, 27, 0), 0)) (.leaf (27, (.iinc 3 1, 30, 0), 0))) (.branch 33 (.leaf (30, (.goto (-15), 33, 15), 0)) (.leaf (33, (.iconst 0, 34, 0), 0))))) (.branch 40 (.branch 36 (.branch 35 (.leaf (34, (.istore_n 3, 35, 0), 0)) (.leaf (35, (.iload_n 3, 36, 0), 0))) (.branch 37 (.leaf (36, (.aload_n 1, 37, 0), 0)) (.leaf (37, (.getfield 43, 40, 100), 294)))) (.branch 44 (.branch 43 (.leaf (40, (.if_icmp .ge 32, 43, 72), 0)) (.leaf (43, (.aload_n 0, 44, 0), 0))) (.branch 47 (.leaf (44, (.getfield 12, 47, 802), 255)) (.leaf (47, (.aload_n 1, 48, 0), 0))))))
set_option maxRecDepth 100000 in
def mt_89_1 : Lean.RArray mLf :=
  .branch 75 (.branch 59 (.branch 53 (.branch 51 (.leaf (48, (.getfield 43, 51, 100), 294)) (.branch 52 (.leaf (51, (.iconst 1, 52, 0), 0)) (.leaf (52, (.isub, 53, 0), 0)))) (.branch 57 (.branch 54 (.leaf (53, (.aload_n 1, 54, 0), 0)) (.leaf (54, (.getfield 48, 57, 101), 301))) (.branch 58 (.leaf (57, (.iload_n 3, 58, 0), 0)) (.leaf (58, (.iaload, 59, 0), 0))))) (.branch 69 (.branch 63 (.branch 62 (.leaf (59, (.invokevirtual 51, 62, 56), 783)) (.leaf (62, (.aload_n 0, 63, 0), 0))) (.branch 66 (.leaf (63, (.invokevirtual 84, 66, 90), 1132)) (.leaf (66, (.iinc 3 1, 69, 0), 0)))) (.branch 73 (.branch 72 (.leaf (69, (.goto (-34), 72, 35), 0)) (.leaf (72, (.iconst 0, 73, 0), 0))) (.branch 74 (.leaf (73, (.istore_n 3, 74, 0), 0)) (.leaf (74, (.iload_n 3, 75, 0), 0)))))) (.branch 86 (.branch 80 (.branch 76 (.leaf (75, (.iconst 3, 76, 0), 0)) (.branch 79 (.leaf (76, (.if_icmp .gt 22, 79, 98), 0)) (.leaf (79, (.aload_n 0, 80, 0), 0)))) (.branch 84 (.branch 83 (.leaf (80, (.getfield 25, 83, 805), 258)) (.leaf (83, (.iload_n 3, 84, 0), 0))) (.branch 85 (.leaf (84, (.iaload, 85, 0), 0)) (.leaf (85, (.iload_n 2, 86, 0), 0))))) (.branch 92 (.branch 90 (.branch 87 (.leaf (86, (.irem, 87, 0), 0)) (.leaf (87, (.ifCond .eq 5, 90, 92), 0))) (.branch 91 (.leaf (90, (.iconst 0, 91, 0), 0)) (.leaf (91, (.ireturn, 92, 0), 0)))) (.branch 98 (.branch 95 (.leaf (92, (.iinc 3 1, 95, 0), 0)) (.leaf (95, (.goto (-21), 98, 74), 0))) (.branch 99 (.leaf (98, (.iconst 1, 99, 0), 0)) (.leaf (99, (.ireturn, 100, 0), 0))))))
/-- DeckBench$Solver.hasWholeTriples(LDeckBench$Deck;)Z -/
def mt_89 : Lean.RArray mLf :=
  .branch 48 (mt_89_0) (mt_89_1)
set_option maxRecDepth 100000 in
def mt_90_0 : Lean.RArray mLf :=
  .branch 28 (.branch 15 (.branch 4 (.branch 2 (.branch 1 (.leaf (0, (.iconst 2, 1, 0), 0)) (.leaf (1, (.istore_n 1, 2, 0), 0))) (.branch 3 (.leaf (2, (.iload_n 1, 3, 0), 0)) (.leaf (3, (.aload_n 0, 4, 0), 0)))) (.branch 10 (.branch 7 (.leaf (4, (.getfield 12, 7, 802), 255)) (.leaf (7, (.getfield 87, 10, 600), 179))) (.branch 13 (.leaf (10, (.if_icmp .ge 110, 13, 120), 0)) (.branch 14 (.leaf (13, (.iconst 1, 14, 0), 0)) (.leaf (14, (.istore_n 2, 15, 0), 0)))))) (.branch 21 (.branch 17 (.branch 16 (.leaf (15, (.iload_n 2, 16, 0), 0)) (.leaf (16, (.iload_n 1, 17, 0), 0))) (.branch 20 (.leaf (17, (.if_icmp .ge 97, 20, 114), 0)) (.leaf (20, (.iconst 0, 21, 0), 0)))) (.branch 23 (.branch 22 (.leaf (21, (.istore_n 3, 22, 0), 0)) (.leaf (22, (.iload_n 3, 23, 0), 0))) (.branch 24 (.leaf (23, (.iload_n 2, 24, 0), 0)) (.branch 27 (.leaf (24, (.if_icmp .ge 84, 27, 108), 0)) (.leaf (27, (.iconst 1, 28, 0), 0))))))) (.branch 37 (.branch 32 (.branch 30 (.branch 29 (.leaf (28, (.iload_n 3, 29, 0), 0)) (.leaf (29, (.ishl, 30, 0), 0))) (.branch 31 (.leaf (30, (.iconst 1, 31, 0), 0)) (.leaf (31, (.iload_n 2, 32, 0), 0)))) (.branch 34 (.branch 33 (.leaf (32, (.ishl, 33, 0), 0)) (.leaf (33, (.ior, 34, 0), 0))) (.branch 35 (.leaf (34, (.iconst 1, 35, 0), 0)) (.branch 36 (.leaf (35, (.iload_n 1, 36, 0), 0)) (.leaf (36, (.ishl, 37, 0), 0)))))) (.branch 44 (.branch 40 (.branch 38 (.leaf (37, (.ior, 38, 0), 0)) (.leaf (38, (.istore 4, 40, 0), 0))) (.branch 41 (.leaf (40, (.aload_n 0, 41, 0), 0)) (.leaf (41, (.getfield 12, 44, 802), 255)))) (.branch 48 (.branch 47 (.leaf (44, (.getfield 88, 47, 601), 184)) (.leaf (47, (.iload_n 3, 48, 0), 0))) (.branch 49 (.leaf (48, (.iaload, 49, 0), 0)) (.branch 51 (.leaf (49, (.iload 4, 51, 0), 0)) (.leaf (51, (.iand, 52, 0), 0)))))))
set_option maxRecDepth 100000 in
def mt_90_1 : Lean.RArray mLf :=
  .branch 86 (.branch 70 (.branch 62 (.branch 56 (.branch 55 (.leaf (52, (.invokestatic 91, 55, 255), 785)) (.leaf (55, (.aload_n 0, 56, 0), 0))) (.branch 59 (.leaf (56, (.getfield 12, 59, 802), 255)) (.leaf (59, (.getfield 88, 62, 601), 184)))) (.branch 64 (.branch 63 (.leaf (62, (.iload_n 2, 63, 0), 0)) (.leaf (63, (.iaload, 64, 0), 0))) (.branch 66 (.leaf (64, (.iload 4, 66, 0), 0)) (.branch 67 (.leaf (66, (.iand, 67, 0), 0)) (.leaf (67, (.invokestatic 91, 70, 255), 785)))))) (.branch 78 (.branch 72 (.branch 71 (.leaf (70, (.iadd, 71, 0), 0)) (.leaf (71, (.aload_n 0, 72, 0), 0))) (.branch 75 (.leaf (72, (.getfield 12, 75, 802), 255)) (.leaf (75, (.getfield 88, 78, 601), 184)))) (.branch 80 (.branch 79 (.leaf (78, (.iload_n 1, 79, 0), 0)) (.leaf (79, (.iaload, 80, 0), 0))) (.branch 82 (.leaf (80, (.iload 4, 82, 0), 0)) (.branch 83 (.leaf (82, (.iand, 83, 0), 0)) (.leaf (83, (.invokestatic 91, 86, 255), 785))))))) (.branch 99 (.branch 93 (.branch 89 (.branch 87 (.leaf (86, (.iadd, 87, 0), 0)) (.leaf (87, (.istore 5, 89, 0), 0))) (.branch 90 (.leaf (89, (.aload_n 0, 90, 0), 0)) (.leaf (90, (.getfield 25, 93, 805), 258)))) (.branch 96 (.branch 95 (.leaf (93, (.iload 5, 95, 0), 0)) (.leaf (95, (.iconst 2, 96, 0), 0))) (.branch 97 (.leaf (96, (.idiv, 97, 0), 0)) (.branch 98 (.leaf (97, (.dup2, 98, 0), 0)) (.leaf (98, (.iaload, 99, 0), 0)))))) (.branch 108 (.branch 101 (.branch 100 (.leaf (99, (.iconst 1, 100, 0), 0)) (.leaf (100, (.iadd, 101, 0), 0))) (.branch 102 (.leaf (101, (.iastore, 102, 0), 0)) (.branch 105 (.leaf (102, (.iinc 3 1, 105, 0), 0)) (.leaf (105, (.goto (-83), 108, 22), 0))))) (.branch 114 (.branch 111 (.leaf (108, (.iinc 2 1, 111, 0), 0)) (.leaf (111, (.goto (-96), 114, 15), 0))) (.branch 117 (.leaf (114, (.iinc 1 1, 117, 0), 0)) (.branch 120 (.leaf (117, (.goto (-115), 120, 2), 0)) (.leaf (120, (.return_, 121, 0), 0)))))))
/-- DeckBench$Solver.addTriples()V -/
def mt_90 : Lean.RArray mLf :=
  .branch 52 (mt_90_0) (mt_90_1)
set_option maxRecDepth 100000 in
def mt_91_0 : Lean.RArray mLf :=
  .branch 33 (.branch 15 (.branch 6 (.branch 2 (.branch 1 (.leaf (0, (.aload_n 0, 1, 0), 0)) (.leaf (1, (.iconst 0, 2, 0), 0))) (.branch 5 (.leaf (2, (.putfield 31, 5, 807), 261)) (.leaf (5, (.aload_n 1, 6, 0), 0)))) (.branch 10 (.branch 9 (.leaf (6, (.invokevirtual 71, 9, 19), 773)) (.leaf (9, (.istore_n 2, 10, 0), 0))) (.branch 11 (.leaf (10, (.aload_n 1, 11, 0), 0)) (.branch 14 (.leaf (11, (.getfield 43, 14, 100), 294)) (.leaf (14, (.iconst 2, 15, 0), 0)))))) (.branch 26 (.branch 19 (.branch 18 (.leaf (15, (.if_icmp .lt 16, 18, 31), 0)) (.leaf (18, (.aload_n 1, 19, 0), 0))) (.branch 22 (.leaf (19, (.getfield 43, 22, 100), 294)) (.branch 23 (.leaf (22, (.iconst 3, 23, 0), 0)) (.leaf (23, (.if_icmp .lt 10, 26, 33), 0))))) (.branch 28 (.branch 27 (.leaf (26, (.iload_n 2, 27, 0), 0)) (.leaf (27, (.iconst (-1), 28, 0), 0))) (.branch 31 (.leaf (28, (.if_icmp .ne 5, 31, 33), 0)) (.branch 32 (.leaf (31, (.iconst 0, 32, 0), 0)) (.leaf (32, (.ireturn, 33, 0), 0))))))) (.branch 49 (.branch 40 (.branch 35 (.branch 34 (.leaf (33, (.iload_n 2, 34, 0), 0)) (.leaf (34, (.aload_n 1, 35, 0), 0))) (.branch 36 (.leaf (35, (.iconst 0, 36, 0), 0)) (.branch 39 (.leaf (36, (.invokevirtual 97, 39, 16), 782)) (.leaf (39, (.isub, 40, 0), 0))))) (.branch 42 (.branch 41 (.leaf (40, (.istore_n 3, 41, 0), 0)) (.leaf (41, (.aload_n 0, 42, 0), 0))) (.branch 45 (.leaf (42, (.getfield 12, 45, 802), 255)) (.branch 46 (.leaf (45, (.aload_n 1, 46, 0), 0)) (.leaf (46, (.getfield 43, 49, 100), 294)))))) (.branch 56 (.branch 51 (.branch 50 (.leaf (49, (.iconst 1, 50, 0), 0)) (.leaf (50, (.isub, 51, 0), 0))) (.branch 52 (.leaf (51, (.aload_n 1, 52, 0), 0)) (.branch 55 (.leaf (52, (.getfield 48, 55, 101), 301)) (.leaf (55, (.iconst 0, 56, 0), 0))))) (.branch 60 (.branch 57 (.leaf (56, (.iaload, 57, 0), 0)) (.leaf (57, (.invokevirtual 51, 60, 56), 783))) (.branch 61 (.leaf (60, (.iconst 0, 61, 0), 0)) (.branch 63 (.leaf (61, (.istore 4, 63, 0), 0)) (.leaf (63, (.iload 4, 65, 0), 0)))))))
set_option maxRecDepth 100000 in
def mt_91_1 : Lean.RArray mLf :=
  .branch 107 (.branch 85 (.branch 75 (.branch 69 (.branch 66 (.leaf (65, (.aload_n 0, 66, 0), 0)) (.leaf (66, (.getfield 12, 69, 802), 255))) (.branch 72 (.leaf (69, (.invokevirtual 100, 72, 60), 784)) (.leaf (72, (.if_icmp .gt 73, 75, 145), 0)))) (.branch 79 (.branch 76 (.leaf (75, (.aload_n 1, 76, 0), 0)) (.leaf (76, (.getfield 43, 79, 100), 294))) (.branch 80 (.leaf (79, (.iconst 2, 80, 0), 0)) (.branch 83 (.leaf (80, (.if_icmp .eq 12, 83, 92), 0)) (.leaf (83, (.iload 4, 85, 0), 0)))))) (.branch 96 (.branch 89 (.branch 88 (.leaf (85, (.invokestatic 91, 88, 255), 785)) (.leaf (88, (.iload_n 3, 89, 0), 0))) (.branch 92 (.leaf (89, (.if_icmp .ne 50, 92, 139), 0)) (.branch 93 (.leaf (92, (.aload_n 0, 93, 0), 0)) (.leaf (93, (.getfield 18, 96, 803), 256))))) (.branch 100 (.branch 97 (.leaf (96, (.aload_n 0, 97, 0), 0)) (.leaf (97, (.getfield 12, 100, 802), 255))) (.branch 103 (.leaf (100, (.invokevirtual 103, 103, 57), 786)) (.branch 104 (.leaf (103, (.aload_n 0, 104, 0), 0)) (.leaf (104, (.getfield 18, 107, 803), 256))))))) (.branch 126 (.branch 117 (.branch 112 (.branch 109 (.leaf (107, (.iload 4, 109, 0), 0)) (.leaf (109, (.invokevirtual 107, 112, 66), 787))) (.branch 113 (.leaf (112, (.aload_n 0, 113, 0), 0)) (.branch 114 (.leaf (113, (.aload_n 0, 114, 0), 0)) (.leaf (114, (.getfield 18, 117, 803), 256))))) (.branch 121 (.branch 118 (.leaf (117, (.aload_n 1, 118, 0), 0)) (.leaf (118, (.invokevirtual 111, 121, 92), 788))) (.branch 124 (.leaf (121, (.ifCond .eq 18, 124, 139), 0)) (.branch 125 (.leaf (124, (.aload_n 0, 125, 0), 0)) (.leaf (125, (.aload_n 0, 126, 0), 0)))))) (.branch 139 (.branch 130 (.branch 129 (.leaf (126, (.getfield 35, 129, 800), 253)) (.leaf (129, (.aload_n 0, 130, 0), 0))) (.branch 133 (.leaf (130, (.getfield 18, 133, 803), 256)) (.branch 136 (.leaf (133, (.invokevirtual 115, 136, 2), 798)) (.leaf (136, (.invokevirtual 119, 139, 94), 802))))) (.branch 145 (.branch 142 (.leaf (139, (.iinc 4 1, 142, 0), 0)) (.leaf (142, (.goto (-79), 145, 63), 0))) (.branch 146 (.leaf (145, (.aload_n 0, 146, 0), 0)) (.branch 149 (.leaf (146, (.getfield 31, 149, 807), 261)) (.leaf (149, (.ireturn, 150, 0), 0)))))))
/-- DeckBench$Solver.findAnswers(LDeckBench$Deck;)I -/
def mt_91 : Lean.RArray mLf :=
  .branch 65 (mt_91_0) (mt_91_1)
set_option maxRecDepth 100000 in
/-- DeckBench$Solver.hasDeck(LDeckBench$Net;LDeckBench$Deck;)Z -/
def mt_92 : Lean.RArray mLf :=
  .branch 27 (.branch 15 (.branch 6 (.branch 4 (.branch 1 (.leaf (0, (.aload_n 2, 1, 0), 0)) (.leaf (1, (.getfield 48, 4, 101), 301))) (.branch 5 (.leaf (4, (.iconst 0, 5, 0), 0)) (.leaf (5, (.aload_n 0, 6, 0), 0)))) (.branch 10 (.branch 9 (.leaf (6, (.getfield 21, 9, 804), 257)) (.leaf (9, (.iconst 0, 10, 0), 0))) (.branch 12 (.leaf (10, (.bipush 7, 12, 0), 0)) (.leaf (12, (.invokestatic 122, 15, 901), 792))))) (.branch 19 (.branch 17 (.branch 16 (.leaf (15, (.iconst 0, 16, 0), 0)) (.leaf (16, (.istore_n 3, 17, 0), 0))) (.branch 18 (.leaf (17, (.iload_n 3, 18, 0), 0)) (.leaf (18, (.aload_n 1, 19, 0), 0)))) (.branch 25 (.branch 22 (.leaf (19, (.getfield 87, 22, 600), 179)) (.leaf (22, (.if_icmp .ge 33, 25, 55), 0))) (.branch 26 (.leaf (25, (.aload_n 0, 26, 0), 0)) (.leaf (26, (.aload_n 0, 27, 0), 0)))))) (.branch 41 (.branch 35 (.branch 31 (.branch 30 (.leaf (27, (.getfield 35, 30, 800), 253)) (.leaf (30, (.aload_n 1, 31, 0), 0))) (.branch 32 (.leaf (31, (.iload_n 3, 32, 0), 0)) (.leaf (32, (.invokevirtual 128, 35, 3), 793)))) (.branch 39 (.branch 36 (.leaf (35, (.aload_n 2, 36, 0), 0)) (.leaf (36, (.getfield 43, 39, 100), 294))) (.branch 40 (.leaf (39, (.iload_n 3, 40, 0), 0)) (.leaf (40, (.isub, 41, 0), 0))))) (.branch 49 (.branch 47 (.branch 44 (.leaf (41, (.invokevirtual 131, 44, 93), 794)) (.leaf (44, (.ifCond .ne 5, 47, 49), 0))) (.branch 48 (.leaf (47, (.iconst 0, 48, 0), 0)) (.leaf (48, (.ireturn, 49, 0), 0)))) (.branch 55 (.branch 52 (.leaf (49, (.iinc 3 1, 52, 0), 0)) (.leaf (52, (.goto (-35), 55, 17), 0))) (.branch 56 (.leaf (55, (.iconst 1, 56, 0), 0)) (.leaf (56, (.ireturn, 57, 0), 0))))))
set_option maxRecDepth 100000 in
/-- DeckBench$Solver.takeCard(II)Z -/
def mt_93 : Lean.RArray mLf :=
  .branch 24 (.branch 10 (.branch 3 (.branch 1 (.leaf (0, (.iconst 0, 1, 0), 0)) (.branch 2 (.leaf (1, (.istore_n 3, 2, 0), 0)) (.leaf (2, (.iload_n 3, 3, 0), 0)))) (.branch 7 (.branch 4 (.leaf (3, (.iload_n 2, 4, 0), 0)) (.leaf (4, (.if_icmp .ge 41, 7, 45), 0))) (.branch 8 (.leaf (7, (.iload_n 3, 8, 0), 0)) (.leaf (8, (.bipush 7, 10, 0), 0))))) (.branch 18 (.branch 14 (.branch 13 (.leaf (10, (.if_icmp .ge 35, 13, 45), 0)) (.leaf (13, (.aload_n 0, 14, 0), 0))) (.branch 17 (.leaf (14, (.getfield 21, 17, 804), 257)) (.leaf (17, (.iload_n 3, 18, 0), 0)))) (.branch 20 (.branch 19 (.leaf (18, (.iaload, 19, 0), 0)) (.leaf (19, (.iload_n 1, 20, 0), 0))) (.branch 23 (.leaf (20, (.if_icmp .ne 19, 23, 39), 0)) (.leaf (23, (.aload_n 0, 24, 0), 0)))))) (.branch 35 (.branch 29 (.branch 27 (.leaf (24, (.getfield 21, 27, 804), 257)) (.branch 28 (.leaf (27, (.iload_n 3, 28, 0), 0)) (.leaf (28, (.aload_n 0, 29, 0), 0)))) (.branch 33 (.branch 32 (.leaf (29, (.getfield 21, 32, 804), 257)) (.leaf (32, (.iload_n 2, 33, 0), 0))) (.branch 34 (.leaf (33, (.iconst 1, 34, 0), 0)) (.leaf (34, (.isub, 35, 0), 0))))) (.branch 39 (.branch 37 (.branch 36 (.leaf (35, (.iaload, 36, 0), 0)) (.leaf (36, (.iastore, 37, 0), 0))) (.branch 38 (.leaf (37, (.iconst 1, 38, 0), 0)) (.leaf (38, (.ireturn, 39, 0), 0)))) (.branch 45 (.branch 42 (.leaf (39, (.iinc 3 1, 42, 0), 0)) (.leaf (42, (.goto (-40), 45, 2), 0))) (.branch 46 (.leaf (45, (.iconst 0, 46, 0), 0)) (.leaf (46, (.ireturn, 47, 0), 0))))))
set_option maxRecDepth 100000 in
def mt_94_0 : Lean.RArray mLf :=
  .branch 26 (.branch 11 (.branch 3 (.branch 1 (.leaf (0, (.iconst 0, 1, 0), 0)) (.branch 2 (.leaf (1, (.istore_n 2, 2, 0), 0)) (.leaf (2, (.iload_n 2, 3, 0), 0)))) (.branch 7 (.branch 4 (.leaf (3, (.aload_n 0, 4, 0), 0)) (.leaf (4, (.getfield 31, 7, 807), 261))) (.branch 10 (.leaf (7, (.if_icmp .ge 19, 10, 26), 0)) (.leaf (10, (.aload_n 0, 11, 0), 0))))) (.branch 16 (.branch 14 (.leaf (11, (.getfield 28, 14, 806), 259)) (.branch 15 (.leaf (14, (.iload_n 2, 15, 0), 0)) (.leaf (15, (.iaload, 16, 0), 0)))) (.branch 20 (.branch 17 (.leaf (16, (.iload_n 1, 17, 0), 0)) (.leaf (17, (.if_icmp .ge 9, 20, 26), 0))) (.branch 23 (.leaf (20, (.iinc 2 1, 23, 0), 0)) (.leaf (23, (.goto (-21), 26, 2), 0)))))) (.branch 40 (.branch 32 (.branch 27 (.leaf (26, (.aload_n 0, 27, 0), 0)) (.branch 30 (.leaf (27, (.getfield 31, 30, 807), 261)) (.leaf (30, (.bipush 64, 32, 0), 0)))) (.branch 36 (.branch 35 (.leaf (32, (.if_icmp .ge 21, 35, 53), 0)) (.leaf (35, (.iload_n 2, 36, 0), 0))) (.branch 37 (.leaf (36, (.aload_n 0, 37, 0), 0)) (.leaf (37, (.getfield 31, 40, 807), 261))))) (.branch 48 (.branch 44 (.branch 43 (.leaf (40, (.if_icmp .ge 14, 43, 54), 0)) (.leaf (43, (.aload_n 0, 44, 0), 0))) (.branch 47 (.leaf (44, (.getfield 28, 47, 806), 259)) (.leaf (47, (.iload_n 2, 48, 0), 0)))) (.branch 50 (.branch 49 (.leaf (48, (.iaload, 49, 0), 0)) (.leaf (49, (.iload_n 1, 50, 0), 0))) (.branch 53 (.leaf (50, (.if_icmp .ne 4, 53, 54), 0)) (.leaf (53, (.return_, 54, 0), 0))))))
set_option maxRecDepth 100000 in
def mt_94_1 : Lean.RArray mLf :=
  .branch 77 (.branch 65 (.branch 59 (.branch 55 (.leaf (54, (.aload_n 0, 55, 0), 0)) (.branch 58 (.leaf (55, (.getfield 31, 58, 807), 261)) (.leaf (58, (.istore_n 3, 59, 0), 0)))) (.branch 61 (.branch 60 (.leaf (59, (.iload_n 3, 60, 0), 0)) (.leaf (60, (.iload_n 2, 61, 0), 0))) (.branch 64 (.leaf (61, (.if_icmp .le 23, 64, 84), 0)) (.leaf (64, (.aload_n 0, 65, 0), 0))))) (.branch 73 (.branch 69 (.branch 68 (.leaf (65, (.getfield 28, 68, 806), 259)) (.leaf (68, (.iload_n 3, 69, 0), 0))) (.branch 70 (.leaf (69, (.aload_n 0, 70, 0), 0)) (.leaf (70, (.getfield 28, 73, 806), 259)))) (.branch 75 (.branch 74 (.leaf (73, (.iload_n 3, 74, 0), 0)) (.leaf (74, (.iconst 1, 75, 0), 0))) (.branch 76 (.leaf (75, (.isub, 76, 0), 0)) (.leaf (76, (.iaload, 77, 0), 0)))))) (.branch 90 (.branch 84 (.branch 78 (.leaf (77, (.iastore, 78, 0), 0)) (.branch 81 (.leaf (78, (.iinc 3 (-1), 81, 0), 0)) (.leaf (81, (.goto (-22), 84, 59), 0)))) (.branch 88 (.branch 85 (.leaf (84, (.aload_n 0, 85, 0), 0)) (.leaf (85, (.getfield 28, 88, 806), 259))) (.branch 89 (.leaf (88, (.iload_n 2, 89, 0), 0)) (.leaf (89, (.iload_n 1, 90, 0), 0))))) (.branch 96 (.branch 92 (.branch 91 (.leaf (90, (.iastore, 91, 0), 0)) (.leaf (91, (.aload_n 0, 92, 0), 0))) (.branch 93 (.leaf (92, (.dup, 93, 0), 0)) (.leaf (93, (.getfield 31, 96, 807), 261)))) (.branch 98 (.branch 97 (.leaf (96, (.iconst 1, 97, 0), 0)) (.leaf (97, (.iadd, 98, 0), 0))) (.branch 101 (.leaf (98, (.putfield 31, 101, 807), 261)) (.leaf (101, (.return_, 102, 0), 0))))))
/-- DeckBench$Solver.addFound(I)V -/
def mt_94 : Lean.RArray mLf :=
  .branch 54 (mt_94_0) (mt_94_1)
set_option maxRecDepth 100000 in
/-- DeckBench$Solver.answersOfClass(II)I -/
def mt_95 : Lean.RArray mLf :=
  .branch 25 (.branch 11 (.branch 3 (.branch 1 (.leaf (0, (.iconst 0, 1, 0), 0)) (.branch 2 (.leaf (1, (.istore_n 3, 2, 0), 0)) (.leaf (2, (.iconst 0, 3, 0), 0)))) (.branch 7 (.branch 5 (.leaf (3, (.istore 4, 5, 0), 0)) (.leaf (5, (.iload 4, 7, 0), 0))) (.branch 8 (.leaf (7, (.aload_n 0, 8, 0), 0)) (.leaf (8, (.getfield 31, 11, 807), 261))))) (.branch 18 (.branch 14 (.leaf (11, (.if_icmp .ge 42, 14, 53), 0)) (.branch 15 (.leaf (14, (.aload_n 0, 15, 0), 0)) (.leaf (15, (.getfield 18, 18, 803), 256)))) (.branch 20 (.branch 19 (.leaf (18, (.iload_n 1, 19, 0), 0)) (.leaf (19, (.aload_n 0, 20, 0), 0))) (.branch 23 (.leaf (20, (.getfield 28, 23, 806), 259)) (.leaf (23, (.iload 4, 25, 0), 0)))))) (.branch 38 (.branch 30 (.branch 26 (.leaf (25, (.iaload, 26, 0), 0)) (.branch 29 (.leaf (26, (.invokevirtual 51, 29, 56), 783)) (.leaf (29, (.aload_n 0, 30, 0), 0)))) (.branch 34 (.branch 33 (.leaf (30, (.getfield 39, 33, 801), 254)) (.leaf (33, (.aload_n 0, 34, 0), 0))) (.branch 37 (.leaf (34, (.getfield 18, 37, 803), 256)) (.leaf (37, (.iload_n 2, 38, 0), 0))))) (.branch 47 (.branch 41 (.leaf (38, (.invokevirtual 135, 41, 21), 1117)) (.branch 44 (.leaf (41, (.ifCond .eq 6, 44, 47), 0)) (.leaf (44, (.iinc 3 1, 47, 0), 0)))) (.branch 53 (.branch 50 (.leaf (47, (.iinc 4 1, 50, 0), 0)) (.leaf (50, (.goto (-45), 53, 5), 0))) (.branch 54 (.leaf (53, (.iload_n 3, 54, 0), 0)) (.leaf (54, (.ireturn, 55, 0), 0))))))
set_option maxRecDepth 100000 in
/-- DeckBench$SymmetrySearch.<init>()V -/
def mt_96 : Lean.RArray mLf :=
  .branch 9 (.branch 4 (.branch 1 (.leaf (0, (.aload_n 0, 1, 0), 0)) (.leaf (1, (.invokespecial 3, 4, 900), 152))) (.branch 5 (.leaf (4, (.aload_n 0, 5, 0), 0)) (.branch 7 (.leaf (5, (.bipush 7, 7, 0), 0)) (.leaf (7, (.newarray .int, 9, 0), 0))))) (.branch 15 (.branch 12 (.leaf (9, (.putfield 9, 12, 900), 153)) (.branch 13 (.leaf (12, (.aload_n 0, 13, 0), 0)) (.leaf (13, (.bipush 7, 15, 0), 0)))) (.branch 17 (.leaf (15, (.newarray .int, 17, 0), 0)) (.branch 20 (.leaf (17, (.putfield 15, 20, 901), 154)) (.leaf (20, (.return_, 21, 0), 0)))))
set_option maxRecDepth 100000 in
def mt_97_0 : Lean.RArray mLf :=
  .branch 22 (.branch 9 (.branch 2 (.branch 1 (.leaf (0, (.aload_n 1, 1, 0), 0)) (.leaf (1, (.iload_n 3, 2, 0), 0))) (.branch 5 (.leaf (2, (.invokevirtual 18, 5, 61), 827)) (.branch 8 (.leaf (5, (.ifCond .eq 26, 8, 31), 0)) (.leaf (8, (.aload_n 1, 9, 0), 0))))) (.branch 17 (.branch 11 (.leaf (9, (.iload 4, 11, 0), 0)) (.branch 14 (.leaf (11, (.invokevirtual 18, 14, 61), 827)) (.leaf (14, (.ifCond .eq 17, 17, 31), 0)))) (.branch 18 (.leaf (17, (.aload_n 1, 18, 0), 0)) (.branch 19 (.leaf (18, (.iload_n 3, 19, 0), 0)) (.leaf (19, (.invokevirtual 24, 22, 62), 828)))))) (.branch 32 (.branch 25 (.branch 23 (.leaf (22, (.aload_n 1, 23, 0), 0)) (.leaf (23, (.iload 4, 25, 0), 0))) (.branch 28 (.leaf (25, (.invokevirtual 24, 28, 62), 828)) (.branch 31 (.leaf (28, (.if_icmp .eq 5, 31, 33), 0)) (.leaf (31, (.iconst 0, 32, 0), 0))))) (.branch 36 (.branch 33 (.leaf (32, (.ireturn, 33, 0), 0)) (.branch 34 (.leaf (33, (.iconst 0, 34, 0), 0)) (.leaf (34, (.istore 5, 36, 0), 0)))) (.branch 38 (.leaf (36, (.iload 5, 38, 0), 0)) (.branch 40 (.leaf (38, (.bipush 7, 40, 0), 0)) (.leaf (40, (.if_icmp .ge 28, 43, 68), 0))))))
set_option maxRecDepth 100000 in
def mt_97_1 : Lean.RArray mLf :=
  .branch 65 (.branch 52 (.branch 47 (.branch 44 (.leaf (43, (.aload_n 0, 44, 0), 0)) (.leaf (44, (.getfield 9, 47, 900), 153))) (.branch 49 (.leaf (47, (.iload 5, 49, 0), 0)) (.branch 51 (.leaf (49, (.iload 5, 51, 0), 0)) (.leaf (51, (.iload_n 2, 52, 0), 0))))) (.branch 60 (.branch 55 (.leaf (52, (.if_icmp .ge 8, 55, 60), 0)) (.branch 57 (.leaf (55, (.iload 5, 57, 0), 0)) (.leaf (57, (.goto 4, 60, 61), 0)))) (.branch 61 (.leaf (60, (.iconst (-1), 61, 0), 0)) (.branch 62 (.leaf (61, (.iastore, 62, 0), 0)) (.leaf (62, (.iinc 5 1, 65, 0), 0)))))) (.branch 75 (.branch 69 (.branch 68 (.leaf (65, (.goto (-29), 68, 36), 0)) (.leaf (68, (.aload_n 0, 69, 0), 0))) (.branch 72 (.leaf (69, (.getfield 9, 72, 900), 153)) (.branch 73 (.leaf (72, (.iload_n 3, 73, 0), 0)) (.leaf (73, (.iload 4, 75, 0), 0))))) (.branch 78 (.branch 76 (.leaf (75, (.iastore, 76, 0), 0)) (.branch 77 (.leaf (76, (.aload_n 0, 77, 0), 0)) (.leaf (77, (.aload_n 1, 78, 0), 0)))) (.branch 79 (.leaf (78, (.iconst 0, 79, 0), 0)) (.branch 82 (.leaf (79, (.invokestatic 28, 82, 98), 832)) (.leaf (82, (.ireturn, 83, 0), 0))))))
/-- DeckBench$SymmetrySearch.takes(LDeckBench$Net;III)Z -/
def mt_97 : Lean.RArray mLf :=
  .branch 43 (mt_97_0) (mt_97_1)
set_option maxRecDepth 100000 in
/-- DeckBench$SymmetrySearch.extend(LDeckBench$SymmetrySearch;LDeckBench$Net;I)Z -/
def mt_98 : Lean.RArray mLf :=
  .branch 30 (.branch 16 (.branch 8 (.branch 2 (.branch 1 (.leaf (0, (.iload_n 2, 1, 0), 0)) (.leaf (1, (.aload_n 1, 2, 0), 0))) (.branch 5 (.leaf (2, (.getfield 32, 5, 600), 175)) (.leaf (5, (.if_icmp .ge 9, 8, 14), 0)))) (.branch 11 (.branch 9 (.leaf (8, (.iload_n 2, 9, 0), 0)) (.leaf (9, (.bipush 7, 11, 0), 0))) (.branch 14 (.leaf (11, (.if_icmp .lt 5, 14, 16), 0)) (.branch 15 (.leaf (14, (.iconst 1, 15, 0), 0)) (.leaf (15, (.ireturn, 16, 0), 0)))))) (.branch 23 (.branch 18 (.branch 17 (.leaf (16, (.iconst 0, 17, 0), 0)) (.leaf (17, (.istore_n 3, 18, 0), 0))) (.branch 19 (.leaf (18, (.iload_n 3, 19, 0), 0)) (.branch 20 (.leaf (19, (.aload_n 1, 20, 0), 0)) (.leaf (20, (.getfield 32, 23, 600), 175))))) (.branch 27 (.branch 26 (.leaf (23, (.if_icmp .ge 39, 26, 62), 0)) (.leaf (26, (.aload_n 0, 27, 0), 0))) (.branch 28 (.leaf (27, (.aload_n 1, 28, 0), 0)) (.branch 29 (.leaf (28, (.iload_n 2, 29, 0), 0)) (.leaf (29, (.iload_n 3, 30, 0), 0))))))) (.branch 46 (.branch 41 (.branch 36 (.branch 33 (.leaf (30, (.invokevirtual 36, 33, 99), 835)) (.leaf (33, (.ifCond .eq 23, 36, 56), 0))) (.branch 37 (.leaf (36, (.aload_n 0, 37, 0), 0)) (.branch 40 (.leaf (37, (.getfield 15, 40, 901), 154)) (.leaf (40, (.iload_n 2, 41, 0), 0))))) (.branch 43 (.branch 42 (.leaf (41, (.iload_n 3, 42, 0), 0)) (.leaf (42, (.iastore, 43, 0), 0))) (.branch 44 (.leaf (43, (.aload_n 0, 44, 0), 0)) (.branch 45 (.leaf (44, (.aload_n 1, 45, 0), 0)) (.leaf (45, (.iload_n 2, 46, 0), 0)))))) (.branch 55 (.branch 48 (.branch 47 (.leaf (46, (.iconst 1, 47, 0), 0)) (.leaf (47, (.iadd, 48, 0), 0))) (.branch 51 (.leaf (48, (.invokestatic 28, 51, 98), 832)) (.branch 54 (.leaf (51, (.ifCond .eq 5, 54, 56), 0)) (.leaf (54, (.iconst 1, 55, 0), 0))))) (.branch 59 (.branch 56 (.leaf (55, (.ireturn, 56, 0), 0)) (.leaf (56, (.iinc 3 1, 59, 0), 0))) (.branch 62 (.leaf (59, (.goto (-41), 62, 18), 0)) (.branch 63 (.leaf (62, (.iconst 0, 63, 0), 0)) (.leaf (63, (.ireturn, 64, 0), 0)))))))
set_option maxRecDepth 100000 in
def mt_99_0 : Lean.RArray mLf :=
  .branch 30 (.branch 15 (.branch 6 (.branch 2 (.branch 1 (.leaf (0, (.aload_n 1, 1, 0), 0)) (.leaf (1, (.iload_n 2, 2, 0), 0))) (.branch 5 (.leaf (2, (.invokevirtual 24, 5, 62), 828)) (.leaf (5, (.aload_n 1, 6, 0), 0)))) (.branch 10 (.branch 7 (.leaf (6, (.iload_n 3, 7, 0), 0)) (.leaf (7, (.invokevirtual 24, 10, 62), 828))) (.branch 13 (.leaf (10, (.if_icmp .eq 5, 13, 15), 0)) (.branch 14 (.leaf (13, (.iconst 0, 14, 0), 0)) (.leaf (14, (.ireturn, 15, 0), 0)))))) (.branch 21 (.branch 19 (.branch 16 (.leaf (15, (.aload_n 0, 16, 0), 0)) (.leaf (16, (.getfield 9, 19, 900), 153))) (.branch 20 (.leaf (19, (.iload_n 2, 20, 0), 0)) (.leaf (20, (.iaload, 21, 0), 0)))) (.branch 25 (.branch 22 (.leaf (21, (.iconst (-1), 22, 0), 0)) (.leaf (22, (.if_icmp .eq 15, 25, 37), 0))) (.branch 26 (.leaf (25, (.aload_n 0, 26, 0), 0)) (.branch 29 (.leaf (26, (.getfield 9, 29, 900), 153)) (.leaf (29, (.iload_n 2, 30, 0), 0))))))) (.branch 43 (.branch 36 (.branch 32 (.branch 31 (.leaf (30, (.iaload, 31, 0), 0)) (.leaf (31, (.iload_n 3, 32, 0), 0))) (.branch 35 (.leaf (32, (.if_icmp .eq 5, 35, 37), 0)) (.leaf (35, (.iconst 0, 36, 0), 0)))) (.branch 38 (.branch 37 (.leaf (36, (.ireturn, 37, 0), 0)) (.leaf (37, (.iconst 0, 38, 0), 0))) (.branch 40 (.leaf (38, (.istore 4, 40, 0), 0)) (.branch 42 (.leaf (40, (.iload 4, 42, 0), 0)) (.leaf (42, (.aload_n 1, 43, 0), 0)))))) (.branch 52 (.branch 49 (.branch 46 (.leaf (43, (.getfield 32, 46, 600), 175)) (.leaf (46, (.if_icmp .ge 83, 49, 129), 0))) (.branch 51 (.leaf (49, (.iload 4, 51, 0), 0)) (.leaf (51, (.iload_n 2, 52, 0), 0)))) (.branch 56 (.branch 55 (.leaf (52, (.if_icmp .ge 13, 55, 65), 0)) (.leaf (55, (.aload_n 0, 56, 0), 0))) (.branch 59 (.leaf (56, (.getfield 15, 59, 901), 154)) (.branch 61 (.leaf (59, (.iload 4, 61, 0), 0)) (.leaf (61, (.iaload, 62, 0), 0)))))))
set_option maxRecDepth 100000 in
def mt_99_1 : Lean.RArray mLf :=
  .branch 98 (.branch 80 (.branch 71 (.branch 66 (.branch 65 (.leaf (62, (.goto 10, 65, 72), 0)) (.leaf (65, (.aload_n 0, 66, 0), 0))) (.branch 69 (.leaf (66, (.getfield 9, 69, 900), 153)) (.leaf (69, (.iload 4, 71, 0), 0)))) (.branch 74 (.branch 72 (.leaf (71, (.iaload, 72, 0), 0)) (.leaf (72, (.istore 5, 74, 0), 0))) (.branch 76 (.leaf (74, (.iload 4, 76, 0), 0)) (.branch 77 (.leaf (76, (.iload_n 2, 77, 0), 0)) (.leaf (77, (.if_icmp .eq 13, 80, 90), 0)))))) (.branch 87 (.branch 83 (.branch 82 (.leaf (80, (.iload 5, 82, 0), 0)) (.leaf (82, (.iconst (-1), 83, 0), 0))) (.branch 86 (.leaf (83, (.if_icmp .eq 7, 86, 90), 0)) (.leaf (86, (.iconst 1, 87, 0), 0)))) (.branch 91 (.branch 90 (.leaf (87, (.goto 4, 90, 91), 0)) (.leaf (90, (.iconst 0, 91, 0), 0))) (.branch 93 (.leaf (91, (.istore 6, 93, 0), 0)) (.branch 95 (.leaf (93, (.iload 6, 95, 0), 0)) (.leaf (95, (.ifCond .eq 28, 98, 123), 0))))))) (.branch 113 (.branch 105 (.branch 101 (.branch 100 (.leaf (98, (.iload 5, 100, 0), 0)) (.leaf (100, (.iload_n 3, 101, 0), 0))) (.branch 104 (.leaf (101, (.if_icmp .eq 20, 104, 121), 0)) (.leaf (104, (.aload_n 1, 105, 0), 0)))) (.branch 108 (.branch 106 (.leaf (105, (.iload_n 2, 106, 0), 0)) (.leaf (106, (.iload 4, 108, 0), 0))) (.branch 111 (.leaf (108, (.invokevirtual 40, 111, 64), 839)) (.branch 112 (.leaf (111, (.aload_n 1, 112, 0), 0)) (.leaf (112, (.iload_n 3, 113, 0), 0)))))) (.branch 122 (.branch 118 (.branch 115 (.leaf (113, (.iload 5, 115, 0), 0)) (.leaf (115, (.invokevirtual 40, 118, 64), 839))) (.branch 121 (.leaf (118, (.if_icmp .eq 5, 121, 123), 0)) (.leaf (121, (.iconst 0, 122, 0), 0)))) (.branch 126 (.branch 123 (.leaf (122, (.ireturn, 123, 0), 0)) (.leaf (123, (.iinc 4 1, 126, 0), 0))) (.branch 129 (.leaf (126, (.goto (-86), 129, 40), 0)) (.branch 130 (.leaf (129, (.iconst 1, 130, 0), 0)) (.leaf (130, (.ireturn, 131, 0), 0)))))))
/-- DeckBench$SymmetrySearch.mayGo(LDeckBench$Net;II)Z -/
def mt_99 : Lean.RArray mLf :=
  .branch 62 (mt_99_0) (mt_99_1)
set_option maxRecDepth 100000 in
/-- DeckBench$SymmetrySearch.howMany(LDeckBench$Net;)I -/
def mt_100 : Lean.RArray mLf :=
  .branch 28 (.branch 12 (.branch 4 (.branch 2 (.branch 1 (.leaf (0, (.iconst 1, 1, 0), 0)) (.leaf (1, (.istore_n 2, 2, 0), 0))) (.branch 3 (.leaf (2, (.iconst 0, 3, 0), 0)) (.leaf (3, (.istore_n 3, 4, 0), 0)))) (.branch 6 (.branch 5 (.leaf (4, (.iload_n 3, 5, 0), 0)) (.leaf (5, (.aload_n 1, 6, 0), 0))) (.branch 9 (.leaf (6, (.getfield 32, 9, 600), 175)) (.leaf (9, (.if_icmp .ge 50, 12, 59), 0))))) (.branch 18 (.branch 15 (.branch 13 (.leaf (12, (.iconst 0, 13, 0), 0)) (.leaf (13, (.istore 4, 15, 0), 0))) (.branch 16 (.leaf (15, (.iload_n 3, 16, 0), 0)) (.leaf (16, (.istore 5, 18, 0), 0)))) (.branch 21 (.branch 20 (.leaf (18, (.iload 5, 20, 0), 0)) (.leaf (20, (.aload_n 1, 21, 0), 0))) (.branch 24 (.leaf (21, (.getfield 32, 24, 600), 175)) (.branch 27 (.leaf (24, (.if_icmp .ge 24, 27, 48), 0)) (.leaf (27, (.aload_n 0, 28, 0), 0))))))) (.branch 45 (.branch 33 (.branch 30 (.branch 29 (.leaf (28, (.aload_n 1, 29, 0), 0)) (.leaf (29, (.iload_n 3, 30, 0), 0))) (.branch 31 (.leaf (30, (.iload_n 3, 31, 0), 0)) (.leaf (31, (.iload 5, 33, 0), 0)))) (.branch 39 (.branch 36 (.leaf (33, (.invokevirtual 44, 36, 97), 823)) (.leaf (36, (.ifCond .eq 6, 39, 42), 0))) (.branch 42 (.leaf (39, (.iinc 4 1, 42, 0), 0)) (.leaf (42, (.iinc 5 1, 45, 0), 0))))) (.branch 52 (.branch 49 (.branch 48 (.leaf (45, (.goto (-27), 48, 18), 0)) (.leaf (48, (.iload_n 2, 49, 0), 0))) (.branch 51 (.leaf (49, (.iload 4, 51, 0), 0)) (.leaf (51, (.imul, 52, 0), 0)))) (.branch 56 (.branch 53 (.leaf (52, (.istore_n 2, 53, 0), 0)) (.leaf (53, (.iinc 3 1, 56, 0), 0))) (.branch 59 (.leaf (56, (.goto (-52), 59, 4), 0)) (.branch 60 (.leaf (59, (.iload_n 2, 60, 0), 0)) (.leaf (60, (.ireturn, 61, 0), 0)))))))
set_option maxRecDepth 100000 in
/-- DeckBench$SymmetrySearch.leastOfOrbit(LDeckBench$Net;I)I -/
def mt_101 : Lean.RArray mLf :=
  .branch 11 (.branch 4 (.branch 2 (.branch 1 (.leaf (0, (.iconst 0, 1, 0), 0)) (.leaf (1, (.istore_n 3, 2, 0), 0))) (.branch 3 (.leaf (2, (.iload_n 3, 3, 0), 0)) (.leaf (3, (.iload_n 2, 4, 0), 0)))) (.branch 8 (.branch 7 (.leaf (4, (.if_icmp .ge 22, 7, 26), 0)) (.leaf (7, (.aload_n 0, 8, 0), 0))) (.branch 9 (.leaf (8, (.aload_n 1, 9, 0), 0)) (.branch 10 (.leaf (9, (.iconst 0, 10, 0), 0)) (.leaf (10, (.iload_n 2, 11, 0), 0)))))) (.branch 19 (.branch 15 (.branch 12 (.leaf (11, (.iload_n 3, 12, 0), 0)) (.leaf (12, (.invokevirtual 44, 15, 97), 823))) (.branch 18 (.leaf (15, (.ifCond .eq 5, 18, 20), 0)) (.leaf (18, (.iload_n 3, 19, 0), 0)))) (.branch 23 (.branch 20 (.leaf (19, (.ireturn, 20, 0), 0)) (.leaf (20, (.iinc 3 1, 23, 0), 0))) (.branch 26 (.leaf (23, (.goto (-21), 26, 2), 0)) (.branch 27 (.leaf (26, (.iload_n 2, 27, 0), 0)) (.leaf (27, (.ireturn, 28, 0), 0))))))
set_option maxRecDepth 100000 in
/-- DeckBench$SymmetrySearch.orbitCount(LDeckBench$Net;)I -/
def mt_102 : Lean.RArray mLf :=
  .branch 13 (.branch 4 (.branch 2 (.branch 1 (.leaf (0, (.iconst 0, 1, 0), 0)) (.leaf (1, (.istore_n 2, 2, 0), 0))) (.branch 3 (.leaf (2, (.iconst 0, 3, 0), 0)) (.leaf (3, (.istore_n 3, 4, 0), 0)))) (.branch 6 (.branch 5 (.leaf (4, (.iload_n 3, 5, 0), 0)) (.leaf (5, (.aload_n 1, 6, 0), 0))) (.branch 9 (.leaf (6, (.getfield 32, 9, 600), 175)) (.branch 12 (.leaf (9, (.if_icmp .ge 22, 12, 31), 0)) (.leaf (12, (.aload_n 0, 13, 0), 0)))))) (.branch 22 (.branch 15 (.branch 14 (.leaf (13, (.aload_n 1, 14, 0), 0)) (.leaf (14, (.iload_n 3, 15, 0), 0))) (.branch 18 (.leaf (15, (.invokevirtual 48, 18, 101), 856)) (.branch 19 (.leaf (18, (.iload_n 3, 19, 0), 0)) (.leaf (19, (.if_icmp .ne 6, 22, 25), 0))))) (.branch 28 (.branch 25 (.leaf (22, (.iinc 2 1, 25, 0), 0)) (.leaf (25, (.iinc 3 1, 28, 0), 0))) (.branch 31 (.leaf (28, (.goto (-24), 31, 4), 0)) (.branch 32 (.leaf (31, (.iload_n 2, 32, 0), 0)) (.leaf (32, (.ireturn, 33, 0), 0))))))
set_option maxRecDepth 100000 in
def mt_103_0 : Lean.RArray mLf :=
  .branch 32 (.branch 15 (.branch 7 (.branch 4 (.branch 1 (.leaf (0, (.aload_n 0, 1, 0), 0)) (.leaf (1, (.invokespecial 3, 4, 900), 338))) (.branch 5 (.leaf (4, (.aload_n 0, 5, 0), 0)) (.leaf (5, (.bipush 6, 7, 0), 0)))) (.branch 13 (.branch 10 (.leaf (7, (.anewarray 9, 10, 3), 339)) (.leaf (10, (.putfield 11, 13, 1000), 343))) (.branch 14 (.leaf (13, (.aload_n 0, 14, 0), 0)) (.leaf (14, (.iconst 3, 15, 0), 0))))) (.branch 23 (.branch 21 (.branch 18 (.leaf (15, (.anewarray 17, 18, 4), 340)) (.leaf (18, (.putfield 19, 21, 1001), 345))) (.branch 22 (.leaf (21, (.aload_n 0, 22, 0), 0)) (.leaf (22, (.iconst 0, 23, 0), 0)))) (.branch 27 (.branch 26 (.leaf (23, (.putfield 23, 26, 1002), 347)) (.leaf (26, (.aload_n 0, 27, 0), 0))) (.branch 28 (.leaf (27, (.iconst (-1), 28, 0), 0)) (.branch 31 (.leaf (28, (.putfield 27, 31, 1003), 349)) (.leaf (31, (.aload_n 0, 32, 0), 0))))))) (.branch 49 (.branch 40 (.branch 36 (.branch 33 (.leaf (32, (.iconst 0, 33, 0), 0)) (.leaf (33, (.putfield 30, 36, 1004), 351))) (.branch 37 (.leaf (36, (.aload_n 0, 37, 0), 0)) (.leaf (37, (.new 9, 40, 6), 339)))) (.branch 44 (.branch 41 (.leaf (40, (.dup, 41, 0), 0)) (.leaf (41, (.invokespecial 33, 44, 54), 341))) (.branch 47 (.leaf (44, (.putfield 34, 47, 1006), 354)) (.branch 48 (.leaf (47, (.aload_n 0, 48, 0), 0)) (.leaf (48, (.iconst 0, 49, 0), 0)))))) (.branch 57 (.branch 53 (.branch 52 (.leaf (49, (.putfield 38, 52, 1008), 356)) (.leaf (52, (.aload_n 0, 53, 0), 0))) (.branch 54 (.leaf (53, (.iconst 0, 54, 0), 0)) (.leaf (54, (.putfield 41, 57, 1009), 357)))) (.branch 59 (.branch 58 (.leaf (57, (.aload_n 0, 58, 0), 0)) (.leaf (58, (.iconst 0, 59, 0), 0))) (.branch 62 (.leaf (59, (.putfield 44, 62, 1010), 358)) (.branch 63 (.leaf (62, (.aload_n 0, 63, 0), 0)) (.leaf (63, (.iconst 0, 64, 0), 0)))))))
set_option maxRecDepth 100000 in
def mt_103_1 : Lean.RArray mLf :=
  .branch 97 (.branch 79 (.branch 72 (.branch 68 (.branch 67 (.leaf (64, (.putfield 47, 67, 1011), 359)) (.leaf (67, (.aload_n 0, 68, 0), 0))) (.branch 69 (.leaf (68, (.aload_n 1, 69, 0), 0)) (.leaf (69, (.putfield 50, 72, 1007), 355)))) (.branch 74 (.branch 73 (.leaf (72, (.aload_n 0, 73, 0), 0)) (.leaf (73, (.aload_n 2, 74, 0), 0))) (.branch 77 (.leaf (74, (.putfield 54, 77, 1005), 353)) (.branch 78 (.leaf (77, (.iconst 0, 78, 0), 0)) (.leaf (78, (.istore_n 3, 79, 0), 0)))))) (.branch 86 (.branch 82 (.branch 80 (.leaf (79, (.iload_n 3, 80, 0), 0)) (.leaf (80, (.bipush 6, 82, 0), 0))) (.branch 85 (.leaf (82, (.if_icmp .ge 22, 85, 104), 0)) (.leaf (85, (.aload_n 0, 86, 0), 0)))) (.branch 90 (.branch 89 (.leaf (86, (.getfield 11, 89, 1000), 343)) (.leaf (89, (.iload_n 3, 90, 0), 0))) (.branch 93 (.leaf (90, (.new 9, 93, 6), 339)) (.branch 94 (.leaf (93, (.dup, 94, 0), 0)) (.leaf (94, (.invokespecial 33, 97, 54), 341))))))) (.branch 112 (.branch 105 (.branch 101 (.branch 98 (.leaf (97, (.aastore, 98, 0), 0)) (.leaf (98, (.iinc 3 1, 101, 0), 0))) (.branch 104 (.leaf (101, (.goto (-22), 104, 79), 0)) (.leaf (104, (.iconst 0, 105, 0), 0)))) (.branch 107 (.branch 106 (.leaf (105, (.istore_n 3, 106, 0), 0)) (.leaf (106, (.iload_n 3, 107, 0), 0))) (.branch 108 (.leaf (107, (.iconst 3, 108, 0), 0)) (.branch 111 (.leaf (108, (.if_icmp .ge 22, 111, 130), 0)) (.leaf (111, (.aload_n 0, 112, 0), 0)))))) (.branch 120 (.branch 116 (.branch 115 (.leaf (112, (.getfield 19, 115, 1001), 345)) (.leaf (115, (.iload_n 3, 116, 0), 0))) (.branch 119 (.leaf (116, (.new 17, 119, 1), 340)) (.leaf (119, (.dup, 120, 0), 0)))) (.branch 124 (.branch 123 (.leaf (120, (.invokespecial 58, 123, 7), 342)) (.leaf (123, (.aastore, 124, 0), 0))) (.branch 127 (.leaf (124, (.iinc 3 1, 127, 0), 0)) (.branch 130 (.leaf (127, (.goto (-21), 130, 106), 0)) (.leaf (130, (.return_, 131, 0), 0)))))))
/-- DeckBench$TextReader.<init>([BLDeckBench$FormSearch;)V -/
def mt_103 : Lean.RArray mLf :=
  .branch 64 (mt_103_0) (mt_103_1)
set_option maxRecDepth 100000 in
def mt_104_0 : Lean.RArray mLf :=
  .branch 19 (.branch 7 (.branch 2 (.branch 1 (.leaf (0, (.aload_n 0, 1, 0), 0)) (.leaf (1, (.iload_n 1, 2, 0), 0))) (.branch 5 (.leaf (2, (.invokevirtual 59, 5, 105), 446)) (.branch 6 (.leaf (5, (.iconst 0, 6, 0), 0)) (.leaf (6, (.istore_n 2, 7, 0), 0))))) (.branch 12 (.branch 8 (.leaf (7, (.iload_n 2, 8, 0), 0)) (.branch 9 (.leaf (8, (.aload_n 0, 9, 0), 0)) (.leaf (9, (.getfield 38, 12, 1008), 356)))) (.branch 15 (.leaf (12, (.if_icmp .gt 70, 15, 82), 0)) (.branch 16 (.leaf (15, (.aload_n 0, 16, 0), 0)) (.leaf (16, (.getfield 23, 19, 1002), 347)))))) (.branch 32 (.branch 26 (.branch 22 (.leaf (19, (.ifCond .ne 63, 22, 82), 0)) (.branch 23 (.leaf (22, (.aload_n 0, 23, 0), 0)) (.leaf (23, (.getfield 41, 26, 1009), 357)))) (.branch 29 (.leaf (26, (.ifCond .eq 56, 29, 82), 0)) (.branch 30 (.leaf (29, (.aload_n 0, 30, 0), 0)) (.leaf (30, (.ldc 63, 32, 4294967306), 473))))) (.branch 39 (.branch 35 (.leaf (32, (.invokevirtual 65, 35, 116), 474)) (.branch 38 (.leaf (35, (.ifCond .eq 10, 38, 45), 0)) (.leaf (38, (.aload_n 0, 39, 0), 0)))) (.branch 42 (.leaf (39, (.invokevirtual 69, 42, 107), 526)) (.branch 45 (.leaf (42, (.goto 24, 45, 66), 0)) (.leaf (45, (.aload_n 0, 46, 0), 0))))))
set_option maxRecDepth 100000 in
def mt_104_1 : Lean.RArray mLf :=
  .branch 68 (.branch 58 (.branch 51 (.branch 48 (.leaf (46, (.ldc 72, 48, 4294967307), 567)) (.leaf (48, (.invokevirtual 65, 51, 116), 474))) (.branch 54 (.leaf (51, (.ifCond .eq 10, 54, 61), 0)) (.branch 55 (.leaf (54, (.aload_n 0, 55, 0), 0)) (.leaf (55, (.invokevirtual 74, 58, 108), 568))))) (.branch 63 (.branch 61 (.leaf (58, (.goto 8, 61, 66), 0)) (.branch 62 (.leaf (61, (.aload_n 0, 62, 0), 0)) (.leaf (62, (.iconst 1, 63, 0), 0)))) (.branch 66 (.leaf (63, (.invokevirtual 77, 66, 114), 534)) (.branch 67 (.leaf (66, (.aload_n 0, 67, 0), 0)) (.leaf (67, (.dup, 68, 0), 0)))))) (.branch 82 (.branch 73 (.branch 71 (.leaf (68, (.getfield 30, 71, 1004), 351)) (.branch 72 (.leaf (71, (.iconst 1, 72, 0), 0)) (.leaf (72, (.iadd, 73, 0), 0)))) (.branch 76 (.leaf (73, (.putfield 30, 76, 1004), 351)) (.branch 79 (.leaf (76, (.iinc 2 1, 79, 0), 0)) (.leaf (79, (.goto (-72), 82, 7), 0))))) (.branch 89 (.branch 83 (.leaf (82, (.aload_n 0, 83, 0), 0)) (.branch 86 (.leaf (83, (.getfield 23, 86, 1002), 347)) (.leaf (86, (.ifCond .ne 7, 89, 93), 0)))) (.branch 90 (.leaf (89, (.aload_n 0, 90, 0), 0)) (.branch 93 (.leaf (90, (.invokevirtual 80, 93, 106), 584)) (.leaf (93, (.return_, 94, 0), 0))))))
/-- DeckBench$TextReader.read(I)V -/
def mt_104 : Lean.RArray mLf :=
  .branch 46 (mt_104_0) (mt_104_1)
set_option maxRecDepth 100000 in
def mt_105_0 : Lean.RArray mLf :=
  .branch 21 (.branch 9 (.branch 3 (.branch 1 (.leaf (0, (.iconst 0, 1, 0), 0)) (.branch 2 (.leaf (1, (.istore_n 2, 2, 0), 0)) (.leaf (2, (.iload_n 2, 3, 0), 0)))) (.branch 5 (.leaf (3, (.bipush 6, 5, 0), 0)) (.branch 8 (.leaf (5, (.if_icmp .ge 19, 8, 24), 0)) (.leaf (8, (.aload_n 0, 9, 0), 0))))) (.branch 14 (.branch 12 (.leaf (9, (.getfield 11, 12, 1000), 343)) (.branch 13 (.leaf (12, (.iload_n 2, 13, 0), 0)) (.leaf (13, (.aaload, 14, 0), 0)))) (.branch 15 (.leaf (14, (.iconst 0, 15, 0), 0)) (.branch 18 (.leaf (15, (.invokevirtual 83, 18, 55), 450)) (.leaf (18, (.iinc 2 1, 21, 0), 0)))))) (.branch 31 (.branch 26 (.branch 24 (.leaf (21, (.goto (-19), 24, 2), 0)) (.branch 25 (.leaf (24, (.iconst 0, 25, 0), 0)) (.leaf (25, (.istore_n 2, 26, 0), 0)))) (.branch 27 (.leaf (26, (.iload_n 2, 27, 0), 0)) (.branch 28 (.leaf (27, (.iconst 3, 28, 0), 0)) (.leaf (28, (.if_icmp .ge 18, 31, 46), 0))))) (.branch 36 (.branch 32 (.leaf (31, (.aload_n 0, 32, 0), 0)) (.branch 35 (.leaf (32, (.getfield 19, 35, 1001), 345)) (.leaf (35, (.iload_n 2, 36, 0), 0)))) (.branch 37 (.leaf (36, (.aaload, 37, 0), 0)) (.branch 40 (.leaf (37, (.invokevirtual 86, 40, 9), 460)) (.leaf (40, (.iinc 2 1, 43, 0), 0))))))
set_option maxRecDepth 100000 in
def mt_105_1 : Lean.RArray mLf :=
  .branch 65 (.branch 53 (.branch 48 (.branch 46 (.leaf (43, (.goto (-17), 46, 26), 0)) (.branch 47 (.leaf (46, (.aload_n 0, 47, 0), 0)) (.leaf (47, (.iconst 0, 48, 0), 0)))) (.branch 49 (.leaf (48, (.iload_n 1, 49, 0), 0)) (.branch 50 (.leaf (49, (.aload_n 0, 50, 0), 0)) (.leaf (50, (.getfield 50, 53, 1007), 355))))) (.branch 60 (.branch 54 (.leaf (53, (.arraylength, 54, 0), 0)) (.branch 57 (.leaf (54, (.invokestatic 88, 57, 903), 464)) (.leaf (57, (.invokestatic 94, 60, 902), 465)))) (.branch 63 (.leaf (60, (.putfield 38, 63, 1008), 356)) (.branch 64 (.leaf (63, (.aload_n 0, 64, 0), 0)) (.leaf (64, (.iconst 0, 65, 0), 0)))))) (.branch 75 (.branch 70 (.branch 68 (.leaf (65, (.putfield 23, 68, 1002), 347)) (.branch 69 (.leaf (68, (.aload_n 0, 69, 0), 0)) (.leaf (69, (.iconst (-1), 70, 0), 0)))) (.branch 73 (.leaf (70, (.putfield 27, 73, 1003), 349)) (.branch 74 (.leaf (73, (.aload_n 0, 74, 0), 0)) (.leaf (74, (.iconst 0, 75, 0), 0))))) (.branch 80 (.branch 78 (.leaf (75, (.putfield 30, 78, 1004), 351)) (.branch 79 (.leaf (78, (.aload_n 0, 79, 0), 0)) (.leaf (79, (.iconst 0, 80, 0), 0)))) (.branch 84 (.branch 83 (.leaf (80, (.putfield 47, 83, 1011), 359)) (.leaf (83, (.aload_n 0, 84, 0), 0))) (.branch 87 (.leaf (84, (.invokevirtual 97, 87, 117), 466)) (.leaf (87, (.return_, 88, 0), 0))))))
/-- DeckBench$TextReader.begin(I)V -/
def mt_105 : Lean.RArray mLf :=
  .branch 43 (mt_105_0) (mt_105_1)
set_option maxRecDepth 100000 in
def mt_106_0 : Lean.RArray mLf :=
  .branch 14 (.branch 7 (.branch 2 (.branch 1 (.leaf (0, (.iconst 0, 1, 0), 0)) (.leaf (1, (.istore_n 1, 2, 0), 0))) (.branch 3 (.leaf (2, (.iload_n 1, 3, 0), 0)) (.branch 4 (.leaf (3, (.iconst 3, 4, 0), 0)) (.leaf (4, (.if_icmp .ge 72, 7, 76), 0))))) (.branch 11 (.branch 8 (.leaf (7, (.aload_n 0, 8, 0), 0)) (.leaf (8, (.getfield 19, 11, 1001), 345))) (.branch 12 (.leaf (11, (.iload_n 1, 12, 0), 0)) (.branch 13 (.leaf (12, (.aaload, 13, 0), 0)) (.leaf (13, (.astore_n 2, 14, 0), 0)))))) (.branch 21 (.branch 16 (.branch 15 (.leaf (14, (.iconst 0, 15, 0), 0)) (.leaf (15, (.istore_n 3, 16, 0), 0))) (.branch 17 (.leaf (16, (.iload_n 3, 17, 0), 0)) (.branch 18 (.leaf (17, (.aload_n 2, 18, 0), 0)) (.leaf (18, (.getfield 100, 21, 100), 296))))) (.branch 28 (.branch 24 (.leaf (21, (.if_icmp .ge 45, 24, 66), 0)) (.branch 25 (.leaf (24, (.aload_n 0, 25, 0), 0)) (.leaf (25, (.getfield 34, 28, 1006), 354)))) (.branch 29 (.leaf (28, (.aload_n 2, 29, 0), 0)) (.branch 32 (.leaf (29, (.getfield 100, 32, 100), 296)) (.leaf (32, (.iconst 1, 33, 0), 0))))))
set_option maxRecDepth 100000 in
def mt_106_1 : Lean.RArray mLf :=
  .branch 52 (.branch 40 (.branch 35 (.branch 34 (.leaf (33, (.isub, 34, 0), 0)) (.leaf (34, (.aload_n 2, 35, 0), 0))) (.branch 38 (.leaf (35, (.getfield 103, 38, 101), 304)) (.branch 39 (.leaf (38, (.iload_n 3, 39, 0), 0)) (.leaf (39, (.iaload, 40, 0), 0))))) (.branch 47 (.branch 43 (.leaf (40, (.invokevirtual 107, 43, 56), 588)) (.branch 44 (.leaf (43, (.aload_n 2, 44, 0), 0)) (.leaf (44, (.getfield 103, 47, 101), 304)))) (.branch 48 (.leaf (47, (.iload_n 3, 48, 0), 0)) (.branch 49 (.leaf (48, (.aload_n 0, 49, 0), 0)) (.leaf (49, (.getfield 54, 52, 1005), 353)))))) (.branch 63 (.branch 56 (.branch 53 (.leaf (52, (.aload_n 0, 53, 0), 0)) (.leaf (53, (.getfield 34, 56, 1006), 354))) (.branch 59 (.leaf (56, (.invokevirtual 111, 59, 34), 594)) (.branch 60 (.leaf (59, (.iastore, 60, 0), 0)) (.leaf (60, (.iinc 3 1, 63, 0), 0))))) (.branch 70 (.branch 66 (.leaf (63, (.goto (-47), 66, 16), 0)) (.branch 67 (.leaf (66, (.aload_n 2, 67, 0), 0)) (.leaf (67, (.invokevirtual 117, 70, 10), 629)))) (.branch 73 (.leaf (70, (.iinc 1 1, 73, 0), 0)) (.branch 76 (.leaf (73, (.goto (-71), 76, 2), 0)) (.leaf (76, (.return_, 77, 0), 0))))))
/-- DeckBench$TextReader.sortDecks()V -/
def mt_106 : Lean.RArray mLf :=
  .branch 33 (mt_106_0) (mt_106_1)
set_option maxRecDepth 100000 in
/-- DeckBench$TextReader.readNet()V -/
def mt_107 : Lean.RArray mLf :=
  .branch 26 (.branch 11 (.branch 5 (.branch 1 (.leaf (0, (.aload_n 0, 1, 0), 0)) (.branch 4 (.leaf (1, (.invokevirtual 97, 4, 117), 466)) (.leaf (4, (.aload_n 0, 5, 0), 0)))) (.branch 7 (.branch 6 (.leaf (5, (.iconst 0, 6, 0), 0)) (.leaf (6, (.iconst 5, 7, 0), 0))) (.branch 10 (.leaf (7, (.invokevirtual 120, 10, 112), 530)) (.leaf (10, (.istore_n 1, 11, 0), 0))))) (.branch 18 (.branch 13 (.branch 12 (.leaf (11, (.aload_n 0, 12, 0), 0)) (.leaf (12, (.iconst 0, 13, 0), 0))) (.branch 15 (.leaf (13, (.bipush 7, 15, 0), 0)) (.leaf (15, (.invokevirtual 120, 18, 112), 530)))) (.branch 20 (.branch 19 (.leaf (18, (.istore_n 2, 19, 0), 0)) (.leaf (19, (.aload_n 0, 20, 0), 0))) (.branch 23 (.leaf (20, (.getfield 23, 23, 1002), 347)) (.leaf (23, (.ifCond .eq 4, 26, 27), 0)))))) (.branch 38 (.branch 32 (.branch 28 (.branch 27 (.leaf (26, (.return_, 27, 0), 0)) (.leaf (27, (.aload_n 0, 28, 0), 0))) (.branch 31 (.leaf (28, (.getfield 11, 31, 1000), 343)) (.leaf (31, (.iload_n 1, 32, 0), 0)))) (.branch 34 (.branch 33 (.leaf (32, (.aaload, 33, 0), 0)) (.leaf (33, (.iload_n 2, 34, 0), 0))) (.branch 37 (.leaf (34, (.invokevirtual 83, 37, 55), 450)) (.leaf (37, (.aload_n 0, 38, 0), 0))))) (.branch 44 (.branch 42 (.branch 39 (.leaf (38, (.aload_n 0, 39, 0), 0)) (.leaf (39, (.getfield 11, 42, 1000), 343))) (.branch 43 (.leaf (42, (.iload_n 1, 43, 0), 0)) (.leaf (43, (.aaload, 44, 0), 0)))) (.branch 48 (.branch 47 (.leaf (44, (.invokevirtual 123, 47, 110), 538)) (.leaf (47, (.aload_n 0, 48, 0), 0))) (.branch 51 (.leaf (48, (.invokevirtual 127, 51, 113), 559)) (.leaf (51, (.return_, 52, 0), 0))))))
set_option maxRecDepth 100000 in
def mt_108_0 : Lean.RArray mLf :=
  .branch 27 (.branch 12 (.branch 6 (.branch 4 (.branch 1 (.leaf (0, (.aload_n 0, 1, 0), 0)) (.leaf (1, (.invokevirtual 97, 4, 117), 466))) (.branch 5 (.leaf (4, (.aload_n 0, 5, 0), 0)) (.leaf (5, (.iconst 0, 6, 0), 0)))) (.branch 10 (.branch 7 (.leaf (6, (.iconst 2, 7, 0), 0)) (.leaf (7, (.invokevirtual 120, 10, 112), 530))) (.branch 11 (.leaf (10, (.istore_n 1, 11, 0), 0)) (.leaf (11, (.aload_n 0, 12, 0), 0))))) (.branch 19 (.branch 15 (.branch 13 (.leaf (12, (.iconst 2, 13, 0), 0)) (.leaf (13, (.bipush 7, 15, 0), 0))) (.branch 18 (.leaf (15, (.invokevirtual 120, 18, 112), 530)) (.leaf (18, (.istore_n 2, 19, 0), 0)))) (.branch 23 (.branch 20 (.leaf (19, (.aload_n 0, 20, 0), 0)) (.leaf (20, (.getfield 23, 23, 1002), 347))) (.branch 26 (.leaf (23, (.ifCond .eq 4, 26, 27), 0)) (.leaf (26, (.return_, 27, 0), 0)))))) (.branch 39 (.branch 33 (.branch 31 (.branch 28 (.leaf (27, (.aload_n 0, 28, 0), 0)) (.leaf (28, (.getfield 19, 31, 1001), 345))) (.branch 32 (.leaf (31, (.iload_n 1, 32, 0), 0)) (.leaf (32, (.aaload, 33, 0), 0)))) (.branch 35 (.branch 34 (.leaf (33, (.astore_n 3, 34, 0), 0)) (.leaf (34, (.aload_n 3, 35, 0), 0))) (.branch 38 (.leaf (35, (.invokevirtual 86, 38, 9), 460)) (.leaf (38, (.iconst 0, 39, 0), 0))))) (.branch 47 (.branch 43 (.branch 41 (.leaf (39, (.istore 4, 41, 0), 0)) (.leaf (41, (.iload 4, 43, 0), 0))) (.branch 44 (.leaf (43, (.iload_n 2, 44, 0), 0)) (.leaf (44, (.if_icmp .gt 31, 47, 75), 0)))) (.branch 51 (.branch 48 (.leaf (47, (.aload_n 0, 48, 0), 0)) (.leaf (48, (.getfield 23, 51, 1002), 347))) (.branch 54 (.leaf (51, (.ifCond .ne 24, 54, 75), 0)) (.branch 55 (.leaf (54, (.aload_n 0, 55, 0), 0)) (.leaf (55, (.ldc 130, 57, 4294967308), 572)))))))
set_option maxRecDepth 100000 in
def mt_108_1 : Lean.RArray mLf :=
  .branch 91 (.branch 75 (.branch 65 (.branch 63 (.branch 60 (.leaf (57, (.invokevirtual 65, 60, 116), 474)) (.leaf (60, (.ifCond .eq 15, 63, 75), 0))) (.branch 64 (.leaf (63, (.aload_n 0, 64, 0), 0)) (.leaf (64, (.aload_n 3, 65, 0), 0)))) (.branch 69 (.branch 66 (.leaf (65, (.iload_n 2, 66, 0), 0)) (.leaf (66, (.invokevirtual 131, 69, 109), 573))) (.branch 72 (.leaf (69, (.iinc 4 1, 72, 0), 0)) (.leaf (72, (.goto (-31), 75, 41), 0))))) (.branch 83 (.branch 79 (.branch 76 (.leaf (75, (.aload_n 0, 76, 0), 0)) (.leaf (76, (.getfield 23, 79, 1002), 347))) (.branch 82 (.leaf (79, (.ifCond .eq 4, 82, 83), 0)) (.leaf (82, (.return_, 83, 0), 0)))) (.branch 87 (.branch 84 (.leaf (83, (.aload_n 3, 84, 0), 0)) (.leaf (84, (.getfield 100, 87, 100), 296))) (.branch 90 (.leaf (87, (.ifCond .ne 11, 90, 98), 0)) (.leaf (90, (.aload_n 0, 91, 0), 0)))))) (.branch 107 (.branch 99 (.branch 95 (.branch 92 (.leaf (91, (.iconst 1, 92, 0), 0)) (.leaf (92, (.invokevirtual 77, 95, 114), 534))) (.branch 98 (.leaf (95, (.goto 30, 98, 125), 0)) (.leaf (98, (.aload_n 3, 99, 0), 0)))) (.branch 103 (.branch 102 (.leaf (99, (.getfield 100, 102, 100), 296)) (.leaf (102, (.iload_n 2, 103, 0), 0))) (.branch 106 (.leaf (103, (.if_icmp .ge 18, 106, 121), 0)) (.leaf (106, (.aload_n 0, 107, 0), 0))))) (.branch 115 (.branch 113 (.branch 110 (.leaf (107, (.invokevirtual 135, 110, 115), 563)) (.leaf (110, (.ifCond .eq 11, 113, 121), 0))) (.branch 114 (.leaf (113, (.aload_n 0, 114, 0), 0)) (.leaf (114, (.iconst 4, 115, 0), 0)))) (.branch 121 (.branch 118 (.leaf (115, (.invokevirtual 77, 118, 114), 534)) (.leaf (118, (.goto 7, 121, 125), 0))) (.branch 122 (.leaf (121, (.aload_n 0, 122, 0), 0)) (.branch 125 (.leaf (122, (.invokevirtual 127, 125, 113), 559)) (.leaf (125, (.return_, 126, 0), 0)))))))
/-- DeckBench$TextReader.readDeck()V -/
def mt_108 : Lean.RArray mLf :=
  .branch 57 (mt_108_0) (mt_108_1)
set_option maxRecDepth 100000 in
def mt_109_0 : Lean.RArray mLf :=
  .branch 19 (.branch 9 (.branch 4 (.branch 1 (.leaf (0, (.aload_n 1, 1, 0), 0)) (.leaf (1, (.getfield 100, 4, 100), 296))) (.branch 5 (.leaf (4, (.iload_n 2, 5, 0), 0)) (.branch 8 (.leaf (5, (.if_icmp .ge 12, 8, 17), 0)) (.leaf (8, (.aload_n 1, 9, 0), 0))))) (.branch 14 (.branch 12 (.leaf (9, (.getfield 100, 12, 100), 296)) (.leaf (12, (.bipush 7, 14, 0), 0))) (.branch 17 (.leaf (14, (.if_icmp .lt 9, 17, 23), 0)) (.branch 18 (.leaf (17, (.aload_n 0, 18, 0), 0)) (.leaf (18, (.iconst 4, 19, 0), 0)))))) (.branch 28 (.branch 23 (.branch 22 (.leaf (19, (.invokevirtual 77, 22, 114), 534)) (.leaf (22, (.return_, 23, 0), 0))) (.branch 24 (.leaf (23, (.aload_n 0, 24, 0), 0)) (.branch 27 (.leaf (24, (.invokevirtual 97, 27, 117), 466)) (.leaf (27, (.aload_n 0, 28, 0), 0))))) (.branch 33 (.branch 31 (.leaf (28, (.getfield 34, 31, 1006), 354)) (.branch 32 (.leaf (31, (.iload_n 2, 32, 0), 0)) (.leaf (32, (.iconst 1, 33, 0), 0)))) (.branch 34 (.leaf (33, (.isub, 34, 0), 0)) (.branch 37 (.leaf (34, (.invokevirtual 83, 37, 55), 450)) (.leaf (37, (.aload_n 0, 38, 0), 0))))))
set_option maxRecDepth 100000 in
def mt_109_1 : Lean.RArray mLf :=
  .branch 60 (.branch 49 (.branch 42 (.branch 39 (.leaf (38, (.aload_n 0, 39, 0), 0)) (.leaf (39, (.getfield 34, 42, 1006), 354))) (.branch 45 (.leaf (42, (.invokevirtual 123, 45, 110), 538)) (.branch 46 (.leaf (45, (.aload_n 0, 46, 0), 0)) (.leaf (46, (.getfield 23, 49, 1002), 347))))) (.branch 53 (.branch 52 (.leaf (49, (.ifCond .ne 29, 52, 78), 0)) (.leaf (52, (.aload_n 1, 53, 0), 0))) (.branch 56 (.leaf (53, (.getfield 103, 56, 101), 304)) (.branch 57 (.leaf (56, (.aload_n 1, 57, 0), 0)) (.leaf (57, (.getfield 100, 60, 100), 296)))))) (.branch 69 (.branch 64 (.branch 61 (.leaf (60, (.aload_n 0, 61, 0), 0)) (.leaf (61, (.getfield 34, 64, 1006), 354))) (.branch 67 (.leaf (64, (.invokevirtual 139, 67, 59), 577)) (.branch 68 (.leaf (67, (.iastore, 68, 0), 0)) (.leaf (68, (.aload_n 1, 69, 0), 0))))) (.branch 74 (.branch 70 (.leaf (69, (.dup, 70, 0), 0)) (.branch 73 (.leaf (70, (.getfield 100, 73, 100), 296)) (.leaf (73, (.iconst 1, 74, 0), 0)))) (.branch 75 (.leaf (74, (.iadd, 75, 0), 0)) (.branch 78 (.leaf (75, (.putfield 100, 78, 100), 296)) (.leaf (78, (.return_, 79, 0), 0))))))
/-- DeckBench$TextReader.readCard(LDeckBench$Deck;I)V -/
def mt_109 : Lean.RArray mLf :=
  .branch 38 (mt_109_0) (mt_109_1)
set_option maxRecDepth 100000 in
/-- DeckBench$TextReader.readPairs(LDeckBench$Net;)V -/
def mt_110 : Lean.RArray mLf :=
  .branch 17 (.branch 4 (.branch 2 (.branch 1 (.leaf (0, (.iconst 0, 1, 0), 0)) (.leaf (1, (.istore_n 2, 2, 0), 0))) (.branch 3 (.leaf (2, (.iload_n 2, 3, 0), 0)) (.leaf (3, (.aload_n 0, 4, 0), 0)))) (.branch 10 (.branch 7 (.leaf (4, (.getfield 38, 7, 1008), 356)) (.leaf (7, (.if_icmp .gt 29, 10, 36), 0))) (.branch 11 (.leaf (10, (.aload_n 0, 11, 0), 0)) (.branch 14 (.leaf (11, (.getfield 23, 14, 1002), 347)) (.leaf (14, (.ifCond .ne 22, 17, 36), 0)))))) (.branch 26 (.branch 21 (.branch 18 (.leaf (17, (.aload_n 0, 18, 0), 0)) (.leaf (18, (.getfield 41, 21, 1009), 357))) (.branch 22 (.leaf (21, (.iconst 1, 22, 0), 0)) (.branch 25 (.leaf (22, (.if_icmp .ne 14, 25, 36), 0)) (.leaf (25, (.aload_n 0, 26, 0), 0))))) (.branch 30 (.branch 27 (.leaf (26, (.aload_n 1, 27, 0), 0)) (.leaf (27, (.invokevirtual 143, 30, 111), 542))) (.branch 33 (.leaf (30, (.iinc 2 1, 33, 0), 0)) (.branch 36 (.leaf (33, (.goto (-31), 36, 2), 0)) (.leaf (36, (.return_, 37, 0), 0))))))
set_option maxRecDepth 100000 in
def mt_111_0 : Lean.RArray mLf :=
  .branch 24 (.branch 13 (.branch 5 (.branch 1 (.leaf (0, (.aload_n 0, 1, 0), 0)) (.branch 4 (.leaf (1, (.getfield 47, 4, 1011), 359)) (.leaf (4, (.aload_n 0, 5, 0), 0)))) (.branch 9 (.branch 8 (.leaf (5, (.getfield 44, 8, 1010), 358)) (.leaf (8, (.isub, 9, 0), 0))) (.branch 10 (.leaf (9, (.iconst 2, 10, 0), 0)) (.leaf (10, (.if_icmp .eq 9, 13, 19), 0))))) (.branch 18 (.branch 14 (.leaf (13, (.aload_n 0, 14, 0), 0)) (.branch 15 (.leaf (14, (.iconst 2, 15, 0), 0)) (.leaf (15, (.invokevirtual 77, 18, 114), 534)))) (.branch 20 (.branch 19 (.leaf (18, (.return_, 19, 0), 0)) (.leaf (19, (.aload_n 0, 20, 0), 0))) (.branch 23 (.leaf (20, (.getfield 50, 23, 1007), 355)) (.leaf (23, (.aload_n 0, 24, 0), 0)))))) (.branch 36 (.branch 30 (.branch 27 (.leaf (24, (.getfield 44, 27, 1010), 358)) (.branch 28 (.leaf (27, (.baload, 28, 0), 0)) (.leaf (28, (.bipush 48, 30, 0), 0)))) (.branch 32 (.branch 31 (.leaf (30, (.isub, 31, 0), 0)) (.leaf (31, (.istore_n 2, 32, 0), 0))) (.branch 33 (.leaf (32, (.aload_n 0, 33, 0), 0)) (.leaf (33, (.getfield 50, 36, 1007), 355))))) (.branch 41 (.branch 37 (.leaf (36, (.aload_n 0, 37, 0), 0)) (.branch 40 (.leaf (37, (.getfield 44, 40, 1010), 358)) (.leaf (40, (.iconst 1, 41, 0), 0)))) (.branch 43 (.branch 42 (.leaf (41, (.iadd, 42, 0), 0)) (.leaf (42, (.baload, 43, 0), 0))) (.branch 45 (.leaf (43, (.bipush 48, 45, 0), 0)) (.leaf (45, (.isub, 46, 0), 0))))))
set_option maxRecDepth 100000 in
def mt_111_1 : Lean.RArray mLf :=
  .branch 70 (.branch 57 (.branch 49 (.branch 47 (.leaf (46, (.istore_n 3, 47, 0), 0)) (.branch 48 (.leaf (47, (.iload_n 2, 48, 0), 0)) (.leaf (48, (.iload_n 3, 49, 0), 0)))) (.branch 53 (.branch 52 (.leaf (49, (.if_icmp .eq 28, 52, 77), 0)) (.leaf (52, (.aload_n 1, 53, 0), 0))) (.branch 54 (.leaf (53, (.iload_n 2, 54, 0), 0)) (.leaf (54, (.invokevirtual 146, 57, 61), 546))))) (.branch 62 (.branch 60 (.leaf (57, (.ifCond .eq 20, 60, 77), 0)) (.branch 61 (.leaf (60, (.aload_n 1, 61, 0), 0)) (.leaf (61, (.iload_n 3, 62, 0), 0)))) (.branch 68 (.branch 65 (.leaf (62, (.invokevirtual 146, 65, 61), 546)) (.leaf (65, (.ifCond .eq 12, 68, 77), 0))) (.branch 69 (.leaf (68, (.aload_n 1, 69, 0), 0)) (.leaf (69, (.iload_n 2, 70, 0), 0)))))) (.branch 83 (.branch 77 (.branch 71 (.leaf (70, (.iload_n 3, 71, 0), 0)) (.branch 74 (.leaf (71, (.invokevirtual 150, 74, 64), 550)) (.leaf (74, (.ifCond .eq 9, 77, 83), 0)))) (.branch 79 (.branch 78 (.leaf (77, (.aload_n 0, 78, 0), 0)) (.leaf (78, (.iconst 3, 79, 0), 0))) (.branch 82 (.leaf (79, (.invokevirtual 77, 82, 114), 534)) (.leaf (82, (.return_, 83, 0), 0))))) (.branch 86 (.branch 84 (.leaf (83, (.aload_n 1, 84, 0), 0)) (.branch 85 (.leaf (84, (.iload_n 2, 85, 0), 0)) (.leaf (85, (.iload_n 3, 86, 0), 0)))) (.branch 90 (.branch 89 (.leaf (86, (.invokevirtual 154, 89, 65), 555)) (.leaf (89, (.aload_n 0, 90, 0), 0))) (.branch 93 (.leaf (90, (.invokevirtual 97, 93, 117), 466)) (.leaf (93, (.return_, 94, 0), 0))))))
/-- DeckBench$TextReader.readPair(LDeckBench$Net;)V -/
def mt_111 : Lean.RArray mLf :=
  .branch 46 (mt_111_0) (mt_111_1)
set_option maxRecDepth 100000 in
def mt_112_0 : Lean.RArray mLf :=
  .branch 19 (.branch 9 (.branch 4 (.branch 1 (.leaf (0, (.aload_n 0, 1, 0), 0)) (.leaf (1, (.getfield 23, 4, 1002), 347))) (.branch 7 (.leaf (4, (.ifCond .eq 5, 7, 9), 0)) (.branch 8 (.leaf (7, (.iload_n 1, 8, 0), 0)) (.leaf (8, (.ireturn, 9, 0), 0))))) (.branch 14 (.branch 10 (.leaf (9, (.aload_n 0, 10, 0), 0)) (.branch 13 (.leaf (10, (.getfield 41, 13, 1009), 357)) (.leaf (13, (.iconst 1, 14, 0), 0)))) (.branch 17 (.leaf (14, (.if_icmp .eq 10, 17, 24), 0)) (.branch 18 (.leaf (17, (.aload_n 0, 18, 0), 0)) (.leaf (18, (.iconst 1, 19, 0), 0)))))) (.branch 28 (.branch 23 (.branch 22 (.leaf (19, (.invokevirtual 77, 22, 114), 534)) (.leaf (22, (.iload_n 1, 23, 0), 0))) (.branch 24 (.leaf (23, (.ireturn, 24, 0), 0)) (.branch 25 (.leaf (24, (.aload_n 0, 25, 0), 0)) (.leaf (25, (.getfield 50, 28, 1007), 355))))) (.branch 33 (.branch 29 (.leaf (28, (.aload_n 0, 29, 0), 0)) (.branch 32 (.leaf (29, (.getfield 44, 32, 1010), 358)) (.leaf (32, (.baload, 33, 0), 0)))) (.branch 35 (.leaf (33, (.bipush 48, 35, 0), 0)) (.branch 36 (.leaf (35, (.isub, 36, 0), 0)) (.leaf (36, (.istore_n 3, 37, 0), 0))))))
set_option maxRecDepth 100000 in
def mt_112_1 : Lean.RArray mLf :=
  .branch 56 (.branch 46 (.branch 41 (.branch 38 (.leaf (37, (.aload_n 0, 38, 0), 0)) (.leaf (38, (.getfield 47, 41, 1011), 359))) (.branch 42 (.leaf (41, (.aload_n 0, 42, 0), 0)) (.branch 45 (.leaf (42, (.getfield 44, 45, 1010), 358)) (.leaf (45, (.isub, 46, 0), 0))))) (.branch 51 (.branch 47 (.leaf (46, (.iconst 1, 47, 0), 0)) (.branch 50 (.leaf (47, (.if_icmp .ne 13, 50, 60), 0)) (.leaf (50, (.iload_n 3, 51, 0), 0)))) (.branch 52 (.leaf (51, (.iload_n 1, 52, 0), 0)) (.branch 55 (.leaf (52, (.if_icmp .lt 8, 55, 60), 0)) (.leaf (55, (.iload_n 3, 56, 0), 0)))))) (.branch 65 (.branch 60 (.branch 57 (.leaf (56, (.iload_n 2, 57, 0), 0)) (.leaf (57, (.if_icmp .le 10, 60, 67), 0))) (.branch 61 (.leaf (60, (.aload_n 0, 61, 0), 0)) (.branch 62 (.leaf (61, (.iconst 2, 62, 0), 0)) (.leaf (62, (.invokevirtual 77, 65, 114), 534))))) (.branch 68 (.branch 66 (.leaf (65, (.iload_n 1, 66, 0), 0)) (.branch 67 (.leaf (66, (.ireturn, 67, 0), 0)) (.leaf (67, (.aload_n 0, 68, 0), 0)))) (.branch 71 (.leaf (68, (.invokevirtual 97, 71, 117), 466)) (.branch 72 (.leaf (71, (.iload_n 3, 72, 0), 0)) (.leaf (72, (.ireturn, 73, 0), 0))))))
/-- DeckBench$TextReader.readDigit(II)I -/
def mt_112 : Lean.RArray mLf :=
  .branch 37 (mt_112_0) (mt_112_1)
set_option maxRecDepth 100000 in
/-- DeckBench$TextReader.readLineEnd()V -/
def mt_113 : Lean.RArray mLf :=
  .branch 15 (.branch 7 (.branch 1 (.leaf (0, (.aload_n 0, 1, 0), 0)) (.branch 4 (.leaf (1, (.getfield 23, 4, 1002), 347)) (.leaf (4, (.ifCond .eq 4, 7, 8), 0)))) (.branch 9 (.branch 8 (.leaf (7, (.return_, 8, 0), 0)) (.leaf (8, (.aload_n 0, 9, 0), 0))) (.branch 12 (.leaf (9, (.invokevirtual 135, 12, 115), 563)) (.leaf (12, (.ifCond .eq 10, 15, 22), 0))))) (.branch 22 (.branch 16 (.leaf (15, (.aload_n 0, 16, 0), 0)) (.branch 19 (.leaf (16, (.invokevirtual 97, 19, 117), 466)) (.leaf (19, (.goto 8, 22, 27), 0)))) (.branch 24 (.branch 23 (.leaf (22, (.aload_n 0, 23, 0), 0)) (.leaf (23, (.iconst 1, 24, 0), 0))) (.branch 27 (.leaf (24, (.invokevirtual 77, 27, 114), 534)) (.leaf (27, (.return_, 28, 0), 0)))))
set_option maxRecDepth 100000 in
/-- DeckBench$TextReader.refuse(I)V -/
def mt_114 : Lean.RArray mLf :=
  .branch 6 (.branch 2 (.branch 1 (.leaf (0, (.aload_n 0, 1, 0), 0)) (.leaf (1, (.iload_n 1, 2, 0), 0))) (.branch 5 (.leaf (2, (.putfield 23, 5, 1002), 347)) (.leaf (5, (.aload_n 0, 6, 0), 0)))) (.branch 10 (.branch 7 (.leaf (6, (.aload_n 0, 7, 0), 0)) (.leaf (7, (.getfield 44, 10, 1010), 358))) (.branch 13 (.leaf (10, (.putfield 27, 13, 1003), 349)) (.leaf (13, (.return_, 14, 0), 0))))
set_option maxRecDepth 100000 in
/-- DeckBench$TextReader.isLineEnd()Z -/
def mt_115 : Lean.RArray mLf :=
  .branch 13 (.branch 5 (.branch 1 (.leaf (0, (.aload_n 0, 1, 0), 0)) (.branch 4 (.leaf (1, (.getfield 41, 4, 1009), 357)) (.leaf (4, (.iconst 3, 5, 0), 0)))) (.branch 9 (.branch 8 (.leaf (5, (.if_icmp .ne 21, 8, 26), 0)) (.leaf (8, (.aload_n 0, 9, 0), 0))) (.branch 12 (.leaf (9, (.getfield 50, 12, 1007), 355)) (.leaf (12, (.aload_n 0, 13, 0), 0))))) (.branch 22 (.branch 17 (.branch 16 (.leaf (13, (.getfield 44, 16, 1010), 358)) (.leaf (16, (.baload, 17, 0), 0))) (.branch 19 (.leaf (17, (.bipush 59, 19, 0), 0)) (.leaf (19, (.if_icmp .ne 7, 22, 26), 0)))) (.branch 26 (.branch 23 (.leaf (22, (.iconst 1, 23, 0), 0)) (.leaf (23, (.goto 4, 26, 27), 0))) (.branch 27 (.leaf (26, (.iconst 0, 27, 0), 0)) (.leaf (27, (.ireturn, 28, 0), 0)))))
set_option maxRecDepth 100000 in
/-- DeckBench$TextReader.isWord(Ljava/lang/String;)Z -/
def mt_116 : Lean.RArray mLf :=
  .branch 30 (.branch 17 (.branch 8 (.branch 4 (.branch 1 (.leaf (0, (.aload_n 0, 1, 0), 0)) (.leaf (1, (.getfield 41, 4, 1009), 357))) (.branch 5 (.leaf (4, (.iconst 2, 5, 0), 0)) (.leaf (5, (.if_icmp .ne 19, 8, 24), 0)))) (.branch 12 (.branch 9 (.leaf (8, (.aload_n 0, 9, 0), 0)) (.leaf (9, (.getfield 47, 12, 1011), 359))) (.branch 13 (.leaf (12, (.aload_n 0, 13, 0), 0)) (.branch 16 (.leaf (13, (.getfield 44, 16, 1010), 358)) (.leaf (16, (.isub, 17, 0), 0)))))) (.branch 25 (.branch 21 (.branch 18 (.leaf (17, (.aload_n 1, 18, 0), 0)) (.leaf (18, (.invokevirtual 157, 21, 260), 478))) (.branch 24 (.leaf (21, (.if_icmp .eq 5, 24, 26), 0)) (.leaf (24, (.iconst 0, 25, 0), 0)))) (.branch 27 (.branch 26 (.leaf (25, (.ireturn, 26, 0), 0)) (.leaf (26, (.iconst 0, 27, 0), 0))) (.branch 28 (.leaf (27, (.istore_n 2, 28, 0), 0)) (.branch 29 (.leaf (28, (.iload_n 2, 29, 0), 0)) (.leaf (29, (.aload_n 1, 30, 0), 0))))))) (.branch 47 (.branch 40 (.branch 36 (.branch 33 (.leaf (30, (.invokevirtual 157, 33, 260), 478)) (.leaf (33, (.if_icmp .ge 30, 36, 63), 0))) (.branch 37 (.leaf (36, (.aload_n 0, 37, 0), 0)) (.leaf (37, (.getfield 50, 40, 1007), 355)))) (.branch 44 (.branch 41 (.leaf (40, (.aload_n 0, 41, 0), 0)) (.leaf (41, (.getfield 44, 44, 1010), 358))) (.branch 45 (.leaf (44, (.iload_n 2, 45, 0), 0)) (.branch 46 (.leaf (45, (.iadd, 46, 0), 0)) (.leaf (46, (.baload, 47, 0), 0)))))) (.branch 56 (.branch 49 (.branch 48 (.leaf (47, (.aload_n 1, 48, 0), 0)) (.leaf (48, (.iload_n 2, 49, 0), 0))) (.branch 52 (.leaf (49, (.invokevirtual 161, 52, 256), 488)) (.branch 55 (.leaf (52, (.if_icmp .eq 5, 55, 57), 0)) (.leaf (55, (.iconst 0, 56, 0), 0))))) (.branch 60 (.branch 57 (.leaf (56, (.ireturn, 57, 0), 0)) (.leaf (57, (.iinc 2 1, 60, 0), 0))) (.branch 63 (.leaf (60, (.goto (-32), 63, 28), 0)) (.branch 64 (.leaf (63, (.iconst 1, 64, 0), 0)) (.leaf (64, (.ireturn, 65, 0), 0)))))))
set_option maxRecDepth 100000 in
def mt_117_0 : Lean.RArray mLf :=
  .branch 38 (.branch 19 (.branch 8 (.branch 2 (.branch 1 (.leaf (0, (.aload_n 0, 1, 0), 0)) (.leaf (1, (.aload_n 0, 2, 0), 0))) (.branch 5 (.leaf (2, (.getfield 47, 5, 1011), 359)) (.leaf (5, (.putfield 44, 8, 1010), 358)))) (.branch 12 (.branch 9 (.leaf (8, (.aload_n 0, 9, 0), 0)) (.leaf (9, (.getfield 44, 12, 1010), 358))) (.branch 13 (.leaf (12, (.aload_n 0, 13, 0), 0)) (.branch 16 (.leaf (13, (.getfield 38, 16, 1008), 356)) (.leaf (16, (.if_icmp .ge 30, 19, 46), 0)))))) (.branch 28 (.branch 23 (.branch 20 (.leaf (19, (.aload_n 0, 20, 0), 0)) (.leaf (20, (.getfield 50, 23, 1007), 355))) (.branch 24 (.leaf (23, (.aload_n 0, 24, 0), 0)) (.branch 27 (.leaf (24, (.getfield 44, 27, 1010), 358)) (.leaf (27, (.baload, 28, 0), 0))))) (.branch 33 (.branch 30 (.leaf (28, (.bipush 32, 30, 0), 0)) (.leaf (30, (.if_icmp .ne 16, 33, 46), 0))) (.branch 34 (.leaf (33, (.aload_n 0, 34, 0), 0)) (.branch 35 (.leaf (34, (.dup, 35, 0), 0)) (.leaf (35, (.getfield 44, 38, 1010), 358))))))) (.branch 57 (.branch 46 (.branch 40 (.branch 39 (.leaf (38, (.iconst 1, 39, 0), 0)) (.leaf (39, (.iadd, 40, 0), 0))) (.branch 43 (.leaf (40, (.putfield 44, 43, 1010), 358)) (.leaf (43, (.goto (-35), 46, 8), 0)))) (.branch 50 (.branch 47 (.leaf (46, (.aload_n 0, 47, 0), 0)) (.leaf (47, (.getfield 44, 50, 1010), 358))) (.branch 51 (.leaf (50, (.aload_n 0, 51, 0), 0)) (.branch 54 (.leaf (51, (.getfield 38, 54, 1008), 356)) (.leaf (54, (.if_icmp .lt 17, 57, 71), 0)))))) (.branch 64 (.branch 59 (.branch 58 (.leaf (57, (.aload_n 0, 58, 0), 0)) (.leaf (58, (.iconst 0, 59, 0), 0))) (.branch 62 (.leaf (59, (.putfield 41, 62, 1009), 357)) (.branch 63 (.leaf (62, (.aload_n 0, 63, 0), 0)) (.leaf (63, (.aload_n 0, 64, 0), 0))))) (.branch 70 (.branch 67 (.leaf (64, (.getfield 44, 67, 1010), 358)) (.leaf (67, (.putfield 47, 70, 1011), 359))) (.branch 71 (.leaf (70, (.return_, 71, 0), 0)) (.branch 72 (.leaf (71, (.aload_n 0, 72, 0), 0)) (.leaf (72, (.aload_n 0, 73, 0), 0)))))))
set_option maxRecDepth 100000 in
def mt_117_1 : Lean.RArray mLf :=
  .branch 110 (.branch 92 (.branch 81 (.branch 77 (.branch 76 (.leaf (73, (.getfield 50, 76, 1007), 355)) (.leaf (76, (.aload_n 0, 77, 0), 0))) (.branch 80 (.leaf (77, (.getfield 44, 80, 1010), 358)) (.leaf (80, (.baload, 81, 0), 0)))) (.branch 87 (.branch 84 (.leaf (81, (.invokestatic 165, 84, 118), 470)) (.leaf (84, (.putfield 41, 87, 1009), 357))) (.branch 88 (.leaf (87, (.aload_n 0, 88, 0), 0)) (.branch 89 (.leaf (88, (.aload_n 0, 89, 0), 0)) (.leaf (89, (.getfield 44, 92, 1010), 358)))))) (.branch 101 (.branch 94 (.branch 93 (.leaf (92, (.iconst 1, 93, 0), 0)) (.leaf (93, (.iadd, 94, 0), 0))) (.branch 97 (.leaf (94, (.putfield 47, 97, 1011), 359)) (.branch 98 (.leaf (97, (.aload_n 0, 98, 0), 0)) (.leaf (98, (.getfield 41, 101, 1009), 357))))) (.branch 105 (.branch 102 (.leaf (101, (.iconst 3, 102, 0), 0)) (.leaf (102, (.if_icmp .eq 46, 105, 148), 0))) (.branch 106 (.leaf (105, (.aload_n 0, 106, 0), 0)) (.branch 109 (.leaf (106, (.getfield 47, 109, 1011), 359)) (.leaf (109, (.aload_n 0, 110, 0), 0))))))) (.branch 129 (.branch 120 (.branch 116 (.branch 113 (.leaf (110, (.getfield 38, 113, 1008), 356)) (.leaf (113, (.if_icmp .ge 35, 116, 148), 0))) (.branch 117 (.leaf (116, (.aload_n 0, 117, 0), 0)) (.leaf (117, (.getfield 50, 120, 1007), 355)))) (.branch 124 (.branch 121 (.leaf (120, (.aload_n 0, 121, 0), 0)) (.leaf (121, (.getfield 47, 124, 1011), 359))) (.branch 125 (.leaf (124, (.baload, 125, 0), 0)) (.branch 128 (.leaf (125, (.invokestatic 165, 128, 118), 470)) (.leaf (128, (.aload_n 0, 129, 0), 0)))))) (.branch 140 (.branch 135 (.branch 132 (.leaf (129, (.getfield 41, 132, 1009), 357)) (.leaf (132, (.if_icmp .ne 16, 135, 148), 0))) (.branch 136 (.leaf (135, (.aload_n 0, 136, 0), 0)) (.branch 137 (.leaf (136, (.dup, 137, 0), 0)) (.leaf (137, (.getfield 47, 140, 1011), 359))))) (.branch 142 (.branch 141 (.leaf (140, (.iconst 1, 141, 0), 0)) (.leaf (141, (.iadd, 142, 0), 0))) (.branch 145 (.leaf (142, (.putfield 47, 145, 1011), 359)) (.branch 148 (.leaf (145, (.goto (-48), 148, 97), 0)) (.leaf (148, (.return_, 149, 0), 0)))))))
/-- DeckBench$TextReader.advance()V -/
def mt_117 : Lean.RArray mLf :=
  .branch 73 (mt_117_0) (mt_117_1)
set_option maxRecDepth 100000 in
/-- DeckBench$TextReader.kindOf(B)I -/
def mt_118 : Lean.RArray mLf :=
  .branch 15 (.branch 7 (.branch 3 (.branch 1 (.leaf (0, (.iload_n 0, 1, 0), 0)) (.leaf (1, (.bipush 48, 3, 0), 0))) (.branch 6 (.leaf (3, (.if_icmp .lt 11, 6, 14), 0)) (.leaf (6, (.iload_n 0, 7, 0), 0)))) (.branch 12 (.branch 9 (.leaf (7, (.bipush 57, 9, 0), 0)) (.leaf (9, (.if_icmp .gt 5, 12, 14), 0))) (.branch 13 (.leaf (12, (.iconst 1, 13, 0), 0)) (.branch 14 (.leaf (13, (.ireturn, 14, 0), 0)) (.leaf (14, (.iload_n 0, 15, 0), 0)))))) (.branch 23 (.branch 20 (.branch 17 (.leaf (15, (.bipush 97, 17, 0), 0)) (.leaf (17, (.if_icmp .lt 13, 20, 30), 0))) (.branch 21 (.leaf (20, (.iload_n 0, 21, 0), 0)) (.leaf (21, (.bipush 122, 23, 0), 0)))) (.branch 27 (.branch 26 (.leaf (23, (.if_icmp .gt 7, 26, 30), 0)) (.leaf (26, (.iconst 2, 27, 0), 0))) (.branch 30 (.leaf (27, (.goto 4, 30, 31), 0)) (.branch 31 (.leaf (30, (.iconst 3, 31, 0), 0)) (.leaf (31, (.ireturn, 32, 0), 0))))))
set_option maxRecDepth 100000 in
def mt_119_0 : Lean.RArray mLf :=
  .branch 35 (.branch 15 (.branch 7 (.branch 4 (.branch 1 (.leaf (0, (.aload_n 0, 1, 0), 0)) (.leaf (1, (.invokespecial 1, 4, 900), 102))) (.branch 5 (.leaf (4, (.aload_n 0, 5, 0), 0)) (.leaf (5, (.bipush 6, 7, 0), 0)))) (.branch 13 (.branch 10 (.leaf (7, (.anewarray 9, 10, 3), 105)) (.leaf (10, (.putfield 11, 13, 1100), 387))) (.branch 14 (.leaf (13, (.aload_n 0, 14, 0), 0)) (.leaf (14, (.iconst 3, 15, 0), 0))))) (.branch 25 (.branch 21 (.branch 18 (.leaf (15, (.anewarray 15, 18, 4), 107)) (.leaf (18, (.putfield 17, 21, 1101), 388))) (.branch 22 (.leaf (21, (.aload_n 0, 22, 0), 0)) (.leaf (22, (.sipush 600, 25, 0), 0)))) (.branch 30 (.branch 27 (.leaf (25, (.newarray .byte, 27, 1), 0)) (.leaf (27, (.putfield 21, 30, 1102), 389))) (.branch 31 (.leaf (30, (.aload_n 0, 31, 0), 0)) (.branch 32 (.leaf (31, (.iconst 0, 32, 0), 0)) (.leaf (32, (.putfield 25, 35, 1103), 390))))))) (.branch 50 (.branch 41 (.branch 37 (.branch 36 (.leaf (35, (.aload_n 0, 36, 0), 0)) (.leaf (36, (.iconst 0, 37, 0), 0))) (.branch 40 (.leaf (37, (.putfield 29, 40, 1104), 391)) (.leaf (40, (.aload_n 0, 41, 0), 0)))) (.branch 45 (.branch 42 (.leaf (41, (.iconst (-1), 42, 0), 0)) (.leaf (42, (.putfield 32, 45, 1105), 392))) (.branch 46 (.leaf (45, (.aload_n 0, 46, 0), 0)) (.branch 49 (.leaf (46, (.new 35, 49, 4), 109)) (.leaf (49, (.dup, 50, 0), 0)))))) (.branch 60 (.branch 56 (.branch 53 (.leaf (50, (.invokespecial 37, 53, 41), 111)) (.leaf (53, (.putfield 38, 56, 1106), 393))) (.branch 57 (.leaf (56, (.aload_n 0, 57, 0), 0)) (.leaf (57, (.new 42, 60, 3), 128)))) (.branch 64 (.branch 61 (.leaf (60, (.dup, 61, 0), 0)) (.leaf (61, (.invokespecial 44, 64, 33), 130))) (.branch 67 (.leaf (64, (.putfield 45, 67, 1107), 394)) (.branch 68 (.leaf (67, (.aload_n 0, 68, 0), 0)) (.leaf (68, (.new 49, 71, 9), 147)))))))
set_option maxRecDepth 100000 in
def mt_119_1 : Lean.RArray mLf :=
  .branch 108 (.branch 87 (.branch 79 (.branch 75 (.branch 72 (.leaf (71, (.dup, 72, 0), 0)) (.leaf (72, (.invokespecial 51, 75, 96), 149))) (.branch 78 (.leaf (75, (.putfield 52, 78, 1108), 395)) (.leaf (78, (.aload_n 0, 79, 0), 0)))) (.branch 83 (.branch 82 (.leaf (79, (.new 56, 82, 2), 160)) (.leaf (82, (.dup, 83, 0), 0))) (.branch 84 (.leaf (83, (.aload_n 0, 84, 0), 0)) (.leaf (84, (.getfield 45, 87, 1107), 394))))) (.branch 97 (.branch 93 (.branch 90 (.leaf (87, (.invokespecial 58, 90, 20), 162)) (.leaf (90, (.putfield 61, 93, 1109), 396))) (.branch 94 (.leaf (93, (.aload_n 0, 94, 0), 0)) (.leaf (94, (.new 65, 97, 0), 211)))) (.branch 99 (.branch 98 (.leaf (97, (.dup, 98, 0), 0)) (.leaf (98, (.aload_n 0, 99, 0), 0))) (.branch 102 (.leaf (99, (.getfield 45, 102, 1107), 394)) (.branch 105 (.leaf (102, (.invokespecial 67, 105, 1), 213)) (.leaf (105, (.putfield 68, 108, 1110), 397))))))) (.branch 127 (.branch 114 (.branch 112 (.branch 109 (.leaf (108, (.aload_n 0, 109, 0), 0)) (.leaf (109, (.new 72, 112, 8), 245))) (.branch 113 (.leaf (112, (.dup, 113, 0), 0)) (.leaf (113, (.aload_n 0, 114, 0), 0)))) (.branch 118 (.branch 117 (.leaf (114, (.getfield 68, 117, 1110), 397)) (.leaf (117, (.aload_n 0, 118, 0), 0))) (.branch 121 (.leaf (118, (.getfield 61, 121, 1109), 396)) (.branch 124 (.leaf (121, (.invokespecial 74, 124, 84), 247)) (.leaf (124, (.putfield 77, 127, 1111), 398)))))) (.branch 133 (.branch 131 (.branch 128 (.leaf (127, (.aload_n 0, 128, 0), 0)) (.leaf (128, (.new 81, 131, 7), 279))) (.branch 132 (.leaf (131, (.dup, 132, 0), 0)) (.leaf (132, (.aload_n 0, 133, 0), 0)))) (.branch 139 (.branch 136 (.leaf (133, (.getfield 68, 136, 1110), 397)) (.leaf (136, (.invokespecial 83, 139, 74), 281))) (.branch 142 (.leaf (139, (.putfield 86, 142, 1112), 399)) (.branch 143 (.leaf (142, (.aload_n 0, 143, 0), 0)) (.leaf (143, (.new 90, 146, 10), 333)))))))
set_option maxRecDepth 100000 in
def mt_119_2 : Lean.RArray mLf :=
  .branch 181 (.branch 163 (.branch 152 (.branch 148 (.branch 147 (.leaf (146, (.dup, 147, 0), 0)) (.leaf (147, (.aload_n 0, 148, 0), 0))) (.branch 151 (.leaf (148, (.getfield 21, 151, 1102), 389)) (.leaf (151, (.aload_n 0, 152, 0), 0)))) (.branch 158 (.branch 155 (.leaf (152, (.getfield 45, 155, 1107), 394)) (.leaf (155, (.invokespecial 92, 158, 103), 335))) (.branch 161 (.leaf (158, (.putfield 95, 161, 1113), 400)) (.branch 162 (.leaf (161, (.iconst 0, 162, 0), 0)) (.leaf (162, (.istore_n 1, 163, 0), 0)))))) (.branch 170 (.branch 166 (.branch 164 (.leaf (163, (.iload_n 1, 164, 0), 0)) (.leaf (164, (.bipush 6, 166, 0), 0))) (.branch 169 (.leaf (166, (.if_icmp .ge 22, 169, 188), 0)) (.leaf (169, (.aload_n 0, 170, 0), 0)))) (.branch 174 (.branch 173 (.leaf (170, (.getfield 11, 173, 1100), 387)) (.leaf (173, (.iload_n 1, 174, 0), 0))) (.branch 177 (.leaf (174, (.new 9, 177, 6), 105)) (.branch 178 (.leaf (177, (.dup, 178, 0), 0)) (.leaf (178, (.invokespecial 99, 181, 54), 385))))))) (.branch 196 (.branch 189 (.branch 185 (.branch 182 (.leaf (181, (.aastore, 182, 0), 0)) (.leaf (182, (.iinc 1 1, 185, 0), 0))) (.branch 188 (.leaf (185, (.goto (-22), 188, 163), 0)) (.leaf (188, (.iconst 0, 189, 0), 0)))) (.branch 191 (.branch 190 (.leaf (189, (.istore_n 1, 190, 0), 0)) (.leaf (190, (.iload_n 1, 191, 0), 0))) (.branch 192 (.leaf (191, (.iconst 3, 192, 0), 0)) (.branch 195 (.leaf (192, (.if_icmp .ge 22, 195, 214), 0)) (.leaf (195, (.aload_n 0, 196, 0), 0)))))) (.branch 204 (.branch 200 (.branch 199 (.leaf (196, (.getfield 17, 199, 1101), 388)) (.leaf (199, (.iload_n 1, 200, 0), 0))) (.branch 203 (.leaf (200, (.new 15, 203, 1), 107)) (.leaf (203, (.dup, 204, 0), 0)))) (.branch 208 (.branch 207 (.leaf (204, (.invokespecial 100, 207, 7), 386)) (.leaf (207, (.aastore, 208, 0), 0))) (.branch 211 (.leaf (208, (.iinc 1 1, 211, 0), 0)) (.branch 214 (.leaf (211, (.goto (-21), 214, 190), 0)) (.leaf (214, (.return_, 215, 0), 0)))))))
/-- DeckBench.<init>()V -/
def mt_119 : Lean.RArray mLf :=
  .branch 71 (mt_119_0) (.branch 146 (mt_119_1) (mt_119_2))
set_option maxRecDepth 100000 in
/-- DeckBench.feed(IIIII)I -/
def mt_120 : Lean.RArray mLf :=
  .branch 23 (.branch 13 (.branch 6 (.branch 1 (.leaf (0, (.aload_n 0, 1, 0), 0)) (.branch 4 (.leaf (1, (.getfield 25, 4, 1103), 390)) (.leaf (4, (.bipush 20, 6, 0), 0)))) (.branch 7 (.leaf (6, (.iadd, 7, 0), 0)) (.branch 10 (.leaf (7, (.sipush 600, 10, 0), 0)) (.leaf (10, (.if_icmp .le 6, 13, 16), 0))))) (.branch 17 (.branch 15 (.leaf (13, (.bipush (-4), 15, 0), 0)) (.branch 16 (.leaf (15, (.ireturn, 16, 0), 0)) (.leaf (16, (.aload_n 0, 17, 0), 0)))) (.branch 21 (.branch 18 (.leaf (17, (.iload_n 1, 18, 0), 0)) (.leaf (18, (.invokevirtual 101, 21, 160), 434))) (.branch 22 (.leaf (21, (.aload_n 0, 22, 0), 0)) (.leaf (22, (.iload_n 2, 23, 0), 0)))))) (.branch 34 (.branch 28 (.branch 26 (.leaf (23, (.invokevirtual 101, 26, 160), 434)) (.branch 27 (.leaf (26, (.aload_n 0, 27, 0), 0)) (.leaf (27, (.iload_n 3, 28, 0), 0)))) (.branch 31 (.leaf (28, (.invokevirtual 101, 31, 160), 434)) (.branch 32 (.leaf (31, (.aload_n 0, 32, 0), 0)) (.leaf (32, (.iload 4, 34, 0), 0))))) (.branch 40 (.branch 37 (.leaf (34, (.invokevirtual 101, 37, 160), 434)) (.branch 38 (.leaf (37, (.aload_n 0, 38, 0), 0)) (.leaf (38, (.iload 5, 40, 0), 0)))) (.branch 44 (.branch 43 (.leaf (40, (.invokevirtual 101, 43, 160), 434)) (.leaf (43, (.aload_n 0, 44, 0), 0))) (.branch 47 (.leaf (44, (.getfield 25, 47, 1103), 390)) (.leaf (47, (.ireturn, 48, 0), 0))))))
set_option maxRecDepth 100000 in
def mt_121_0 : Lean.RArray mLf :=
  .branch 33 (.branch 16 (.branch 6 (.branch 4 (.branch 1 (.leaf (0, (.iload_n 1, 1, 0), 0)) (.leaf (1, (.ifCond .lt 11, 4, 12), 0))) (.branch 5 (.leaf (4, (.iload_n 1, 5, 0), 0)) (.leaf (5, (.aload_n 0, 6, 0), 0)))) (.branch 12 (.branch 9 (.leaf (6, (.getfield 25, 9, 1103), 390)) (.leaf (9, (.if_icmp .le 6, 12, 15), 0))) (.branch 14 (.leaf (12, (.bipush (-3), 14, 0), 0)) (.branch 15 (.leaf (14, (.ireturn, 15, 0), 0)) (.leaf (15, (.aload_n 0, 16, 0), 0)))))) (.branch 24 (.branch 20 (.branch 19 (.leaf (16, (.getfield 95, 19, 1113), 400)) (.leaf (19, (.iload_n 1, 20, 0), 0))) (.branch 23 (.leaf (20, (.invokevirtual 105, 23, 104), 442)) (.leaf (23, (.aload_n 0, 24, 0), 0)))) (.branch 28 (.branch 25 (.leaf (24, (.iconst 0, 25, 0), 0)) (.leaf (25, (.putfield 25, 28, 1103), 390))) (.branch 29 (.leaf (28, (.aload_n 0, 29, 0), 0)) (.branch 30 (.leaf (29, (.aload_n 0, 30, 0), 0)) (.leaf (30, (.getfield 95, 33, 1113), 400))))))) (.branch 54 (.branch 41 (.branch 39 (.branch 36 (.leaf (33, (.getfield 108, 36, 1002), 348)) (.leaf (36, (.putfield 29, 39, 1104), 391))) (.branch 40 (.leaf (39, (.aload_n 0, 40, 0), 0)) (.leaf (40, (.aload_n 0, 41, 0), 0)))) (.branch 47 (.branch 44 (.leaf (41, (.getfield 95, 44, 1113), 400)) (.leaf (44, (.getfield 111, 47, 1003), 350))) (.branch 50 (.leaf (47, (.putfield 32, 50, 1105), 392)) (.branch 51 (.leaf (50, (.aload_n 0, 51, 0), 0)) (.leaf (51, (.getfield 29, 54, 1104), 391)))))) (.branch 64 (.branch 59 (.branch 57 (.leaf (54, (.ifCond .eq 11, 57, 65), 0)) (.leaf (57, (.bipush (-30), 59, 0), 0))) (.branch 60 (.leaf (59, (.aload_n 0, 60, 0), 0)) (.branch 63 (.leaf (60, (.getfield 29, 63, 1104), 391)) (.leaf (63, (.isub, 64, 0), 0))))) (.branch 66 (.branch 65 (.leaf (64, (.ireturn, 65, 0), 0)) (.leaf (65, (.iconst 0, 66, 0), 0))) (.branch 67 (.leaf (66, (.istore_n 2, 67, 0), 0)) (.branch 68 (.leaf (67, (.iload_n 2, 68, 0), 0)) (.leaf (68, (.bipush 6, 70, 0), 0)))))))
set_option maxRecDepth 100000 in
def mt_121_1 : Lean.RArray mLf :=
  .branch 104 (.branch 87 (.branch 78 (.branch 74 (.branch 73 (.leaf (70, (.if_icmp .ge 27, 73, 97), 0)) (.leaf (73, (.aload_n 0, 74, 0), 0))) (.branch 77 (.leaf (74, (.getfield 11, 77, 1100), 387)) (.leaf (77, (.iload_n 2, 78, 0), 0)))) (.branch 80 (.branch 79 (.leaf (78, (.aaload, 79, 0), 0)) (.leaf (79, (.aload_n 0, 80, 0), 0))) (.branch 83 (.leaf (80, (.getfield 95, 83, 1113), 400)) (.branch 86 (.leaf (83, (.getfield 112, 86, 1000), 344)) (.leaf (86, (.iload_n 2, 87, 0), 0)))))) (.branch 97 (.branch 91 (.branch 88 (.leaf (87, (.aaload, 88, 0), 0)) (.leaf (88, (.invokevirtual 113, 91, 57), 636))) (.branch 94 (.leaf (91, (.iinc 2 1, 94, 0), 0)) (.leaf (94, (.goto (-27), 97, 67), 0)))) (.branch 99 (.branch 98 (.leaf (97, (.iconst 0, 98, 0), 0)) (.leaf (98, (.istore_n 2, 99, 0), 0))) (.branch 100 (.leaf (99, (.iload_n 2, 100, 0), 0)) (.branch 101 (.leaf (100, (.iconst 3, 101, 0), 0)) (.leaf (101, (.if_icmp .ge 27, 104, 128), 0))))))) (.branch 119 (.branch 110 (.branch 108 (.branch 105 (.leaf (104, (.aload_n 0, 105, 0), 0)) (.leaf (105, (.getfield 17, 108, 1101), 388))) (.branch 109 (.leaf (108, (.iload_n 2, 109, 0), 0)) (.leaf (109, (.aaload, 110, 0), 0)))) (.branch 114 (.branch 111 (.leaf (110, (.aload_n 0, 111, 0), 0)) (.leaf (111, (.getfield 95, 114, 1113), 400))) (.branch 117 (.leaf (114, (.getfield 117, 117, 1001), 346)) (.branch 118 (.leaf (117, (.iload_n 2, 118, 0), 0)) (.leaf (118, (.aaload, 119, 0), 0)))))) (.branch 132 (.branch 125 (.branch 122 (.leaf (119, (.invokevirtual 118, 122, 8), 643)) (.leaf (122, (.iinc 2 1, 125, 0), 0))) (.branch 128 (.leaf (125, (.goto (-26), 128, 99), 0)) (.branch 129 (.leaf (128, (.aload_n 0, 129, 0), 0)) (.leaf (129, (.getfield 38, 132, 1106), 393))))) (.branch 136 (.branch 135 (.leaf (132, (.invokevirtual 121, 135, 42), 648)) (.leaf (135, (.aload_n 0, 136, 0), 0))) (.branch 139 (.leaf (136, (.getfield 95, 139, 1113), 400)) (.branch 142 (.leaf (139, (.getfield 124, 142, 1004), 352)) (.leaf (142, (.ireturn, 143, 0), 0)))))))
/-- DeckBench.tell(I)I -/
def mt_121 : Lean.RArray mLf :=
  .branch 70 (mt_121_0) (mt_121_1)
set_option maxRecDepth 100000 in
/-- DeckBench.fault(I)I -/
def mt_122 : Lean.RArray mLf :=
  .branch 10 (.branch 5 (.branch 1 (.leaf (0, (.iload_n 1, 1, 0), 0)) (.branch 4 (.leaf (1, (.ifCond .ne 8, 4, 9), 0)) (.leaf (4, (.aload_n 0, 5, 0), 0)))) (.branch 8 (.leaf (5, (.getfield 29, 8, 1104), 391)) (.branch 9 (.leaf (8, (.ireturn, 9, 0), 0)) (.leaf (9, (.iload_n 1, 10, 0), 0))))) (.branch 15 (.branch 11 (.leaf (10, (.iconst 1, 11, 0), 0)) (.branch 14 (.leaf (11, (.if_icmp .ne 10, 14, 21), 0)) (.leaf (14, (.aload_n 0, 15, 0), 0)))) (.branch 21 (.branch 18 (.leaf (15, (.getfield 32, 18, 1105), 392)) (.leaf (18, (.goto 4, 21, 22), 0))) (.branch 22 (.leaf (21, (.iconst (-1), 22, 0), 0)) (.leaf (22, (.ireturn, 23, 0), 0)))))
set_option maxRecDepth 100000 in
/-- DeckBench.join(III)I -/
def mt_123 : Lean.RArray mLf :=
  .branch 27 (.branch 12 (.branch 6 (.branch 2 (.branch 1 (.leaf (0, (.aload_n 0, 1, 0), 0)) (.leaf (1, (.iload_n 1, 2, 0), 0))) (.branch 3 (.leaf (2, (.iload_n 2, 3, 0), 0)) (.leaf (3, (.invokevirtual 127, 6, 155), 660)))) (.branch 10 (.branch 9 (.leaf (6, (.ifCond .ne 17, 9, 23), 0)) (.leaf (9, (.aload_n 0, 10, 0), 0))) (.branch 11 (.leaf (10, (.iload_n 1, 11, 0), 0)) (.leaf (11, (.iload_n 3, 12, 0), 0))))) (.branch 20 (.branch 18 (.branch 15 (.leaf (12, (.invokevirtual 127, 15, 155), 660)) (.leaf (15, (.ifCond .ne 8, 18, 23), 0))) (.branch 19 (.leaf (18, (.iload_n 2, 19, 0), 0)) (.leaf (19, (.iload_n 3, 20, 0), 0)))) (.branch 25 (.branch 23 (.leaf (20, (.if_icmp .ne 6, 23, 26), 0)) (.leaf (23, (.bipush (-2), 25, 0), 0))) (.branch 26 (.leaf (25, (.ireturn, 26, 0), 0)) (.leaf (26, (.aload_n 0, 27, 0), 0)))))) (.branch 41 (.branch 34 (.branch 31 (.branch 30 (.leaf (27, (.getfield 11, 30, 1100), 387)) (.leaf (30, (.iload_n 1, 31, 0), 0))) (.branch 32 (.leaf (31, (.aaload, 32, 0), 0)) (.leaf (32, (.astore 4, 34, 0), 0)))) (.branch 38 (.branch 35 (.leaf (34, (.aload_n 0, 35, 0), 0)) (.leaf (35, (.getfield 38, 38, 1106), 393))) (.branch 39 (.leaf (38, (.iload_n 1, 39, 0), 0)) (.leaf (39, (.aload 4, 41, 0), 0))))) (.branch 48 (.branch 46 (.branch 44 (.leaf (41, (.invokevirtual 131, 44, 43), 667)) (.leaf (44, (.aload 4, 46, 0), 0))) (.branch 47 (.leaf (46, (.iload_n 2, 47, 0), 0)) (.leaf (47, (.iload_n 3, 48, 0), 0)))) (.branch 53 (.branch 51 (.leaf (48, (.invokevirtual 135, 51, 65), 677)) (.leaf (51, (.aload 4, 53, 0), 0))) (.branch 56 (.leaf (53, (.invokevirtual 139, 56, 63), 678)) (.leaf (56, (.ireturn, 57, 0), 0))))))
set_option maxRecDepth 100000 in
/-- DeckBench.grow(II)I -/
def mt_124 : Lean.RArray mLf :=
  .branch 30 (.branch 16 (.branch 9 (.branch 4 (.branch 1 (.leaf (0, (.iload_n 1, 1, 0), 0)) (.leaf (1, (.invokestatic 143, 4, 154), 664))) (.branch 7 (.leaf (4, (.ifCond .eq 6, 7, 10), 0)) (.leaf (7, (.bipush (-2), 9, 0), 0)))) (.branch 11 (.branch 10 (.leaf (9, (.ireturn, 10, 0), 0)) (.leaf (10, (.aload_n 0, 11, 0), 0))) (.branch 14 (.leaf (11, (.getfield 11, 14, 1100), 387)) (.branch 15 (.leaf (14, (.iload_n 1, 15, 0), 0)) (.leaf (15, (.aaload, 16, 0), 0)))))) (.branch 22 (.branch 18 (.branch 17 (.leaf (16, (.astore_n 3, 17, 0), 0)) (.leaf (17, (.iload_n 2, 18, 0), 0))) (.branch 19 (.leaf (18, (.aload_n 3, 19, 0), 0)) (.leaf (19, (.invokevirtual 147, 22, 60), 687)))) (.branch 24 (.branch 23 (.leaf (22, (.iconst (-1), 23, 0), 0)) (.leaf (23, (.ixor, 24, 0), 0))) (.branch 25 (.leaf (24, (.iand, 25, 0), 0)) (.branch 28 (.leaf (25, (.ifCond .eq 6, 28, 31), 0)) (.leaf (28, (.bipush (-3), 30, 0), 0))))))) (.branch 47 (.branch 37 (.branch 32 (.branch 31 (.leaf (30, (.ireturn, 31, 0), 0)) (.leaf (31, (.aload_n 3, 32, 0), 0))) (.branch 35 (.leaf (32, (.getfield 150, 35, 600), 178)) (.leaf (35, (.bipush 7, 37, 0), 0)))) (.branch 42 (.branch 40 (.leaf (37, (.if_icmp .lt 6, 40, 43), 0)) (.leaf (40, (.bipush (-4), 42, 0), 0))) (.branch 43 (.leaf (42, (.ireturn, 43, 0), 0)) (.branch 44 (.leaf (43, (.aload_n 0, 44, 0), 0)) (.leaf (44, (.getfield 38, 47, 1106), 393)))))) (.branch 53 (.branch 49 (.branch 48 (.leaf (47, (.iload_n 1, 48, 0), 0)) (.leaf (48, (.aload_n 3, 49, 0), 0))) (.branch 52 (.leaf (49, (.invokevirtual 131, 52, 43), 667)) (.leaf (52, (.aload_n 3, 53, 0), 0)))) (.branch 57 (.branch 54 (.leaf (53, (.iload_n 2, 54, 0), 0)) (.leaf (54, (.invokevirtual 153, 57, 66), 688))) (.branch 58 (.leaf (57, (.aload_n 3, 58, 0), 0)) (.branch 61 (.leaf (58, (.getfield 150, 61, 600), 178)) (.leaf (61, (.ireturn, 62, 0), 0)))))))
set_option maxRecDepth 100000 in
/-- DeckBench.drop(II)I -/
def mt_125 : Lean.RArray mLf :=
  .branch 24 (.branch 12 (.branch 3 (.branch 1 (.leaf (0, (.aload_n 0, 1, 0), 0)) (.branch 2 (.leaf (1, (.iload_n 1, 2, 0), 0)) (.leaf (2, (.iload_n 2, 3, 0), 0)))) (.branch 9 (.branch 6 (.leaf (3, (.invokevirtual 127, 6, 155), 660)) (.leaf (6, (.ifCond .eq 6, 9, 12), 0))) (.branch 11 (.leaf (9, (.bipush (-2), 11, 0), 0)) (.leaf (11, (.ireturn, 12, 0), 0))))) (.branch 18 (.branch 16 (.branch 13 (.leaf (12, (.aload_n 0, 13, 0), 0)) (.leaf (13, (.getfield 11, 16, 1100), 387))) (.branch 17 (.leaf (16, (.iload_n 1, 17, 0), 0)) (.leaf (17, (.aaload, 18, 0), 0)))) (.branch 20 (.branch 19 (.leaf (18, (.astore_n 3, 19, 0), 0)) (.leaf (19, (.aload_n 0, 20, 0), 0))) (.branch 23 (.leaf (20, (.getfield 38, 23, 1106), 393)) (.leaf (23, (.iload_n 1, 24, 0), 0)))))) (.branch 36 (.branch 30 (.branch 28 (.branch 25 (.leaf (24, (.aload_n 3, 25, 0), 0)) (.leaf (25, (.invokevirtual 131, 28, 43), 667))) (.branch 29 (.leaf (28, (.aload_n 3, 29, 0), 0)) (.leaf (29, (.aload_n 3, 30, 0), 0)))) (.branch 34 (.branch 31 (.leaf (30, (.aload_n 3, 31, 0), 0)) (.leaf (31, (.invokevirtual 147, 34, 60), 687))) (.branch 35 (.leaf (34, (.iconst 1, 35, 0), 0)) (.leaf (35, (.iload_n 2, 36, 0), 0))))) (.branch 40 (.branch 38 (.branch 37 (.leaf (36, (.ishl, 37, 0), 0)) (.leaf (37, (.iconst (-1), 38, 0), 0))) (.branch 39 (.leaf (38, (.ixor, 39, 0), 0)) (.leaf (39, (.iand, 40, 0), 0)))) (.branch 44 (.branch 43 (.leaf (40, (.invokevirtual 156, 43, 68), 696)) (.leaf (43, (.aload_n 3, 44, 0), 0))) (.branch 47 (.leaf (44, (.getfield 150, 47, 600), 178)) (.leaf (47, (.ireturn, 48, 0), 0))))))
set_option maxRecDepth 100000 in
/-- DeckBench.turn(II)I -/
def mt_126 : Lean.RArray mLf :=
  .branch 28 (.branch 16 (.branch 7 (.branch 1 (.leaf (0, (.iload_n 1, 1, 0), 0)) (.branch 4 (.leaf (1, (.invokestatic 143, 4, 154), 664)) (.leaf (4, (.ifCond .ne 10, 7, 14), 0)))) (.branch 11 (.branch 8 (.leaf (7, (.iload_n 2, 8, 0), 0)) (.leaf (8, (.invokestatic 143, 11, 154), 664))) (.branch 14 (.leaf (11, (.ifCond .eq 6, 14, 17), 0)) (.leaf (14, (.bipush (-2), 16, 0), 0))))) (.branch 22 (.branch 18 (.branch 17 (.leaf (16, (.ireturn, 17, 0), 0)) (.leaf (17, (.aload_n 0, 18, 0), 0))) (.branch 21 (.leaf (18, (.getfield 38, 21, 1106), 393)) (.leaf (21, (.iload_n 2, 22, 0), 0)))) (.branch 26 (.branch 23 (.leaf (22, (.aload_n 0, 23, 0), 0)) (.leaf (23, (.getfield 11, 26, 1100), 387))) (.branch 27 (.leaf (26, (.iload_n 2, 27, 0), 0)) (.leaf (27, (.aaload, 28, 0), 0)))))) (.branch 42 (.branch 36 (.branch 32 (.branch 31 (.leaf (28, (.invokevirtual 131, 31, 43), 667)) (.leaf (31, (.aload_n 0, 32, 0), 0))) (.branch 35 (.leaf (32, (.getfield 11, 35, 1100), 387)) (.leaf (35, (.iload_n 2, 36, 0), 0)))) (.branch 38 (.branch 37 (.leaf (36, (.aaload, 37, 0), 0)) (.leaf (37, (.aload_n 0, 38, 0), 0))) (.branch 41 (.leaf (38, (.getfield 11, 41, 1100), 387)) (.leaf (41, (.iload_n 1, 42, 0), 0))))) (.branch 50 (.branch 46 (.branch 43 (.leaf (42, (.aaload, 43, 0), 0)) (.leaf (43, (.invokevirtual 160, 46, 67), 707))) (.branch 47 (.leaf (46, (.aload_n 0, 47, 0), 0)) (.leaf (47, (.getfield 11, 50, 1100), 387)))) (.branch 52 (.branch 51 (.leaf (50, (.iload_n 2, 51, 0), 0)) (.leaf (51, (.aaload, 52, 0), 0))) (.branch 55 (.leaf (52, (.invokevirtual 139, 55, 63), 678)) (.leaf (55, (.ireturn, 56, 0), 0))))))
set_option maxRecDepth 100000 in
def mt_127_0 : Lean.RArray mLf :=
  .branch 21 (.branch 11 (.branch 4 (.branch 1 (.leaf (0, (.iload_n 1, 1, 0), 0)) (.leaf (1, (.invokestatic 143, 4, 154), 664))) (.branch 7 (.leaf (4, (.ifCond .ne 10, 7, 14), 0)) (.branch 8 (.leaf (7, (.iload_n 2, 8, 0), 0)) (.leaf (8, (.invokestatic 143, 11, 154), 664))))) (.branch 16 (.branch 14 (.leaf (11, (.ifCond .eq 6, 14, 17), 0)) (.leaf (14, (.bipush (-2), 16, 0), 0))) (.branch 17 (.leaf (16, (.ireturn, 17, 0), 0)) (.branch 18 (.leaf (17, (.aload_n 0, 18, 0), 0)) (.leaf (18, (.getfield 45, 21, 1107), 394)))))) (.branch 30 (.branch 25 (.branch 22 (.leaf (21, (.aload_n 0, 22, 0), 0)) (.leaf (22, (.getfield 11, 25, 1100), 387))) (.branch 26 (.leaf (25, (.iload_n 1, 26, 0), 0)) (.branch 27 (.leaf (26, (.aaload, 27, 0), 0)) (.leaf (27, (.invokevirtual 163, 30, 34), 716))))) (.branch 32 (.branch 31 (.leaf (30, (.istore_n 3, 31, 0), 0)) (.leaf (31, (.aload_n 0, 32, 0), 0))) (.branch 35 (.leaf (32, (.getfield 38, 35, 1106), 393)) (.branch 36 (.leaf (35, (.iload_n 2, 36, 0), 0)) (.leaf (36, (.aload_n 0, 37, 0), 0))))))
set_option maxRecDepth 100000 in
def mt_127_1 : Lean.RArray mLf :=
  .branch 55 (.branch 46 (.branch 41 (.branch 40 (.leaf (37, (.getfield 11, 40, 1100), 387)) (.leaf (40, (.iload_n 2, 41, 0), 0))) (.branch 42 (.leaf (41, (.aaload, 42, 0), 0)) (.branch 45 (.leaf (42, (.invokevirtual 131, 45, 43), 667)) (.leaf (45, (.aload_n 0, 46, 0), 0))))) (.branch 50 (.branch 49 (.leaf (46, (.getfield 11, 49, 1100), 387)) (.leaf (49, (.iload_n 2, 50, 0), 0))) (.branch 51 (.leaf (50, (.aaload, 51, 0), 0)) (.branch 52 (.leaf (51, (.aload_n 0, 52, 0), 0)) (.leaf (52, (.getfield 11, 55, 1100), 387)))))) (.branch 64 (.branch 57 (.branch 56 (.leaf (55, (.iload_n 1, 56, 0), 0)) (.leaf (56, (.aaload, 57, 0), 0))) (.branch 60 (.leaf (57, (.getfield 150, 60, 600), 178)) (.branch 61 (.leaf (60, (.iload_n 3, 61, 0), 0)) (.leaf (61, (.invokevirtual 167, 64, 56), 717))))) (.branch 69 (.branch 65 (.leaf (64, (.aload_n 0, 65, 0), 0)) (.branch 68 (.leaf (65, (.getfield 11, 68, 1100), 387)) (.leaf (68, (.iload_n 2, 69, 0), 0)))) (.branch 70 (.leaf (69, (.aaload, 70, 0), 0)) (.branch 73 (.leaf (70, (.getfield 150, 73, 600), 178)) (.leaf (73, (.ireturn, 74, 0), 0))))))
/-- DeckBench.put(II)I -/
def mt_127 : Lean.RArray mLf :=
  .branch 37 (mt_127_0) (mt_127_1)
set_option maxRecDepth 100000 in
def mt_128_0 : Lean.RArray mLf :=
  .branch 21 (.branch 11 (.branch 4 (.branch 1 (.leaf (0, (.iload_n 1, 1, 0), 0)) (.leaf (1, (.invokestatic 143, 4, 154), 664))) (.branch 7 (.leaf (4, (.ifCond .ne 10, 7, 14), 0)) (.branch 8 (.leaf (7, (.iload_n 2, 8, 0), 0)) (.leaf (8, (.invokestatic 170, 11, 156), 722))))) (.branch 16 (.branch 14 (.leaf (11, (.ifCond .eq 6, 14, 17), 0)) (.leaf (14, (.bipush (-2), 16, 0), 0))) (.branch 17 (.leaf (16, (.ireturn, 17, 0), 0)) (.branch 18 (.leaf (17, (.aload_n 0, 18, 0), 0)) (.leaf (18, (.getfield 11, 21, 1100), 387)))))) (.branch 30 (.branch 23 (.branch 22 (.leaf (21, (.iload_n 1, 22, 0), 0)) (.leaf (22, (.aaload, 23, 0), 0))) (.branch 26 (.leaf (23, (.getfield 150, 26, 600), 178)) (.branch 27 (.leaf (26, (.iconst 2, 27, 0), 0)) (.leaf (27, (.if_icmp .ge 6, 30, 33), 0))))) (.branch 34 (.branch 32 (.leaf (30, (.bipush (-5), 32, 0), 0)) (.branch 33 (.leaf (32, (.ireturn, 33, 0), 0)) (.leaf (33, (.aload_n 0, 34, 0), 0)))) (.branch 37 (.leaf (34, (.getfield 38, 37, 1106), 393)) (.branch 38 (.leaf (37, (.iload_n 2, 38, 0), 0)) (.leaf (38, (.aload_n 0, 39, 0), 0))))))
set_option maxRecDepth 100000 in
def mt_128_1 : Lean.RArray mLf :=
  .branch 57 (.branch 48 (.branch 43 (.branch 42 (.leaf (39, (.getfield 17, 42, 1101), 388)) (.leaf (42, (.iload_n 2, 43, 0), 0))) (.branch 44 (.leaf (43, (.aaload, 44, 0), 0)) (.branch 47 (.leaf (44, (.invokevirtual 173, 47, 44), 725)) (.leaf (47, (.aload_n 0, 48, 0), 0))))) (.branch 52 (.branch 51 (.leaf (48, (.getfield 68, 51, 1110), 397)) (.leaf (51, (.aload_n 0, 52, 0), 0))) (.branch 55 (.leaf (52, (.getfield 11, 55, 1100), 387)) (.branch 56 (.leaf (55, (.iload_n 1, 56, 0), 0)) (.leaf (56, (.aaload, 57, 0), 0)))))) (.branch 66 (.branch 61 (.branch 58 (.leaf (57, (.aload_n 0, 58, 0), 0)) (.leaf (58, (.getfield 17, 61, 1101), 388))) (.branch 62 (.leaf (61, (.iload_n 2, 62, 0), 0)) (.branch 63 (.leaf (62, (.aaload, 63, 0), 0)) (.leaf (63, (.invokevirtual 177, 66, 4), 729))))) (.branch 71 (.branch 67 (.leaf (66, (.aload_n 0, 67, 0), 0)) (.branch 70 (.leaf (67, (.getfield 17, 70, 1101), 388)) (.leaf (70, (.iload_n 2, 71, 0), 0)))) (.branch 72 (.leaf (71, (.aaload, 72, 0), 0)) (.branch 75 (.leaf (72, (.invokevirtual 181, 75, 13), 741)) (.leaf (75, (.ireturn, 76, 0), 0))))))
/-- DeckBench.deal(II)I -/
def mt_128 : Lean.RArray mLf :=
  .branch 39 (mt_128_0) (mt_128_1)
set_option maxRecDepth 100000 in
def mt_129_0 : Lean.RArray mLf :=
  .branch 23 (.branch 10 (.branch 3 (.branch 1 (.leaf (0, (.aload_n 0, 1, 0), 0)) (.branch 2 (.leaf (1, (.iload_n 1, 2, 0), 0)) (.leaf (2, (.iload_n 2, 3, 0), 0)))) (.branch 6 (.leaf (3, (.invokevirtual 184, 6, 158), 752)) (.branch 9 (.leaf (6, (.ifCond .ne 10, 9, 16), 0)) (.leaf (9, (.iload_n 3, 10, 0), 0))))) (.branch 18 (.branch 13 (.leaf (10, (.invokestatic 143, 13, 154), 664)) (.branch 16 (.leaf (13, (.ifCond .eq 6, 16, 19), 0)) (.leaf (16, (.bipush (-2), 18, 0), 0)))) (.branch 19 (.leaf (18, (.ireturn, 19, 0), 0)) (.branch 20 (.leaf (19, (.aload_n 0, 20, 0), 0)) (.leaf (20, (.getfield 17, 23, 1101), 388)))))) (.branch 32 (.branch 27 (.branch 24 (.leaf (23, (.iload_n 1, 24, 0), 0)) (.branch 25 (.leaf (24, (.aaload, 25, 0), 0)) (.leaf (25, (.astore 4, 27, 0), 0)))) (.branch 28 (.leaf (27, (.aload_n 0, 28, 0), 0)) (.branch 31 (.leaf (28, (.getfield 11, 31, 1100), 387)) (.leaf (31, (.iload_n 3, 32, 0), 0))))) (.branch 38 (.branch 33 (.leaf (32, (.aaload, 33, 0), 0)) (.branch 36 (.leaf (33, (.getfield 150, 36, 600), 178)) (.leaf (36, (.aload 4, 38, 0), 0)))) (.branch 42 (.branch 41 (.leaf (38, (.getfield 187, 41, 100), 299)) (.leaf (41, (.iconst 1, 42, 0), 0))) (.branch 43 (.leaf (42, (.isub, 43, 0), 0)) (.leaf (43, (.if_icmp .eq 6, 46, 49), 0))))))
set_option maxRecDepth 100000 in
def mt_129_1 : Lean.RArray mLf :=
  .branch 69 (.branch 57 (.branch 50 (.branch 48 (.leaf (46, (.bipush (-5), 48, 0), 0)) (.branch 49 (.leaf (48, (.ireturn, 49, 0), 0)) (.leaf (49, (.aload_n 0, 50, 0), 0)))) (.branch 53 (.leaf (50, (.getfield 45, 53, 1107), 394)) (.branch 54 (.leaf (53, (.aload_n 0, 54, 0), 0)) (.leaf (54, (.getfield 11, 57, 1100), 387))))) (.branch 62 (.branch 58 (.leaf (57, (.iload_n 3, 58, 0), 0)) (.branch 59 (.leaf (58, (.aaload, 59, 0), 0)) (.leaf (59, (.invokevirtual 163, 62, 34), 716)))) (.branch 65 (.branch 64 (.leaf (62, (.istore 5, 64, 0), 0)) (.leaf (64, (.aload_n 0, 65, 0), 0))) (.branch 68 (.leaf (65, (.getfield 38, 68, 1106), 393)) (.leaf (68, (.iload_n 1, 69, 0), 0)))))) (.branch 82 (.branch 76 (.branch 71 (.leaf (69, (.aload 4, 71, 0), 0)) (.branch 74 (.leaf (71, (.invokevirtual 173, 74, 44), 725)) (.leaf (74, (.aload 4, 76, 0), 0)))) (.branch 79 (.leaf (76, (.getfield 188, 79, 101), 306)) (.branch 80 (.leaf (79, (.iload_n 2, 80, 0), 0)) (.leaf (80, (.iload 5, 82, 0), 0))))) (.branch 88 (.branch 83 (.leaf (82, (.iastore, 83, 0), 0)) (.branch 85 (.leaf (83, (.aload 4, 85, 0), 0)) (.leaf (85, (.invokevirtual 192, 88, 10), 756)))) (.branch 92 (.branch 90 (.leaf (88, (.aload 4, 90, 0), 0)) (.leaf (90, (.iload 5, 92, 0), 0))) (.branch 95 (.leaf (92, (.invokevirtual 195, 95, 14), 757)) (.leaf (95, (.ireturn, 96, 0), 0))))))
/-- DeckBench.replace(III)I -/
def mt_129 : Lean.RArray mLf :=
  .branch 46 (mt_129_0) (mt_129_1)
set_option maxRecDepth 100000 in
def mt_130_0 : Lean.RArray mLf :=
  .branch 23 (.branch 12 (.branch 5 (.branch 1 (.leaf (0, (.aload_n 0, 1, 0), 0)) (.branch 2 (.leaf (1, (.iload_n 1, 2, 0), 0)) (.leaf (2, (.invokevirtual 199, 5, 157), 765)))) (.branch 8 (.leaf (5, (.ifCond .ne 10, 8, 15), 0)) (.branch 9 (.leaf (8, (.iload_n 2, 9, 0), 0)) (.leaf (9, (.invokestatic 143, 12, 154), 664))))) (.branch 18 (.branch 15 (.leaf (12, (.ifCond .eq 6, 15, 18), 0)) (.branch 17 (.leaf (15, (.bipush (-2), 17, 0), 0)) (.leaf (17, (.ireturn, 18, 0), 0)))) (.branch 19 (.leaf (18, (.aload_n 0, 19, 0), 0)) (.branch 22 (.leaf (19, (.getfield 77, 22, 1111), 398)) (.leaf (22, (.aload_n 0, 23, 0), 0)))))) (.branch 36 (.branch 28 (.branch 26 (.leaf (23, (.getfield 17, 26, 1101), 388)) (.branch 27 (.leaf (26, (.iload_n 1, 27, 0), 0)) (.leaf (27, (.aaload, 28, 0), 0)))) (.branch 31 (.leaf (28, (.invokevirtual 202, 31, 91), 769)) (.branch 34 (.leaf (31, (.ifCond .ne 6, 34, 37), 0)) (.leaf (34, (.bipush (-5), 36, 0), 0))))) (.branch 41 (.branch 37 (.leaf (36, (.ireturn, 37, 0), 0)) (.branch 38 (.leaf (37, (.aload_n 0, 38, 0), 0)) (.leaf (38, (.getfield 38, 41, 1106), 393)))) (.branch 42 (.leaf (41, (.iload_n 2, 42, 0), 0)) (.branch 43 (.leaf (42, (.aload_n 0, 43, 0), 0)) (.leaf (43, (.getfield 11, 46, 1100), 387))))))
set_option maxRecDepth 100000 in
def mt_130_1 : Lean.RArray mLf :=
  .branch 66 (.branch 56 (.branch 51 (.branch 47 (.leaf (46, (.iload_n 2, 47, 0), 0)) (.branch 48 (.leaf (47, (.aaload, 48, 0), 0)) (.leaf (48, (.invokevirtual 131, 51, 43), 667)))) (.branch 52 (.leaf (51, (.aload_n 0, 52, 0), 0)) (.branch 55 (.leaf (52, (.getfield 11, 55, 1100), 387)) (.leaf (55, (.iload_n 2, 56, 0), 0))))) (.branch 61 (.branch 57 (.leaf (56, (.aaload, 57, 0), 0)) (.branch 58 (.leaf (57, (.aload_n 0, 58, 0), 0)) (.leaf (58, (.getfield 17, 61, 1101), 388)))) (.branch 62 (.leaf (61, (.iload_n 1, 62, 0), 0)) (.branch 63 (.leaf (62, (.aaload, 63, 0), 0)) (.leaf (63, (.getfield 187, 66, 100), 299)))))) (.branch 78 (.branch 73 (.branch 67 (.leaf (66, (.aload_n 0, 67, 0), 0)) (.branch 70 (.leaf (67, (.getfield 77, 70, 1111), 398)) (.leaf (70, (.getfield 206, 73, 806), 260)))) (.branch 74 (.leaf (73, (.iconst 0, 74, 0), 0)) (.branch 75 (.leaf (74, (.iaload, 75, 0), 0)) (.leaf (75, (.invokevirtual 167, 78, 56), 717))))) (.branch 83 (.branch 79 (.leaf (78, (.aload_n 0, 79, 0), 0)) (.branch 82 (.leaf (79, (.getfield 11, 82, 1100), 387)) (.leaf (82, (.iload_n 2, 83, 0), 0)))) (.branch 84 (.leaf (83, (.aaload, 84, 0), 0)) (.branch 87 (.leaf (84, (.invokevirtual 139, 87, 63), 678)) (.leaf (87, (.ireturn, 88, 0), 0))))))
/-- DeckBench.solve(II)I -/
def mt_130 : Lean.RArray mLf :=
  .branch 46 (mt_130_0) (mt_130_1)
set_option maxRecDepth 100000 in
/-- DeckBench.undo()I -/
def mt_131 : Lean.RArray mLf :=
  .branch 17 (.branch 10 (.branch 4 (.branch 1 (.leaf (0, (.aload_n 0, 1, 0), 0)) (.leaf (1, (.getfield 38, 4, 1106), 393))) (.branch 7 (.leaf (4, (.getfield 209, 7, 402), 118)) (.leaf (7, (.ifCond .ne 6, 10, 13), 0)))) (.branch 13 (.branch 12 (.leaf (10, (.bipush (-5), 12, 0), 0)) (.leaf (12, (.ireturn, 13, 0), 0))) (.branch 14 (.leaf (13, (.aload_n 0, 14, 0), 0)) (.leaf (14, (.getfield 38, 17, 1106), 393))))) (.branch 25 (.branch 21 (.branch 18 (.leaf (17, (.aload_n 0, 18, 0), 0)) (.leaf (18, (.getfield 11, 21, 1100), 387))) (.branch 22 (.leaf (21, (.aload_n 0, 22, 0), 0)) (.leaf (22, (.getfield 17, 25, 1101), 388)))) (.branch 29 (.branch 28 (.leaf (25, (.invokevirtual 210, 28, 46), 810)) (.leaf (28, (.aload_n 0, 29, 0), 0))) (.branch 32 (.leaf (29, (.getfield 38, 32, 1106), 393)) (.branch 35 (.leaf (32, (.getfield 209, 35, 402), 118)) (.leaf (35, (.ireturn, 36, 0), 0))))))
set_option maxRecDepth 100000 in
def mt_132_0 : Lean.RArray mLf :=
  .branch 18 (.branch 10 (.branch 4 (.branch 1 (.leaf (0, (.iload_n 1, 1, 0), 0)) (.leaf (1, (.invokestatic 143, 4, 154), 664))) (.branch 7 (.leaf (4, (.ifCond .eq 6, 7, 10), 0)) (.branch 9 (.leaf (7, (.bipush (-2), 9, 0), 0)) (.leaf (9, (.ireturn, 10, 0), 0))))) (.branch 15 (.branch 11 (.leaf (10, (.aload_n 0, 11, 0), 0)) (.branch 14 (.leaf (11, (.getfield 11, 14, 1100), 387)) (.leaf (14, (.iload_n 1, 15, 0), 0)))) (.branch 16 (.leaf (15, (.aaload, 16, 0), 0)) (.branch 17 (.leaf (16, (.astore_n 3, 17, 0), 0)) (.leaf (17, (.iload_n 2, 18, 0), 0)))))) (.branch 70 (.branch 65 (.branch 64 (.leaf (18, (.tableswitch 99 0 7 #[46, 51, 56, 61, 70, 79, 84, 93], 64, 0), 0)) (.leaf (64, (.aload_n 3, 65, 0), 0))) (.branch 68 (.leaf (65, (.getfield 150, 68, 600), 178)) (.branch 69 (.leaf (68, (.ireturn, 69, 0), 0)) (.leaf (69, (.aload_n 3, 70, 0), 0))))) (.branch 75 (.branch 73 (.leaf (70, (.invokevirtual 139, 73, 63), 678)) (.branch 74 (.leaf (73, (.ireturn, 74, 0), 0)) (.leaf (74, (.aload_n 3, 75, 0), 0)))) (.branch 78 (.leaf (75, (.invokevirtual 214, 78, 59), 818)) (.branch 79 (.leaf (78, (.ireturn, 79, 0), 0)) (.leaf (79, (.aload_n 0, 80, 0), 0))))))
set_option maxRecDepth 100000 in
def mt_132_1 : Lean.RArray mLf :=
  .branch 101 (.branch 89 (.branch 84 (.branch 83 (.leaf (80, (.getfield 45, 83, 1107), 394)) (.leaf (83, (.aload_n 3, 84, 0), 0))) (.branch 87 (.leaf (84, (.invokevirtual 163, 87, 34), 716)) (.branch 88 (.leaf (87, (.ireturn, 88, 0), 0)) (.leaf (88, (.aload_n 0, 89, 0), 0))))) (.branch 96 (.branch 92 (.leaf (89, (.getfield 52, 92, 1108), 395)) (.branch 93 (.leaf (92, (.aload_n 3, 93, 0), 0)) (.leaf (93, (.invokevirtual 217, 96, 100), 819)))) (.branch 97 (.leaf (96, (.ireturn, 97, 0), 0)) (.branch 98 (.leaf (97, (.aload_n 3, 98, 0), 0)) (.leaf (98, (.invokevirtual 220, 101, 72), 840)))))) (.branch 111 (.branch 106 (.branch 102 (.leaf (101, (.ireturn, 102, 0), 0)) (.branch 103 (.leaf (102, (.aload_n 0, 103, 0), 0)) (.leaf (103, (.getfield 52, 106, 1108), 395)))) (.branch 107 (.leaf (106, (.aload_n 3, 107, 0), 0)) (.branch 110 (.leaf (107, (.invokevirtual 223, 110, 102), 852)) (.leaf (110, (.ireturn, 111, 0), 0))))) (.branch 116 (.branch 112 (.leaf (111, (.aload_n 0, 112, 0), 0)) (.branch 113 (.leaf (112, (.aload_n 3, 113, 0), 0)) (.leaf (113, (.invokevirtual 226, 116, 161), 860)))) (.branch 117 (.leaf (116, (.ireturn, 117, 0), 0)) (.branch 119 (.leaf (117, (.bipush (-2), 119, 0), 0)) (.leaf (119, (.ireturn, 120, 0), 0))))))
/-- DeckBench.net(II)I -/
def mt_132 : Lean.RArray mLf :=
  .branch 80 (mt_132_0) (mt_132_1)
set_option maxRecDepth 100000 in
def mt_133_0 : Lean.RArray mLf :=
  .branch 17 (.branch 9 (.branch 2 (.branch 1 (.leaf (0, (.aload_n 0, 1, 0), 0)) (.leaf (1, (.iload_n 1, 2, 0), 0))) (.branch 3 (.leaf (2, (.iload_n 2, 3, 0), 0)) (.branch 6 (.leaf (3, (.invokevirtual 127, 6, 155), 660)) (.leaf (6, (.ifCond .eq 6, 9, 12), 0))))) (.branch 12 (.branch 11 (.leaf (9, (.bipush (-2), 11, 0), 0)) (.leaf (11, (.ireturn, 12, 0), 0))) (.branch 13 (.leaf (12, (.aload_n 0, 13, 0), 0)) (.branch 16 (.leaf (13, (.getfield 11, 16, 1100), 387)) (.leaf (16, (.iload_n 1, 17, 0), 0)))))) (.branch 54 (.branch 20 (.branch 18 (.leaf (17, (.aaload, 18, 0), 0)) (.leaf (18, (.astore 4, 20, 0), 0))) (.branch 21 (.leaf (20, (.iload_n 3, 21, 0), 0)) (.branch 52 (.leaf (21, (.tableswitch 81 0 3 #[31, 38, 46, 57], 52, 0), 0)) (.leaf (52, (.aload 4, 54, 0), 0))))) (.branch 59 (.branch 55 (.leaf (54, (.iload_n 2, 55, 0), 0)) (.branch 58 (.leaf (55, (.invokevirtual 229, 58, 62), 864)) (.leaf (58, (.ireturn, 59, 0), 0)))) (.branch 61 (.leaf (59, (.aload 4, 61, 0), 0)) (.branch 64 (.leaf (61, (.getfield 232, 64, 601), 185)) (.leaf (64, (.iload_n 2, 65, 0), 0))))))
set_option maxRecDepth 100000 in
def mt_133_1 : Lean.RArray mLf :=
  .branch 84 (.branch 73 (.branch 67 (.branch 66 (.leaf (65, (.iaload, 66, 0), 0)) (.leaf (66, (.ireturn, 67, 0), 0))) (.branch 68 (.leaf (67, (.aload_n 0, 68, 0), 0)) (.branch 71 (.leaf (68, (.getfield 52, 71, 1108), 395)) (.leaf (71, (.aload 4, 73, 0), 0))))) (.branch 78 (.branch 74 (.leaf (73, (.iload_n 2, 74, 0), 0)) (.branch 77 (.leaf (74, (.invokevirtual 235, 77, 101), 871)) (.leaf (77, (.ireturn, 78, 0), 0)))) (.branch 80 (.leaf (78, (.aload 4, 80, 0), 0)) (.branch 83 (.leaf (80, (.getfield 150, 83, 600), 178)) (.leaf (83, (.iconst 1, 84, 0), 0)))))) (.branch 95 (.branch 88 (.branch 87 (.leaf (84, (.if_icmp .ne 7, 87, 91), 0)) (.leaf (87, (.iconst (-1), 88, 0), 0))) (.branch 91 (.leaf (88, (.goto 13, 91, 101), 0)) (.branch 92 (.leaf (91, (.aload_n 0, 92, 0), 0)) (.leaf (92, (.getfield 68, 95, 1110), 397))))) (.branch 101 (.branch 97 (.leaf (95, (.aload 4, 97, 0), 0)) (.branch 98 (.leaf (97, (.iload_n 2, 98, 0), 0)) (.leaf (98, (.invokevirtual 239, 101, 3), 865)))) (.branch 102 (.leaf (101, (.ireturn, 102, 0), 0)) (.branch 104 (.leaf (102, (.bipush (-2), 104, 0), 0)) (.leaf (104, (.ireturn, 105, 0), 0))))))
/-- DeckBench.node(III)I -/
def mt_133 : Lean.RArray mLf :=
  .branch 65 (mt_133_0) (mt_133_1)
set_option maxRecDepth 100000 in
/-- DeckBench.alike(II)I -/
def mt_134 : Lean.RArray mLf :=
  .branch 25 (.branch 14 (.branch 7 (.branch 1 (.leaf (0, (.iload_n 1, 1, 0), 0)) (.branch 4 (.leaf (1, (.invokestatic 143, 4, 154), 664)) (.leaf (4, (.ifCond .ne 10, 7, 14), 0)))) (.branch 8 (.leaf (7, (.iload_n 2, 8, 0), 0)) (.branch 11 (.leaf (8, (.invokestatic 143, 11, 154), 664)) (.leaf (11, (.ifCond .eq 6, 14, 17), 0))))) (.branch 18 (.branch 16 (.leaf (14, (.bipush (-2), 16, 0), 0)) (.branch 17 (.leaf (16, (.ireturn, 17, 0), 0)) (.leaf (17, (.aload_n 0, 18, 0), 0)))) (.branch 21 (.leaf (18, (.getfield 45, 21, 1107), 394)) (.branch 22 (.leaf (21, (.aload_n 0, 22, 0), 0)) (.leaf (22, (.getfield 11, 25, 1100), 387)))))) (.branch 33 (.branch 28 (.branch 26 (.leaf (25, (.iload_n 1, 26, 0), 0)) (.branch 27 (.leaf (26, (.aaload, 27, 0), 0)) (.leaf (27, (.aload_n 0, 28, 0), 0)))) (.branch 31 (.leaf (28, (.getfield 11, 31, 1100), 387)) (.branch 32 (.leaf (31, (.iload_n 2, 32, 0), 0)) (.leaf (32, (.aaload, 33, 0), 0))))) (.branch 40 (.branch 36 (.leaf (33, (.invokevirtual 242, 36, 35), 876)) (.branch 39 (.leaf (36, (.ifCond .eq 7, 39, 43), 0)) (.leaf (39, (.iconst 1, 40, 0), 0)))) (.branch 43 (.leaf (40, (.goto 4, 43, 44), 0)) (.branch 44 (.leaf (43, (.iconst 0, 44, 0), 0)) (.leaf (44, (.ireturn, 45, 0), 0))))))
set_option maxRecDepth 100000 in
/-- DeckBench.parts(II)I -/
def mt_135 : Lean.RArray mLf :=
  .branch 27 (.branch 16 (.branch 7 (.branch 1 (.leaf (0, (.iload_n 1, 1, 0), 0)) (.branch 4 (.leaf (1, (.invokestatic 143, 4, 154), 664)) (.leaf (4, (.ifCond .ne 10, 7, 14), 0)))) (.branch 11 (.branch 8 (.leaf (7, (.iload_n 2, 8, 0), 0)) (.leaf (8, (.invokestatic 143, 11, 154), 664))) (.branch 14 (.leaf (11, (.ifCond .eq 6, 14, 17), 0)) (.leaf (14, (.bipush (-2), 16, 0), 0))))) (.branch 21 (.branch 17 (.leaf (16, (.ireturn, 17, 0), 0)) (.branch 18 (.leaf (17, (.aload_n 0, 18, 0), 0)) (.leaf (18, (.getfield 68, 21, 1110), 397)))) (.branch 25 (.branch 22 (.leaf (21, (.aload_n 0, 22, 0), 0)) (.leaf (22, (.getfield 11, 25, 1100), 387))) (.branch 26 (.leaf (25, (.iload_n 1, 26, 0), 0)) (.leaf (26, (.aaload, 27, 0), 0)))))) (.branch 40 (.branch 34 (.branch 30 (.leaf (27, (.getfield 150, 30, 600), 178)) (.branch 31 (.leaf (30, (.aload_n 0, 31, 0), 0)) (.leaf (31, (.getfield 45, 34, 1107), 394)))) (.branch 38 (.branch 35 (.leaf (34, (.aload_n 0, 35, 0), 0)) (.leaf (35, (.getfield 11, 38, 1100), 387))) (.branch 39 (.leaf (38, (.iload_n 1, 39, 0), 0)) (.leaf (39, (.aaload, 40, 0), 0))))) (.branch 47 (.branch 43 (.leaf (40, (.invokevirtual 163, 43, 34), 716)) (.branch 44 (.leaf (43, (.aload_n 0, 44, 0), 0)) (.leaf (44, (.getfield 11, 47, 1100), 387)))) (.branch 49 (.branch 48 (.leaf (47, (.iload_n 2, 48, 0), 0)) (.leaf (48, (.aaload, 49, 0), 0))) (.branch 52 (.leaf (49, (.invokevirtual 246, 52, 6), 886)) (.leaf (52, (.ireturn, 53, 0), 0))))))
set_option maxRecDepth 100000 in
def mt_136_0 : Lean.RArray mLf :=
  .branch 23 (.branch 12 (.branch 7 (.branch 1 (.leaf (0, (.iload_n 1, 1, 0), 0)) (.branch 4 (.leaf (1, (.invokestatic 143, 4, 154), 664)) (.leaf (4, (.ifCond .ne 12, 7, 16), 0)))) (.branch 8 (.leaf (7, (.iload_n 2, 8, 0), 0)) (.branch 11 (.leaf (8, (.ifCond .lt 8, 11, 16), 0)) (.leaf (11, (.iload_n 2, 12, 0), 0))))) (.branch 18 (.branch 13 (.leaf (12, (.iconst 1, 13, 0), 0)) (.branch 16 (.leaf (13, (.if_icmp .le 6, 16, 19), 0)) (.leaf (16, (.bipush (-2), 18, 0), 0)))) (.branch 19 (.leaf (18, (.ireturn, 19, 0), 0)) (.branch 20 (.leaf (19, (.aload_n 0, 20, 0), 0)) (.leaf (20, (.getfield 11, 23, 1100), 387)))))) (.branch 31 (.branch 26 (.branch 24 (.leaf (23, (.iload_n 1, 24, 0), 0)) (.branch 25 (.leaf (24, (.aaload, 25, 0), 0)) (.leaf (25, (.astore_n 3, 26, 0), 0)))) (.branch 27 (.leaf (26, (.aload_n 3, 27, 0), 0)) (.branch 30 (.leaf (27, (.getfield 150, 30, 600), 178)) (.leaf (30, (.iconst 3, 31, 0), 0))))) (.branch 38 (.branch 34 (.leaf (31, (.if_icmp .lt 11, 34, 42), 0)) (.branch 35 (.leaf (34, (.aload_n 3, 35, 0), 0)) (.leaf (35, (.getfield 150, 38, 600), 178)))) (.branch 39 (.leaf (38, (.iconst 5, 39, 0), 0)) (.branch 42 (.leaf (39, (.if_icmp .le 6, 42, 45), 0)) (.leaf (42, (.bipush (-5), 44, 0), 0))))))
set_option maxRecDepth 100000 in
def mt_136_1 : Lean.RArray mLf :=
  .branch 67 (.branch 56 (.branch 49 (.branch 45 (.leaf (44, (.ireturn, 45, 0), 0)) (.branch 46 (.leaf (45, (.aload_n 0, 46, 0), 0)) (.leaf (46, (.getfield 86, 49, 1112), 399)))) (.branch 52 (.leaf (49, (.invokevirtual 250, 52, 75), 896)) (.branch 53 (.leaf (52, (.aload_n 0, 53, 0), 0)) (.leaf (53, (.getfield 45, 56, 1107), 394))))) (.branch 62 (.branch 57 (.leaf (56, (.aload_n 3, 57, 0), 0)) (.branch 60 (.leaf (57, (.invokevirtual 163, 60, 34), 716)) (.leaf (60, (.istore 4, 62, 0), 0)))) (.branch 63 (.leaf (62, (.iload_n 2, 63, 0), 0)) (.branch 66 (.leaf (63, (.ifCond .ne 19, 66, 82), 0)) (.leaf (66, (.aload_n 0, 67, 0), 0)))))) (.branch 82 (.branch 74 (.branch 70 (.leaf (67, (.getfield 86, 70, 1112), 399)) (.branch 71 (.leaf (70, (.aload_n 3, 71, 0), 0)) (.leaf (71, (.getfield 150, 74, 600), 178)))) (.branch 76 (.leaf (74, (.iload 4, 76, 0), 0)) (.branch 79 (.leaf (76, (.invokevirtual 253, 79, 78), 906)) (.leaf (79, (.goto 16, 82, 95), 0))))) (.branch 87 (.branch 83 (.leaf (82, (.aload_n 0, 83, 0), 0)) (.branch 86 (.leaf (83, (.getfield 86, 86, 1112), 399)) (.leaf (86, (.aload_n 3, 87, 0), 0)))) (.branch 92 (.branch 90 (.leaf (87, (.getfield 150, 90, 600), 178)) (.leaf (90, (.iload 4, 92, 0), 0))) (.branch 95 (.leaf (92, (.invokevirtual 257, 95, 81), 924)) (.leaf (95, (.ireturn, 96, 0), 0))))))
/-- DeckBench.least(II)I -/
def mt_136 : Lean.RArray mLf :=
  .branch 44 (mt_136_0) (mt_136_1)
set_option maxRecDepth 100000 in
/-- DeckBench.rivals(I)I -/
def mt_137 : Lean.RArray mLf :=
  .branch 26 (.branch 14 (.branch 7 (.branch 1 (.leaf (0, (.iload_n 1, 1, 0), 0)) (.branch 4 (.leaf (1, (.invokestatic 143, 4, 154), 664)) (.leaf (4, (.ifCond .eq 6, 7, 10), 0)))) (.branch 10 (.branch 9 (.leaf (7, (.bipush (-2), 9, 0), 0)) (.leaf (9, (.ireturn, 10, 0), 0))) (.branch 11 (.leaf (10, (.aload_n 0, 11, 0), 0)) (.leaf (11, (.getfield 11, 14, 1100), 387))))) (.branch 18 (.branch 16 (.branch 15 (.leaf (14, (.iload_n 1, 15, 0), 0)) (.leaf (15, (.aaload, 16, 0), 0))) (.branch 17 (.leaf (16, (.astore_n 2, 17, 0), 0)) (.leaf (17, (.aload_n 2, 18, 0), 0)))) (.branch 22 (.branch 21 (.leaf (18, (.getfield 150, 21, 600), 178)) (.leaf (21, (.iconst 2, 22, 0), 0))) (.branch 25 (.leaf (22, (.if_icmp .lt 11, 25, 33), 0)) (.leaf (25, (.aload_n 2, 26, 0), 0)))))) (.branch 40 (.branch 33 (.branch 29 (.leaf (26, (.getfield 150, 29, 600), 178)) (.branch 30 (.leaf (29, (.iconst 5, 30, 0), 0)) (.leaf (30, (.if_icmp .le 6, 33, 36), 0)))) (.branch 36 (.branch 35 (.leaf (33, (.bipush (-5), 35, 0), 0)) (.leaf (35, (.ireturn, 36, 0), 0))) (.branch 37 (.leaf (36, (.aload_n 0, 37, 0), 0)) (.leaf (37, (.getfield 86, 40, 1112), 399))))) (.branch 48 (.branch 44 (.branch 41 (.leaf (40, (.aload_n 2, 41, 0), 0)) (.leaf (41, (.getfield 150, 44, 600), 178))) (.branch 45 (.leaf (44, (.aload_n 0, 45, 0), 0)) (.leaf (45, (.getfield 45, 48, 1107), 394)))) (.branch 52 (.branch 49 (.leaf (48, (.aload_n 2, 49, 0), 0)) (.leaf (49, (.invokevirtual 163, 52, 34), 716))) (.branch 55 (.leaf (52, (.invokevirtual 260, 55, 82), 937)) (.leaf (55, (.ireturn, 56, 0), 0))))))
set_option maxRecDepth 100000 in
/-- DeckBench.lineDeck(II)I -/
def mt_138 : Lean.RArray mLf :=
  .branch 31 (.branch 15 (.branch 9 (.branch 4 (.branch 1 (.leaf (0, (.iload_n 1, 1, 0), 0)) (.leaf (1, (.invokestatic 143, 4, 154), 664))) (.branch 7 (.leaf (4, (.ifCond .eq 6, 7, 10), 0)) (.leaf (7, (.bipush (-2), 9, 0), 0)))) (.branch 11 (.branch 10 (.leaf (9, (.ireturn, 10, 0), 0)) (.leaf (10, (.iload_n 2, 11, 0), 0))) (.branch 12 (.leaf (11, (.iconst (-1), 12, 0), 0)) (.leaf (12, (.if_icmp .ge 6, 15, 18), 0))))) (.branch 22 (.branch 18 (.branch 17 (.leaf (15, (.bipush (-3), 17, 0), 0)) (.leaf (17, (.ireturn, 18, 0), 0))) (.branch 19 (.leaf (18, (.aload_n 0, 19, 0), 0)) (.leaf (19, (.getfield 68, 22, 1110), 397)))) (.branch 26 (.branch 23 (.leaf (22, (.aload_n 0, 23, 0), 0)) (.leaf (23, (.getfield 11, 26, 1100), 387))) (.branch 27 (.leaf (26, (.iload_n 1, 27, 0), 0)) (.branch 28 (.leaf (27, (.aaload, 28, 0), 0)) (.leaf (28, (.invokevirtual 263, 31, 5), 974))))))) (.branch 44 (.branch 37 (.branch 33 (.branch 32 (.leaf (31, (.astore_n 3, 32, 0), 0)) (.leaf (32, (.iload_n 2, 33, 0), 0))) (.branch 34 (.leaf (33, (.iconst (-1), 34, 0), 0)) (.leaf (34, (.if_icmp .ne 8, 37, 42), 0)))) (.branch 41 (.branch 38 (.leaf (37, (.aload_n 3, 38, 0), 0)) (.leaf (38, (.invokevirtual 267, 41, 51), 975))) (.branch 42 (.leaf (41, (.ireturn, 42, 0), 0)) (.branch 43 (.leaf (42, (.iload_n 2, 43, 0), 0)) (.leaf (43, (.aload_n 3, 44, 0), 0)))))) (.branch 54 (.branch 50 (.branch 47 (.leaf (44, (.getfield 272, 47, 500), 227)) (.leaf (47, (.if_icmp .ge 12, 50, 59), 0))) (.branch 51 (.leaf (50, (.aload_n 3, 51, 0), 0)) (.leaf (51, (.getfield 273, 54, 501), 229)))) (.branch 56 (.branch 55 (.leaf (54, (.iload_n 2, 55, 0), 0)) (.leaf (55, (.iaload, 56, 0), 0))) (.branch 59 (.leaf (56, (.goto 4, 59, 60), 0)) (.branch 60 (.leaf (59, (.iconst (-1), 60, 0), 0)) (.leaf (60, (.ireturn, 61, 0), 0)))))))
set_option maxRecDepth 100000 in
/-- DeckBench.is(II)I -/
def mt_139 : Lean.RArray mLf :=
  .branch 21 (.branch 11 (.branch 4 (.branch 1 (.leaf (0, (.iload_n 1, 1, 0), 0)) (.leaf (1, (.invokestatic 143, 4, 154), 664))) (.branch 7 (.leaf (4, (.ifCond .ne 10, 7, 14), 0)) (.branch 8 (.leaf (7, (.iload_n 2, 8, 0), 0)) (.leaf (8, (.invokestatic 275, 11, 159), 984))))) (.branch 16 (.branch 14 (.leaf (11, (.ifCond .eq 6, 14, 17), 0)) (.leaf (14, (.bipush (-2), 16, 0), 0))) (.branch 17 (.leaf (16, (.ireturn, 17, 0), 0)) (.branch 18 (.leaf (17, (.aload_n 0, 18, 0), 0)) (.leaf (18, (.getfield 61, 21, 1109), 396)))))) (.branch 28 (.branch 25 (.branch 22 (.leaf (21, (.aload_n 0, 22, 0), 0)) (.leaf (22, (.getfield 11, 25, 1100), 387))) (.branch 26 (.leaf (25, (.iload_n 1, 26, 0), 0)) (.branch 27 (.leaf (26, (.aaload, 27, 0), 0)) (.leaf (27, (.iload_n 2, 28, 0), 0))))) (.branch 35 (.branch 31 (.leaf (28, (.invokevirtual 278, 31, 21), 987)) (.branch 34 (.leaf (31, (.ifCond .eq 7, 34, 38), 0)) (.leaf (34, (.iconst 1, 35, 0), 0)))) (.branch 38 (.leaf (35, (.goto 4, 38, 39), 0)) (.branch 39 (.leaf (38, (.iconst 0, 39, 0), 0)) (.leaf (39, (.ireturn, 40, 0), 0))))))
set_option maxRecDepth 100000 in
/-- DeckBench.trees(I)I -/
def mt_140 : Lean.RArray mLf :=
  .branch 11 (.branch 7 (.branch 1 (.leaf (0, (.iload_n 1, 1, 0), 0)) (.branch 4 (.leaf (1, (.invokestatic 143, 4, 154), 664)) (.leaf (4, (.ifCond .eq 6, 7, 10), 0)))) (.branch 9 (.leaf (7, (.bipush (-2), 9, 0), 0)) (.branch 10 (.leaf (9, (.ireturn, 10, 0), 0)) (.leaf (10, (.aload_n 0, 11, 0), 0))))) (.branch 18 (.branch 14 (.leaf (11, (.getfield 61, 14, 1109), 396)) (.branch 15 (.leaf (14, (.aload_n 0, 15, 0), 0)) (.leaf (15, (.getfield 11, 18, 1100), 387)))) (.branch 20 (.branch 19 (.leaf (18, (.iload_n 1, 19, 0), 0)) (.leaf (19, (.aaload, 20, 0), 0))) (.branch 23 (.leaf (20, (.invokevirtual 282, 23, 27), 1018)) (.leaf (23, (.ireturn, 24, 0), 0)))))
set_option maxRecDepth 100000 in
/-- DeckBench.term(II)I -/
def mt_141 : Lean.RArray mLf :=
  .branch 24 (.branch 11 (.branch 7 (.branch 1 (.leaf (0, (.iload_n 1, 1, 0), 0)) (.branch 4 (.leaf (1, (.invokestatic 143, 4, 154), 664)) (.leaf (4, (.ifCond .eq 6, 7, 10), 0)))) (.branch 9 (.leaf (7, (.bipush (-2), 9, 0), 0)) (.branch 10 (.leaf (9, (.ireturn, 10, 0), 0)) (.leaf (10, (.iload_n 2, 11, 0), 0))))) (.branch 16 (.branch 14 (.leaf (11, (.ifCond .lt 16, 14, 27), 0)) (.branch 15 (.leaf (14, (.iload_n 2, 15, 0), 0)) (.leaf (15, (.aload_n 0, 16, 0), 0)))) (.branch 20 (.branch 19 (.leaf (16, (.getfield 11, 19, 1100), 387)) (.leaf (19, (.iload_n 1, 20, 0), 0))) (.branch 21 (.leaf (20, (.aaload, 21, 0), 0)) (.leaf (21, (.getfield 150, 24, 600), 178)))))) (.branch 38 (.branch 30 (.branch 27 (.leaf (24, (.if_icmp .le 6, 27, 30), 0)) (.branch 29 (.leaf (27, (.bipush (-3), 29, 0), 0)) (.leaf (29, (.ireturn, 30, 0), 0)))) (.branch 34 (.branch 31 (.leaf (30, (.aload_n 0, 31, 0), 0)) (.leaf (31, (.getfield 61, 34, 1109), 396))) (.branch 35 (.leaf (34, (.aload_n 0, 35, 0), 0)) (.leaf (35, (.getfield 11, 38, 1100), 387))))) (.branch 41 (.branch 39 (.leaf (38, (.iload_n 1, 39, 0), 0)) (.branch 40 (.leaf (39, (.aaload, 40, 0), 0)) (.leaf (40, (.iload_n 2, 41, 0), 0)))) (.branch 47 (.branch 44 (.leaf (41, (.invokevirtual 285, 44, 29), 1032)) (.leaf (44, (.sipush 10000, 47, 0), 0))) (.branch 48 (.leaf (47, (.iadd, 48, 0), 0)) (.leaf (48, (.ireturn, 49, 0), 0))))))
set_option maxRecDepth 100000 in
/-- DeckBench.far(III)I -/
def mt_142 : Lean.RArray mLf :=
  .branch 18 (.branch 9 (.branch 2 (.branch 1 (.leaf (0, (.aload_n 0, 1, 0), 0)) (.leaf (1, (.iload_n 1, 2, 0), 0))) (.branch 3 (.leaf (2, (.iload_n 2, 3, 0), 0)) (.branch 6 (.leaf (3, (.invokevirtual 127, 6, 155), 660)) (.leaf (6, (.ifCond .ne 12, 9, 18), 0))))) (.branch 11 (.branch 10 (.leaf (9, (.aload_n 0, 10, 0), 0)) (.leaf (10, (.iload_n 1, 11, 0), 0))) (.branch 12 (.leaf (11, (.iload_n 3, 12, 0), 0)) (.branch 15 (.leaf (12, (.invokevirtual 127, 15, 155), 660)) (.leaf (15, (.ifCond .eq 6, 18, 21), 0)))))) (.branch 26 (.branch 21 (.branch 20 (.leaf (18, (.bipush (-2), 20, 0), 0)) (.leaf (20, (.ireturn, 21, 0), 0))) (.branch 22 (.leaf (21, (.aload_n 0, 22, 0), 0)) (.branch 25 (.leaf (22, (.getfield 11, 25, 1100), 387)) (.leaf (25, (.iload_n 1, 26, 0), 0))))) (.branch 28 (.branch 27 (.leaf (26, (.aaload, 27, 0), 0)) (.leaf (27, (.iload_n 2, 28, 0), 0))) (.branch 29 (.leaf (28, (.iload_n 3, 29, 0), 0)) (.branch 32 (.leaf (29, (.invokevirtual 288, 32, 73), 1053)) (.leaf (32, (.ireturn, 33, 0), 0))))))
set_option maxRecDepth 100000 in
/-- DeckBench.card(II)I -/
def mt_143 : Lean.RArray mLf :=
  .branch 35 (.branch 16 (.branch 9 (.branch 4 (.branch 1 (.leaf (0, (.iload_n 1, 1, 0), 0)) (.leaf (1, (.invokestatic 170, 4, 156), 722))) (.branch 7 (.leaf (4, (.ifCond .eq 6, 7, 10), 0)) (.leaf (7, (.bipush (-2), 9, 0), 0)))) (.branch 11 (.branch 10 (.leaf (9, (.ireturn, 10, 0), 0)) (.leaf (10, (.iload_n 2, 11, 0), 0))) (.branch 12 (.leaf (11, (.iconst (-1), 12, 0), 0)) (.branch 15 (.leaf (12, (.if_icmp .ne 29, 15, 41), 0)) (.leaf (15, (.aload_n 0, 16, 0), 0)))))) (.branch 24 (.branch 20 (.branch 19 (.leaf (16, (.getfield 17, 19, 1101), 388)) (.leaf (19, (.iload_n 1, 20, 0), 0))) (.branch 21 (.leaf (20, (.aaload, 21, 0), 0)) (.leaf (21, (.getfield 187, 24, 100), 299)))) (.branch 28 (.branch 27 (.leaf (24, (.ifCond .ne 7, 27, 31), 0)) (.leaf (27, (.iconst (-1), 28, 0), 0))) (.branch 31 (.leaf (28, (.goto 12, 31, 40), 0)) (.branch 32 (.leaf (31, (.aload_n 0, 32, 0), 0)) (.leaf (32, (.getfield 17, 35, 1101), 388))))))) (.branch 50 (.branch 41 (.branch 37 (.branch 36 (.leaf (35, (.iload_n 1, 36, 0), 0)) (.leaf (36, (.aaload, 37, 0), 0))) (.branch 40 (.leaf (37, (.getfield 187, 40, 100), 299)) (.leaf (40, (.ireturn, 41, 0), 0)))) (.branch 43 (.branch 42 (.leaf (41, (.aload_n 0, 42, 0), 0)) (.leaf (42, (.iload_n 1, 43, 0), 0))) (.branch 44 (.leaf (43, (.iload_n 2, 44, 0), 0)) (.branch 47 (.leaf (44, (.invokevirtual 184, 47, 158), 752)) (.leaf (47, (.ifCond .eq 8, 50, 55), 0)))))) (.branch 60 (.branch 55 (.branch 52 (.leaf (50, (.bipush (-2), 52, 0), 0)) (.leaf (52, (.goto 14, 55, 66), 0))) (.branch 56 (.leaf (55, (.aload_n 0, 56, 0), 0)) (.branch 59 (.leaf (56, (.getfield 17, 59, 1101), 388)) (.leaf (59, (.iload_n 1, 60, 0), 0))))) (.branch 64 (.branch 61 (.leaf (60, (.aaload, 61, 0), 0)) (.leaf (61, (.getfield 188, 64, 101), 306))) (.branch 65 (.leaf (64, (.iload_n 2, 65, 0), 0)) (.branch 66 (.leaf (65, (.iaload, 66, 0), 0)) (.leaf (66, (.ireturn, 67, 0), 0)))))))
set_option maxRecDepth 100000 in
/-- DeckBench.common(II)I -/
def mt_144 : Lean.RArray mLf :=
  .branch 19 (.branch 9 (.branch 2 (.branch 1 (.leaf (0, (.aload_n 0, 1, 0), 0)) (.leaf (1, (.iload_n 1, 2, 0), 0))) (.branch 5 (.leaf (2, (.invokevirtual 199, 5, 157), 765)) (.branch 8 (.leaf (5, (.ifCond .ne 11, 8, 16), 0)) (.leaf (8, (.aload_n 0, 9, 0), 0))))) (.branch 13 (.branch 10 (.leaf (9, (.iload_n 2, 10, 0), 0)) (.leaf (10, (.invokevirtual 199, 13, 157), 765))) (.branch 16 (.leaf (13, (.ifCond .eq 6, 16, 19), 0)) (.branch 18 (.leaf (16, (.bipush (-2), 18, 0), 0)) (.leaf (18, (.ireturn, 19, 0), 0)))))) (.branch 26 (.branch 23 (.branch 20 (.leaf (19, (.aload_n 0, 20, 0), 0)) (.leaf (20, (.getfield 17, 23, 1101), 388))) (.branch 24 (.leaf (23, (.iload_n 1, 24, 0), 0)) (.branch 25 (.leaf (24, (.aaload, 25, 0), 0)) (.leaf (25, (.aload_n 0, 26, 0), 0))))) (.branch 30 (.branch 29 (.leaf (26, (.getfield 17, 29, 1101), 388)) (.leaf (29, (.iload_n 2, 30, 0), 0))) (.branch 31 (.leaf (30, (.aaload, 31, 0), 0)) (.branch 34 (.leaf (31, (.invokevirtual 291, 34, 15), 1065)) (.leaf (34, (.ireturn, 35, 0), 0))))))
set_option maxRecDepth 100000 in
def mt_145_0 : Lean.RArray mLf :=
  .branch 26 (.branch 13 (.branch 5 (.branch 1 (.leaf (0, (.aload_n 0, 1, 0), 0)) (.branch 2 (.leaf (1, (.iload_n 1, 2, 0), 0)) (.leaf (2, (.invokevirtual 199, 5, 157), 765)))) (.branch 9 (.branch 8 (.leaf (5, (.ifCond .ne 12, 8, 17), 0)) (.leaf (8, (.iload_n 2, 9, 0), 0))) (.branch 12 (.leaf (9, (.ifCond .lt 8, 12, 17), 0)) (.leaf (12, (.iload_n 2, 13, 0), 0))))) (.branch 20 (.branch 17 (.branch 14 (.leaf (13, (.iconst 4, 14, 0), 0)) (.leaf (14, (.if_icmp .le 6, 17, 20), 0))) (.branch 19 (.leaf (17, (.bipush (-2), 19, 0), 0)) (.leaf (19, (.ireturn, 20, 0), 0)))) (.branch 24 (.branch 21 (.leaf (20, (.aload_n 0, 21, 0), 0)) (.leaf (21, (.getfield 17, 24, 1101), 388))) (.branch 25 (.leaf (24, (.iload_n 1, 25, 0), 0)) (.leaf (25, (.aaload, 26, 0), 0)))))) (.branch 40 (.branch 32 (.branch 28 (.branch 27 (.leaf (26, (.astore_n 3, 27, 0), 0)) (.leaf (27, (.iload_n 2, 28, 0), 0))) (.branch 29 (.leaf (28, (.iconst 4, 29, 0), 0)) (.leaf (29, (.if_icmp .ne 12, 32, 41), 0)))) (.branch 36 (.branch 33 (.leaf (32, (.aload_n 0, 33, 0), 0)) (.leaf (33, (.getfield 77, 36, 1111), 398))) (.branch 37 (.leaf (36, (.aload_n 3, 37, 0), 0)) (.leaf (37, (.invokevirtual 294, 40, 85), 1070))))) (.branch 47 (.branch 42 (.branch 41 (.leaf (40, (.ireturn, 41, 0), 0)) (.leaf (41, (.aload_n 3, 42, 0), 0))) (.branch 45 (.leaf (42, (.invokevirtual 297, 45, 19), 1075)) (.leaf (45, (.istore 4, 47, 0), 0)))) (.branch 50 (.branch 49 (.leaf (47, (.iload 4, 49, 0), 0)) (.leaf (49, (.iconst (-1), 50, 0), 0))) (.branch 53 (.leaf (50, (.if_icmp .eq 7, 53, 57), 0)) (.leaf (53, (.iload_n 2, 54, 0), 0))))))
set_option maxRecDepth 100000 in
def mt_145_1 : Lean.RArray mLf :=
  .branch 83 (.branch 69 (.branch 62 (.branch 59 (.branch 57 (.leaf (54, (.ifCond .ne 6, 57, 60), 0)) (.leaf (57, (.iload 4, 59, 0), 0))) (.branch 60 (.leaf (59, (.ireturn, 60, 0), 0)) (.leaf (60, (.iload 4, 62, 0), 0)))) (.branch 66 (.branch 63 (.leaf (62, (.aload_n 3, 63, 0), 0)) (.leaf (63, (.invokevirtual 300, 66, 17), 1076))) (.branch 67 (.leaf (66, (.isub, 67, 0), 0)) (.leaf (67, (.istore 5, 69, 0), 0))))) (.branch 76 (.branch 72 (.branch 71 (.leaf (69, (.iload 4, 71, 0), 0)) (.leaf (71, (.aload_n 3, 72, 0), 0))) (.branch 75 (.leaf (72, (.invokevirtual 303, 75, 18), 1081)) (.leaf (75, (.isub, 76, 0), 0)))) (.branch 79 (.branch 78 (.leaf (76, (.istore 6, 78, 0), 0)) (.leaf (78, (.iload_n 2, 79, 0), 0))) (.branch 80 (.leaf (79, (.iconst 3, 80, 0), 0)) (.leaf (80, (.if_icmp .ne 16, 83, 96), 0)))))) (.branch 98 (.branch 91 (.branch 87 (.branch 85 (.leaf (83, (.iload 5, 85, 0), 0)) (.leaf (85, (.iload 6, 87, 0), 0))) (.branch 90 (.leaf (87, (.if_icmp .ne 7, 90, 94), 0)) (.leaf (90, (.iconst 1, 91, 0), 0)))) (.branch 95 (.branch 94 (.leaf (91, (.goto 4, 94, 95), 0)) (.leaf (94, (.iconst 0, 95, 0), 0))) (.branch 96 (.leaf (95, (.ireturn, 96, 0), 0)) (.leaf (96, (.bipush 100, 98, 0), 0))))) (.branch 105 (.branch 100 (.branch 99 (.leaf (98, (.iload_n 2, 99, 0), 0)) (.leaf (99, (.iconst 1, 100, 0), 0))) (.branch 103 (.leaf (100, (.if_icmp .ne 8, 103, 108), 0)) (.leaf (103, (.iload 5, 105, 0), 0)))) (.branch 110 (.branch 108 (.leaf (105, (.goto 5, 108, 110), 0)) (.leaf (108, (.iload 6, 110, 0), 0))) (.branch 111 (.leaf (110, (.iadd, 111, 0), 0)) (.leaf (111, (.ireturn, 112, 0), 0))))))
/-- DeckBench.told(II)I -/
def mt_145 : Lean.RArray mLf :=
  .branch 54 (mt_145_0) (mt_145_1)
set_option maxRecDepth 100000 in
/-- DeckBench.degree(II)I -/
def mt_146 : Lean.RArray mLf :=
  .branch 23 (.branch 12 (.branch 3 (.branch 1 (.leaf (0, (.aload_n 0, 1, 0), 0)) (.branch 2 (.leaf (1, (.iload_n 1, 2, 0), 0)) (.leaf (2, (.iload_n 2, 3, 0), 0)))) (.branch 9 (.branch 6 (.leaf (3, (.invokevirtual 184, 6, 158), 752)) (.leaf (6, (.ifCond .eq 6, 9, 12), 0))) (.branch 11 (.leaf (9, (.bipush (-2), 11, 0), 0)) (.leaf (11, (.ireturn, 12, 0), 0))))) (.branch 17 (.branch 13 (.leaf (12, (.aload_n 0, 13, 0), 0)) (.branch 16 (.leaf (13, (.getfield 17, 16, 1101), 388)) (.leaf (16, (.iload_n 1, 17, 0), 0)))) (.branch 21 (.branch 18 (.leaf (17, (.aaload, 18, 0), 0)) (.leaf (18, (.invokevirtual 297, 21, 19), 1075))) (.branch 22 (.leaf (21, (.istore_n 3, 22, 0), 0)) (.leaf (22, (.iload_n 3, 23, 0), 0)))))) (.branch 35 (.branch 28 (.branch 24 (.leaf (23, (.iconst (-1), 24, 0), 0)) (.branch 27 (.leaf (24, (.if_icmp .ne 7, 27, 31), 0)) (.leaf (27, (.iconst (-1), 28, 0), 0)))) (.branch 33 (.branch 31 (.leaf (28, (.goto 18, 31, 46), 0)) (.leaf (31, (.bipush 100, 33, 0), 0))) (.branch 34 (.leaf (33, (.iload_n 3, 34, 0), 0)) (.leaf (34, (.iadd, 35, 0), 0))))) (.branch 41 (.branch 39 (.branch 36 (.leaf (35, (.aload_n 0, 36, 0), 0)) (.leaf (36, (.getfield 17, 39, 1101), 388))) (.branch 40 (.leaf (39, (.iload_n 1, 40, 0), 0)) (.leaf (40, (.aaload, 41, 0), 0)))) (.branch 45 (.branch 42 (.leaf (41, (.iload_n 2, 42, 0), 0)) (.leaf (42, (.invokevirtual 306, 45, 16), 1090))) (.branch 46 (.leaf (45, (.isub, 46, 0), 0)) (.leaf (46, (.ireturn, 47, 0), 0))))))
set_option maxRecDepth 100000 in
def mt_147_0 : Lean.RArray mLf :=
  .branch 23 (.branch 12 (.branch 5 (.branch 1 (.leaf (0, (.aload_n 0, 1, 0), 0)) (.branch 2 (.leaf (1, (.iload_n 1, 2, 0), 0)) (.leaf (2, (.invokevirtual 199, 5, 157), 765)))) (.branch 8 (.leaf (5, (.ifCond .ne 10, 8, 15), 0)) (.branch 9 (.leaf (8, (.iload_n 2, 9, 0), 0)) (.leaf (9, (.invokestatic 143, 12, 154), 664))))) (.branch 18 (.branch 15 (.leaf (12, (.ifCond .eq 6, 15, 18), 0)) (.branch 17 (.leaf (15, (.bipush (-2), 17, 0), 0)) (.leaf (17, (.ireturn, 18, 0), 0)))) (.branch 19 (.leaf (18, (.aload_n 0, 19, 0), 0)) (.branch 22 (.leaf (19, (.getfield 11, 22, 1100), 387)) (.leaf (22, (.iload_n 2, 23, 0), 0)))))) (.branch 31 (.branch 26 (.branch 24 (.leaf (23, (.aaload, 24, 0), 0)) (.branch 25 (.leaf (24, (.astore_n 3, 25, 0), 0)) (.leaf (25, (.aload_n 0, 26, 0), 0)))) (.branch 29 (.leaf (26, (.getfield 17, 29, 1101), 388)) (.branch 30 (.leaf (29, (.iload_n 1, 30, 0), 0)) (.leaf (30, (.aaload, 31, 0), 0))))) (.branch 37 (.branch 34 (.leaf (31, (.getfield 187, 34, 100), 299)) (.branch 36 (.leaf (34, (.istore 4, 36, 0), 0)) (.leaf (36, (.aload_n 3, 37, 0), 0)))) (.branch 40 (.leaf (37, (.getfield 150, 40, 600), 178)) (.branch 41 (.leaf (40, (.iconst 1, 41, 0), 0)) (.leaf (41, (.if_icmp .lt 20, 44, 61), 0))))))
set_option maxRecDepth 100000 in
def mt_147_1 : Lean.RArray mLf :=
  .branch 65 (.branch 55 (.branch 50 (.branch 45 (.leaf (44, (.aload_n 3, 45, 0), 0)) (.branch 48 (.leaf (45, (.getfield 150, 48, 600), 178)) (.leaf (48, (.iload 4, 50, 0), 0)))) (.branch 51 (.leaf (50, (.iconst 1, 51, 0), 0)) (.branch 52 (.leaf (51, (.isub, 52, 0), 0)) (.leaf (52, (.if_icmp .gt 9, 55, 61), 0))))) (.branch 61 (.branch 57 (.leaf (55, (.iload 4, 57, 0), 0)) (.branch 58 (.leaf (57, (.iconst 2, 58, 0), 0)) (.leaf (58, (.if_icmp .ne 6, 61, 64), 0)))) (.branch 63 (.leaf (61, (.bipush (-5), 63, 0), 0)) (.branch 64 (.leaf (63, (.ireturn, 64, 0), 0)) (.leaf (64, (.aload_n 0, 65, 0), 0)))))) (.branch 75 (.branch 72 (.branch 68 (.leaf (65, (.getfield 77, 68, 1111), 398)) (.branch 69 (.leaf (68, (.aload_n 0, 69, 0), 0)) (.leaf (69, (.getfield 17, 72, 1101), 388)))) (.branch 73 (.leaf (72, (.iload_n 1, 73, 0), 0)) (.branch 74 (.leaf (73, (.aaload, 74, 0), 0)) (.leaf (74, (.aload_n 3, 75, 0), 0))))) (.branch 82 (.branch 78 (.leaf (75, (.getfield 150, 78, 600), 178)) (.branch 79 (.leaf (78, (.aload_n 0, 79, 0), 0)) (.leaf (79, (.getfield 45, 82, 1107), 394)))) (.branch 86 (.branch 83 (.leaf (82, (.aload_n 3, 83, 0), 0)) (.leaf (83, (.invokevirtual 163, 86, 34), 716))) (.branch 89 (.leaf (86, (.invokevirtual 309, 89, 87), 1095)) (.leaf (89, (.ireturn, 90, 0), 0))))))
/-- DeckBench.toldParts(II)I -/
def mt_147 : Lean.RArray mLf :=
  .branch 44 (mt_147_0) (mt_147_1)
set_option maxRecDepth 100000 in
def mt_148_0 : Lean.RArray mLf :=
  .branch 20 (.branch 10 (.branch 2 (.branch 1 (.leaf (0, (.aload_n 0, 1, 0), 0)) (.leaf (1, (.iload_n 1, 2, 0), 0))) (.branch 5 (.leaf (2, (.invokevirtual 199, 5, 157), 765)) (.branch 8 (.leaf (5, (.ifCond .eq 6, 8, 11), 0)) (.leaf (8, (.bipush (-2), 10, 0), 0))))) (.branch 15 (.branch 11 (.leaf (10, (.ireturn, 11, 0), 0)) (.branch 12 (.leaf (11, (.aload_n 0, 12, 0), 0)) (.leaf (12, (.getfield 17, 15, 1101), 388)))) (.branch 16 (.leaf (15, (.iload_n 1, 16, 0), 0)) (.branch 17 (.leaf (16, (.aaload, 17, 0), 0)) (.leaf (17, (.getfield 187, 20, 100), 299)))))) (.branch 28 (.branch 25 (.branch 21 (.leaf (20, (.istore_n 3, 21, 0), 0)) (.branch 22 (.leaf (21, (.iload_n 2, 22, 0), 0)) (.leaf (22, (.ifCond .lt 10, 25, 32), 0)))) (.branch 26 (.leaf (25, (.iload_n 2, 26, 0), 0)) (.branch 27 (.leaf (26, (.iload_n 3, 27, 0), 0)) (.leaf (27, (.iconst 1, 28, 0), 0))))) (.branch 34 (.branch 29 (.leaf (28, (.isub, 29, 0), 0)) (.branch 32 (.leaf (29, (.if_icmp .le 6, 32, 35), 0)) (.leaf (32, (.bipush (-3), 34, 0), 0)))) (.branch 35 (.leaf (34, (.ireturn, 35, 0), 0)) (.branch 36 (.leaf (35, (.aload_n 0, 36, 0), 0)) (.leaf (36, (.getfield 77, 39, 1111), 398))))))
set_option maxRecDepth 100000 in
def mt_148_1 : Lean.RArray mLf :=
  .branch 56 (.branch 46 (.branch 43 (.branch 40 (.leaf (39, (.aload_n 0, 40, 0), 0)) (.leaf (40, (.getfield 17, 43, 1101), 388))) (.branch 44 (.leaf (43, (.iload_n 1, 44, 0), 0)) (.branch 45 (.leaf (44, (.aaload, 45, 0), 0)) (.leaf (45, (.iload_n 2, 46, 0), 0))))) (.branch 52 (.branch 49 (.leaf (46, (.invokevirtual 313, 49, 86), 1104)) (.branch 51 (.leaf (49, (.istore 4, 51, 0), 0)) (.leaf (51, (.iload_n 3, 52, 0), 0)))) (.branch 53 (.leaf (52, (.iload_n 2, 53, 0), 0)) (.branch 54 (.leaf (53, (.isub, 54, 0), 0)) (.leaf (54, (.istore 5, 56, 0), 0)))))) (.branch 68 (.branch 61 (.branch 58 (.leaf (56, (.iload 4, 58, 0), 0)) (.branch 60 (.leaf (58, (.iload 5, 60, 0), 0)) (.leaf (60, (.irem, 61, 0), 0)))) (.branch 64 (.leaf (61, (.ifCond .ne 15, 64, 76), 0)) (.branch 66 (.leaf (64, (.iload 4, 66, 0), 0)) (.leaf (66, (.iload 5, 68, 0), 0))))) (.branch 73 (.branch 69 (.leaf (68, (.idiv, 69, 0), 0)) (.branch 72 (.leaf (69, (.sipush 10000, 72, 0), 0)) (.leaf (72, (.iadd, 73, 0), 0)))) (.branch 76 (.leaf (73, (.goto 4, 76, 77), 0)) (.branch 77 (.leaf (76, (.iconst (-1), 77, 0), 0)) (.leaf (77, (.ireturn, 78, 0), 0))))))
/-- DeckBench.toldTerm(II)I -/
def mt_148 : Lean.RArray mLf :=
  .branch 39 (mt_148_0) (mt_148_1)
set_option maxRecDepth 100000 in
def mt_149_0 : Lean.RArray mLf :=
  .branch 19 (.branch 9 (.branch 2 (.branch 1 (.leaf (0, (.aload_n 0, 1, 0), 0)) (.leaf (1, (.iload_n 1, 2, 0), 0))) (.branch 5 (.leaf (2, (.invokevirtual 199, 5, 157), 765)) (.branch 8 (.leaf (5, (.ifCond .ne 10, 8, 15), 0)) (.leaf (8, (.iload_n 2, 9, 0), 0))))) (.branch 15 (.branch 12 (.leaf (9, (.invokestatic 275, 12, 159), 984)) (.leaf (12, (.ifCond .eq 6, 15, 18), 0))) (.branch 17 (.leaf (15, (.bipush (-2), 17, 0), 0)) (.branch 18 (.leaf (17, (.ireturn, 18, 0), 0)) (.leaf (18, (.aload_n 0, 19, 0), 0)))))) (.branch 28 (.branch 23 (.branch 22 (.leaf (19, (.getfield 77, 22, 1111), 398)) (.leaf (22, (.aload_n 0, 23, 0), 0))) (.branch 26 (.leaf (23, (.getfield 17, 26, 1101), 388)) (.branch 27 (.leaf (26, (.iload_n 1, 27, 0), 0)) (.leaf (27, (.aaload, 28, 0), 0))))) (.branch 33 (.branch 31 (.leaf (28, (.invokevirtual 202, 31, 91), 769)) (.branch 32 (.leaf (31, (.istore_n 3, 32, 0), 0)) (.leaf (32, (.aload_n 0, 33, 0), 0)))) (.branch 36 (.leaf (33, (.getfield 77, 36, 1111), 398)) (.branch 37 (.leaf (36, (.aload_n 0, 37, 0), 0)) (.leaf (37, (.getfield 17, 40, 1101), 388))))))
set_option maxRecDepth 100000 in
def mt_149_1 : Lean.RArray mLf :=
  .branch 60 (.branch 49 (.branch 42 (.branch 41 (.leaf (40, (.iload_n 1, 41, 0), 0)) (.leaf (41, (.aaload, 42, 0), 0))) (.branch 45 (.leaf (42, (.getfield 187, 45, 100), 299)) (.branch 46 (.leaf (45, (.iload_n 2, 46, 0), 0)) (.leaf (46, (.invokevirtual 317, 49, 95), 1113))))) (.branch 52 (.branch 51 (.leaf (49, (.istore 4, 51, 0), 0)) (.leaf (51, (.iload_n 3, 52, 0), 0))) (.branch 55 (.leaf (52, (.ifCond .eq 14, 55, 66), 0)) (.branch 57 (.leaf (55, (.iload 4, 57, 0), 0)) (.leaf (57, (.ifCond .eq 11, 60, 68), 0)))))) (.branch 68 (.branch 63 (.branch 62 (.leaf (60, (.iload 4, 62, 0), 0)) (.leaf (62, (.iload_n 3, 63, 0), 0))) (.branch 66 (.leaf (63, (.if_icmp .eq 5, 66, 68), 0)) (.branch 67 (.leaf (66, (.iconst (-1), 67, 0), 0)) (.leaf (67, (.ireturn, 68, 0), 0))))) (.branch 74 (.branch 70 (.leaf (68, (.iload 4, 70, 0), 0)) (.branch 73 (.leaf (70, (.ifCond .ne 7, 73, 77), 0)) (.leaf (73, (.iconst 0, 74, 0), 0)))) (.branch 77 (.leaf (74, (.goto 4, 77, 78), 0)) (.branch 78 (.leaf (77, (.iconst 1, 78, 0), 0)) (.leaf (78, (.ireturn, 79, 0), 0))))))
/-- DeckBench.proved(II)I -/
def mt_149 : Lean.RArray mLf :=
  .branch 40 (mt_149_0) (mt_149_1)
set_option maxRecDepth 100000 in
/-- DeckBench.reason(I)I -/
def mt_150 : Lean.RArray mLf :=
  .branch 26 (.branch 12 (.branch 5 (.branch 1 (.leaf (0, (.aload_n 0, 1, 0), 0)) (.branch 2 (.leaf (1, (.iload_n 1, 2, 0), 0)) (.leaf (2, (.invokevirtual 199, 5, 157), 765)))) (.branch 10 (.branch 8 (.leaf (5, (.ifCond .eq 6, 8, 11), 0)) (.leaf (8, (.bipush (-2), 10, 0), 0))) (.branch 11 (.leaf (10, (.ireturn, 11, 0), 0)) (.leaf (11, (.aload_n 0, 12, 0), 0))))) (.branch 20 (.branch 16 (.branch 15 (.leaf (12, (.getfield 77, 15, 1111), 398)) (.leaf (15, (.aload_n 0, 16, 0), 0))) (.branch 19 (.leaf (16, (.getfield 17, 19, 1101), 388)) (.leaf (19, (.iload_n 1, 20, 0), 0)))) (.branch 24 (.branch 21 (.leaf (20, (.aaload, 21, 0), 0)) (.leaf (21, (.invokevirtual 320, 24, 88), 1122))) (.branch 25 (.leaf (24, (.istore_n 2, 25, 0), 0)) (.leaf (25, (.iload_n 2, 26, 0), 0)))))) (.branch 39 (.branch 31 (.branch 29 (.leaf (26, (.ifCond .eq 5, 29, 31), 0)) (.branch 30 (.leaf (29, (.iload_n 2, 30, 0), 0)) (.leaf (30, (.ireturn, 31, 0), 0)))) (.branch 35 (.branch 32 (.leaf (31, (.aload_n 0, 32, 0), 0)) (.leaf (32, (.getfield 77, 35, 1111), 398))) (.branch 36 (.leaf (35, (.aload_n 0, 36, 0), 0)) (.leaf (36, (.getfield 17, 39, 1101), 388))))) (.branch 47 (.branch 41 (.branch 40 (.leaf (39, (.iload_n 1, 40, 0), 0)) (.leaf (40, (.aaload, 41, 0), 0))) (.branch 44 (.leaf (41, (.invokevirtual 202, 44, 91), 769)) (.leaf (44, (.ifCond .ne 7, 47, 51), 0)))) (.branch 51 (.branch 48 (.leaf (47, (.iconst 4, 48, 0), 0)) (.leaf (48, (.goto 4, 51, 52), 0))) (.branch 52 (.leaf (51, (.iconst 0, 52, 0), 0)) (.leaf (52, (.ireturn, 53, 0), 0))))))
set_option maxRecDepth 100000 in
/-- DeckBench.answers(II)I -/
def mt_151 : Lean.RArray mLf :=
  .branch 29 (.branch 13 (.branch 8 (.branch 2 (.branch 1 (.leaf (0, (.aload_n 0, 1, 0), 0)) (.leaf (1, (.iload_n 1, 2, 0), 0))) (.branch 5 (.leaf (2, (.invokevirtual 199, 5, 157), 765)) (.leaf (5, (.ifCond .eq 6, 8, 11), 0)))) (.branch 11 (.branch 10 (.leaf (8, (.bipush (-2), 10, 0), 0)) (.leaf (10, (.ireturn, 11, 0), 0))) (.branch 12 (.leaf (11, (.iload_n 2, 12, 0), 0)) (.leaf (12, (.iconst (-1), 13, 0), 0))))) (.branch 20 (.branch 18 (.branch 16 (.leaf (13, (.if_icmp .ge 6, 16, 19), 0)) (.leaf (16, (.bipush (-3), 18, 0), 0))) (.branch 19 (.leaf (18, (.ireturn, 19, 0), 0)) (.leaf (19, (.aload_n 0, 20, 0), 0)))) (.branch 24 (.branch 23 (.leaf (20, (.getfield 77, 23, 1111), 398)) (.leaf (23, (.aload_n 0, 24, 0), 0))) (.branch 27 (.leaf (24, (.getfield 17, 27, 1101), 388)) (.branch 28 (.leaf (27, (.iload_n 1, 28, 0), 0)) (.leaf (28, (.aaload, 29, 0), 0))))))) (.branch 42 (.branch 35 (.branch 33 (.branch 32 (.leaf (29, (.invokevirtual 202, 32, 91), 769)) (.leaf (32, (.istore_n 3, 33, 0), 0))) (.branch 34 (.leaf (33, (.iload_n 2, 34, 0), 0)) (.leaf (34, (.iconst (-1), 35, 0), 0)))) (.branch 39 (.branch 38 (.leaf (35, (.if_icmp .ne 5, 38, 40), 0)) (.leaf (38, (.iload_n 3, 39, 0), 0))) (.branch 40 (.leaf (39, (.ireturn, 40, 0), 0)) (.branch 41 (.leaf (40, (.iload_n 2, 41, 0), 0)) (.leaf (41, (.iload_n 3, 42, 0), 0)))))) (.branch 52 (.branch 46 (.branch 45 (.leaf (42, (.if_icmp .ge 15, 45, 57), 0)) (.leaf (45, (.aload_n 0, 46, 0), 0))) (.branch 49 (.leaf (46, (.getfield 77, 49, 1111), 398)) (.leaf (49, (.getfield 206, 52, 806), 260)))) (.branch 54 (.branch 53 (.leaf (52, (.iload_n 2, 53, 0), 0)) (.leaf (53, (.iaload, 54, 0), 0))) (.branch 57 (.leaf (54, (.goto 4, 57, 58), 0)) (.branch 58 (.leaf (57, (.iconst (-1), 58, 0), 0)) (.leaf (58, (.ireturn, 59, 0), 0)))))))
set_option maxRecDepth 100000 in
/-- DeckBench.mends(II)I -/
def mt_152 : Lean.RArray mLf :=
  .branch 24 (.branch 12 (.branch 3 (.branch 1 (.leaf (0, (.aload_n 0, 1, 0), 0)) (.branch 2 (.leaf (1, (.iload_n 1, 2, 0), 0)) (.leaf (2, (.iload_n 2, 3, 0), 0)))) (.branch 9 (.branch 6 (.leaf (3, (.invokevirtual 184, 6, 158), 752)) (.leaf (6, (.ifCond .eq 6, 9, 12), 0))) (.branch 11 (.leaf (9, (.bipush (-2), 11, 0), 0)) (.leaf (11, (.ireturn, 12, 0), 0))))) (.branch 18 (.branch 16 (.branch 13 (.leaf (12, (.aload_n 0, 13, 0), 0)) (.leaf (13, (.getfield 17, 16, 1101), 388))) (.branch 17 (.leaf (16, (.iload_n 1, 17, 0), 0)) (.leaf (17, (.aaload, 18, 0), 0)))) (.branch 20 (.branch 19 (.leaf (18, (.astore_n 3, 19, 0), 0)) (.leaf (19, (.aload_n 3, 20, 0), 0))) (.branch 23 (.leaf (20, (.getfield 187, 23, 100), 299)) (.leaf (23, (.iconst 3, 24, 0), 0)))))) (.branch 39 (.branch 32 (.branch 28 (.branch 27 (.leaf (24, (.if_icmp .lt 11, 27, 35), 0)) (.leaf (27, (.aload_n 3, 28, 0), 0))) (.branch 31 (.leaf (28, (.getfield 187, 31, 100), 299)) (.leaf (31, (.iconst 5, 32, 0), 0)))) (.branch 37 (.branch 35 (.leaf (32, (.if_icmp .le 6, 35, 38), 0)) (.leaf (35, (.bipush (-5), 37, 0), 0))) (.branch 38 (.leaf (37, (.ireturn, 38, 0), 0)) (.leaf (38, (.aload_n 0, 39, 0), 0))))) (.branch 49 (.branch 45 (.branch 42 (.leaf (39, (.getfield 86, 42, 1112), 399)) (.leaf (42, (.invokevirtual 250, 45, 75), 896))) (.branch 46 (.leaf (45, (.aload_n 0, 46, 0), 0)) (.leaf (46, (.getfield 86, 49, 1112), 399)))) (.branch 51 (.branch 50 (.leaf (49, (.aload_n 3, 50, 0), 0)) (.leaf (50, (.iload_n 2, 51, 0), 0))) (.branch 54 (.leaf (51, (.invokevirtual 323, 54, 83), 1144)) (.leaf (54, (.ireturn, 55, 0), 0))))))
set_option maxRecDepth 100000 in
/-- DeckBench.count(I)I -/
def mt_153 : Lean.RArray mLf :=
  .branch 55 (.branch 41 (.branch 33 (.branch 1 (.leaf (0, (.iload_n 1, 1, 0), 0)) (.branch 32 (.leaf (1, (.tableswitch 54 0 3 #[31, 39, 44, 49], 32, 0), 0)) (.leaf (32, (.aload_n 0, 33, 0), 0)))) (.branch 39 (.branch 36 (.leaf (33, (.getfield 38, 36, 1106), 393)) (.leaf (36, (.getfield 209, 39, 402), 118))) (.branch 40 (.leaf (39, (.ireturn, 40, 0), 0)) (.leaf (40, (.aload_n 0, 41, 0), 0))))) (.branch 49 (.branch 45 (.branch 44 (.leaf (41, (.getfield 25, 44, 1103), 390)) (.leaf (44, (.ireturn, 45, 0), 0))) (.branch 46 (.leaf (45, (.aload_n 0, 46, 0), 0)) (.leaf (46, (.invokevirtual 326, 49, 162), 1152)))) (.branch 51 (.branch 50 (.leaf (49, (.ireturn, 50, 0), 0)) (.leaf (50, (.aload_n 0, 51, 0), 0))) (.branch 54 (.leaf (51, (.invokevirtual 329, 54, 163), 1156)) (.leaf (54, (.ireturn, 55, 0), 0)))))) (.branch 68 (.branch 61 (.branch 56 (.leaf (55, (.iload_n 1, 56, 0), 0)) (.branch 58 (.leaf (56, (.bipush 10, 58, 0), 0)) (.leaf (58, (.if_icmp .lt 9, 61, 67), 0)))) (.branch 64 (.branch 62 (.leaf (61, (.iload_n 1, 62, 0), 0)) (.leaf (62, (.bipush 15, 64, 0), 0))) (.branch 67 (.leaf (64, (.if_icmp .le 5, 67, 69), 0)) (.leaf (67, (.iconst (-1), 68, 0), 0))))) (.branch 74 (.branch 70 (.branch 69 (.leaf (68, (.ireturn, 69, 0), 0)) (.leaf (69, (.aload_n 0, 70, 0), 0))) (.branch 73 (.leaf (70, (.getfield 86, 73, 1112), 399)) (.leaf (73, (.iload_n 1, 74, 0), 0)))) (.branch 77 (.branch 76 (.leaf (74, (.bipush 10, 76, 0), 0)) (.leaf (76, (.isub, 77, 0), 0))) (.branch 80 (.leaf (77, (.invokevirtual 332, 80, 76), 1160)) (.leaf (80, (.ireturn, 81, 0), 0))))))
set_option maxRecDepth 100000 in
/-- DeckBench.isNoSlot(I)Z -/
def mt_154 : Lean.RArray mLf :=
  .branch 7 (.branch 4 (.branch 1 (.leaf (0, (.iload_n 0, 1, 0), 0)) (.leaf (1, (.ifCond .lt 9, 4, 10), 0))) (.branch 5 (.leaf (4, (.iload_n 0, 5, 0), 0)) (.leaf (5, (.bipush 6, 7, 0), 0)))) (.branch 11 (.branch 10 (.leaf (7, (.if_icmp .lt 7, 10, 14), 0)) (.leaf (10, (.iconst 1, 11, 0), 0))) (.branch 14 (.leaf (11, (.goto 4, 14, 15), 0)) (.branch 15 (.leaf (14, (.iconst 0, 15, 0), 0)) (.leaf (15, (.ireturn, 16, 0), 0)))))
set_option maxRecDepth 100000 in
/-- DeckBench.isNoNode(II)Z -/
def mt_155 : Lean.RArray mLf :=
  .branch 16 (.branch 8 (.branch 4 (.branch 1 (.leaf (0, (.iload_n 1, 1, 0), 0)) (.leaf (1, (.invokestatic 143, 4, 154), 664))) (.branch 7 (.leaf (4, (.ifCond .ne 20, 7, 24), 0)) (.leaf (7, (.iload_n 2, 8, 0), 0)))) (.branch 12 (.branch 11 (.leaf (8, (.ifCond .lt 16, 11, 24), 0)) (.leaf (11, (.iload_n 2, 12, 0), 0))) (.branch 13 (.leaf (12, (.aload_n 0, 13, 0), 0)) (.leaf (13, (.getfield 11, 16, 1100), 387))))) (.branch 24 (.branch 18 (.branch 17 (.leaf (16, (.iload_n 1, 17, 0), 0)) (.leaf (17, (.aaload, 18, 0), 0))) (.branch 21 (.leaf (18, (.getfield 150, 21, 600), 178)) (.leaf (21, (.if_icmp .lt 7, 24, 28), 0)))) (.branch 28 (.branch 25 (.leaf (24, (.iconst 1, 25, 0), 0)) (.leaf (25, (.goto 4, 28, 29), 0))) (.branch 29 (.leaf (28, (.iconst 0, 29, 0), 0)) (.leaf (29, (.ireturn, 30, 0), 0)))))
set_option maxRecDepth 100000 in
/-- DeckBench.isNoDeckNumber(I)Z -/
def mt_156 : Lean.RArray mLf :=
  .branch 6 (.branch 4 (.branch 1 (.leaf (0, (.iload_n 0, 1, 0), 0)) (.leaf (1, (.ifCond .lt 8, 4, 9), 0))) (.branch 5 (.leaf (4, (.iload_n 0, 5, 0), 0)) (.leaf (5, (.iconst 3, 6, 0), 0)))) (.branch 10 (.branch 9 (.leaf (6, (.if_icmp .lt 7, 9, 13), 0)) (.leaf (9, (.iconst 1, 10, 0), 0))) (.branch 13 (.leaf (10, (.goto 4, 13, 14), 0)) (.branch 14 (.leaf (13, (.iconst 0, 14, 0), 0)) (.leaf (14, (.ireturn, 15, 0), 0)))))
set_option maxRecDepth 100000 in
/-- DeckBench.isNoDeck(I)Z -/
def mt_157 : Lean.RArray mLf :=
  .branch 12 (.branch 7 (.branch 1 (.leaf (0, (.iload_n 1, 1, 0), 0)) (.branch 4 (.leaf (1, (.invokestatic 170, 4, 156), 722)) (.leaf (4, (.ifCond .ne 15, 7, 19), 0)))) (.branch 8 (.leaf (7, (.aload_n 0, 8, 0), 0)) (.branch 11 (.leaf (8, (.getfield 17, 11, 1101), 388)) (.leaf (11, (.iload_n 1, 12, 0), 0))))) (.branch 19 (.branch 13 (.leaf (12, (.aaload, 13, 0), 0)) (.branch 16 (.leaf (13, (.getfield 187, 16, 100), 299)) (.leaf (16, (.ifCond .ne 7, 19, 23), 0)))) (.branch 23 (.branch 20 (.leaf (19, (.iconst 1, 20, 0), 0)) (.leaf (20, (.goto 4, 23, 24), 0))) (.branch 24 (.leaf (23, (.iconst 0, 24, 0), 0)) (.leaf (24, (.ireturn, 25, 0), 0)))))
set_option maxRecDepth 100000 in
/-- DeckBench.isNoCard(II)Z -/
def mt_158 : Lean.RArray mLf :=
  .branch 16 (.branch 8 (.branch 4 (.branch 1 (.leaf (0, (.iload_n 1, 1, 0), 0)) (.leaf (1, (.invokestatic 170, 4, 156), 722))) (.branch 7 (.leaf (4, (.ifCond .ne 20, 7, 24), 0)) (.leaf (7, (.iload_n 2, 8, 0), 0)))) (.branch 12 (.branch 11 (.leaf (8, (.ifCond .lt 16, 11, 24), 0)) (.leaf (11, (.iload_n 2, 12, 0), 0))) (.branch 13 (.leaf (12, (.aload_n 0, 13, 0), 0)) (.leaf (13, (.getfield 17, 16, 1101), 388))))) (.branch 24 (.branch 18 (.branch 17 (.leaf (16, (.iload_n 1, 17, 0), 0)) (.leaf (17, (.aaload, 18, 0), 0))) (.branch 21 (.leaf (18, (.getfield 187, 21, 100), 299)) (.leaf (21, (.if_icmp .lt 7, 24, 28), 0)))) (.branch 28 (.branch 25 (.leaf (24, (.iconst 1, 25, 0), 0)) (.leaf (25, (.goto 4, 28, 29), 0))) (.branch 29 (.leaf (28, (.iconst 0, 29, 0), 0)) (.leaf (29, (.ireturn, 30, 0), 0)))))
set_option maxRecDepth 100000 in
/-- DeckBench.isNoClass(I)Z -/
def mt_159 : Lean.RArray mLf :=
  .branch 7 (.branch 4 (.branch 1 (.leaf (0, (.iload_n 0, 1, 0), 0)) (.leaf (1, (.ifCond .lt 9, 4, 10), 0))) (.branch 5 (.leaf (4, (.iload_n 0, 5, 0), 0)) (.leaf (5, (.bipush 6, 7, 0), 0)))) (.branch 11 (.branch 10 (.leaf (7, (.if_icmp .lt 7, 10, 14), 0)) (.leaf (10, (.iconst 1, 11, 0), 0))) (.branch 14 (.leaf (11, (.goto 4, 14, 15), 0)) (.branch 15 (.leaf (14, (.iconst 0, 15, 0), 0)) (.leaf (15, (.ireturn, 16, 0), 0)))))
set_option maxRecDepth 100000 in
/-- DeckBench.feedBytes(I)V -/
def mt_160 : Lean.RArray mLf :=
  .branch 26 (.branch 11 (.branch 4 (.branch 2 (.leaf (0, (.bipush 24, 2, 0), 0)) (.branch 3 (.leaf (2, (.istore_n 2, 3, 0), 0)) (.leaf (3, (.iload_n 2, 4, 0), 0)))) (.branch 7 (.leaf (4, (.ifCond .lt 42, 7, 46), 0)) (.branch 8 (.leaf (7, (.aload_n 0, 8, 0), 0)) (.leaf (8, (.getfield 25, 11, 1103), 390))))) (.branch 18 (.branch 14 (.leaf (11, (.sipush 600, 14, 0), 0)) (.branch 17 (.leaf (14, (.if_icmp .ge 32, 17, 46), 0)) (.leaf (17, (.aload_n 0, 18, 0), 0)))) (.branch 22 (.branch 21 (.leaf (18, (.getfield 21, 21, 1102), 389)) (.leaf (21, (.aload_n 0, 22, 0), 0))) (.branch 25 (.leaf (22, (.getfield 25, 25, 1103), 390)) (.leaf (25, (.iload_n 1, 26, 0), 0)))))) (.branch 32 (.branch 29 (.branch 27 (.leaf (26, (.iload_n 2, 27, 0), 0)) (.branch 28 (.leaf (27, (.iushr, 28, 0), 0)) (.leaf (28, (.i2b, 29, 0), 0)))) (.branch 30 (.leaf (29, (.bastore, 30, 0), 0)) (.branch 31 (.leaf (30, (.aload_n 0, 31, 0), 0)) (.leaf (31, (.dup, 32, 0), 0))))) (.branch 37 (.branch 35 (.leaf (32, (.getfield 25, 35, 1103), 390)) (.branch 36 (.leaf (35, (.iconst 1, 36, 0), 0)) (.leaf (36, (.iadd, 37, 0), 0)))) (.branch 43 (.branch 40 (.leaf (37, (.putfield 25, 40, 1103), 390)) (.leaf (40, (.iinc 2 (-8), 43, 0), 0))) (.branch 46 (.leaf (43, (.goto (-40), 46, 3), 0)) (.leaf (46, (.return_, 47, 0), 0))))))
set_option maxRecDepth 100000 in
def mt_161_0 : Lean.RArray mLf :=
  .branch 21 (.branch 6 (.branch 3 (.branch 1 (.leaf (0, (.iconst 0, 1, 0), 0)) (.branch 2 (.leaf (1, (.istore_n 2, 2, 0), 0)) (.leaf (2, (.iconst 1, 3, 0), 0)))) (.branch 4 (.leaf (3, (.istore_n 3, 4, 0), 0)) (.branch 5 (.leaf (4, (.iload_n 3, 5, 0), 0)) (.leaf (5, (.aload_n 1, 6, 0), 0))))) (.branch 13 (.branch 9 (.leaf (6, (.getfield 150, 9, 600), 178)) (.branch 12 (.leaf (9, (.if_icmp .ge 90, 12, 99), 0)) (.leaf (12, (.iconst 0, 13, 0), 0)))) (.branch 17 (.branch 15 (.leaf (13, (.istore 4, 15, 0), 0)) (.leaf (15, (.iload 4, 17, 0), 0))) (.branch 18 (.leaf (17, (.iload_n 3, 18, 0), 0)) (.leaf (18, (.if_icmp .ge 75, 21, 93), 0)))))) (.branch 32 (.branch 27 (.branch 22 (.leaf (21, (.aload_n 1, 22, 0), 0)) (.branch 24 (.leaf (22, (.iload 4, 24, 0), 0)) (.leaf (24, (.invokevirtual 229, 27, 62), 864)))) (.branch 28 (.leaf (27, (.aload_n 1, 28, 0), 0)) (.branch 29 (.leaf (28, (.iload_n 3, 29, 0), 0)) (.leaf (29, (.invokevirtual 229, 32, 62), 864))))) (.branch 39 (.branch 35 (.leaf (32, (.if_icmp .ne 29, 35, 61), 0)) (.branch 36 (.leaf (35, (.aload_n 0, 36, 0), 0)) (.leaf (36, (.getfield 68, 39, 1110), 397)))) (.branch 42 (.branch 40 (.leaf (39, (.aload_n 1, 40, 0), 0)) (.leaf (40, (.iload 4, 42, 0), 0))) (.branch 45 (.leaf (42, (.invokevirtual 239, 45, 3), 865)) (.leaf (45, (.aload_n 0, 46, 0), 0))))))
set_option maxRecDepth 100000 in
def mt_161_1 : Lean.RArray mLf :=
  .branch 73 (.branch 58 (.branch 51 (.branch 49 (.leaf (46, (.getfield 68, 49, 1110), 397)) (.branch 50 (.leaf (49, (.aload_n 1, 50, 0), 0)) (.leaf (50, (.iload_n 3, 51, 0), 0)))) (.branch 54 (.leaf (51, (.invokevirtual 239, 54, 3), 865)) (.branch 57 (.leaf (54, (.if_icmp .ne 7, 57, 61), 0)) (.leaf (57, (.iconst 1, 58, 0), 0))))) (.branch 64 (.branch 61 (.leaf (58, (.goto 4, 61, 62), 0)) (.branch 62 (.leaf (61, (.iconst 0, 62, 0), 0)) (.leaf (62, (.istore 5, 64, 0), 0)))) (.branch 69 (.branch 66 (.leaf (64, (.iload 5, 66, 0), 0)) (.leaf (66, (.ifCond .eq 21, 69, 87), 0))) (.branch 70 (.leaf (69, (.aload_n 0, 70, 0), 0)) (.leaf (70, (.getfield 52, 73, 1108), 395)))))) (.branch 84 (.branch 77 (.branch 74 (.leaf (73, (.aload_n 1, 74, 0), 0)) (.branch 75 (.leaf (74, (.iconst 0, 75, 0), 0)) (.leaf (75, (.iload 4, 77, 0), 0)))) (.branch 78 (.leaf (77, (.iload_n 3, 78, 0), 0)) (.branch 81 (.leaf (78, (.invokevirtual 335, 81, 97), 866)) (.leaf (81, (.ifCond .ne 6, 84, 87), 0))))) (.branch 93 (.branch 87 (.leaf (84, (.iinc 2 1, 87, 0), 0)) (.branch 90 (.leaf (87, (.iinc 4 1, 90, 0), 0)) (.leaf (90, (.goto (-75), 93, 15), 0)))) (.branch 99 (.branch 96 (.leaf (93, (.iinc 3 1, 96, 0), 0)) (.leaf (96, (.goto (-92), 99, 4), 0))) (.branch 100 (.leaf (99, (.iload_n 2, 100, 0), 0)) (.leaf (100, (.ireturn, 101, 0), 0))))))
/-- DeckBench.countTwins(LDeckBench$Net;)I -/
def mt_161 : Lean.RArray mLf :=
  .branch 46 (mt_161_0) (mt_161_1)
set_option maxRecDepth 100000 in
/-- DeckBench.countSlotsWithNodes()I -/
def mt_162 : Lean.RArray mLf :=
  .branch 14 (.branch 4 (.branch 2 (.branch 1 (.leaf (0, (.iconst 0, 1, 0), 0)) (.leaf (1, (.istore_n 1, 2, 0), 0))) (.branch 3 (.leaf (2, (.iconst 0, 3, 0), 0)) (.leaf (3, (.istore_n 2, 4, 0), 0)))) (.branch 7 (.branch 5 (.leaf (4, (.iload_n 2, 5, 0), 0)) (.leaf (5, (.bipush 6, 7, 0), 0))) (.branch 10 (.leaf (7, (.if_icmp .ge 24, 10, 31), 0)) (.branch 11 (.leaf (10, (.aload_n 0, 11, 0), 0)) (.leaf (11, (.getfield 11, 14, 1100), 387)))))) (.branch 22 (.branch 16 (.branch 15 (.leaf (14, (.iload_n 2, 15, 0), 0)) (.leaf (15, (.aaload, 16, 0), 0))) (.branch 19 (.leaf (16, (.getfield 150, 19, 600), 178)) (.leaf (19, (.ifCond .le 6, 22, 25), 0)))) (.branch 28 (.branch 25 (.leaf (22, (.iinc 1 1, 25, 0), 0)) (.leaf (25, (.iinc 2 1, 28, 0), 0))) (.branch 31 (.leaf (28, (.goto (-24), 31, 4), 0)) (.branch 32 (.leaf (31, (.iload_n 1, 32, 0), 0)) (.leaf (32, (.ireturn, 33, 0), 0))))))
set_option maxRecDepth 100000 in
/-- DeckBench.countDecks()I -/
def mt_163 : Lean.RArray mLf :=
  .branch 13 (.branch 4 (.branch 2 (.branch 1 (.leaf (0, (.iconst 0, 1, 0), 0)) (.leaf (1, (.istore_n 1, 2, 0), 0))) (.branch 3 (.leaf (2, (.iconst 0, 3, 0), 0)) (.leaf (3, (.istore_n 2, 4, 0), 0)))) (.branch 6 (.branch 5 (.leaf (4, (.iload_n 2, 5, 0), 0)) (.leaf (5, (.iconst 3, 6, 0), 0))) (.branch 9 (.leaf (6, (.if_icmp .ge 24, 9, 30), 0)) (.branch 10 (.leaf (9, (.aload_n 0, 10, 0), 0)) (.leaf (10, (.getfield 17, 13, 1101), 388)))))) (.branch 21 (.branch 15 (.branch 14 (.leaf (13, (.iload_n 2, 14, 0), 0)) (.leaf (14, (.aaload, 15, 0), 0))) (.branch 18 (.leaf (15, (.getfield 187, 18, 100), 299)) (.leaf (18, (.ifCond .le 6, 21, 24), 0)))) (.branch 27 (.branch 24 (.leaf (21, (.iinc 1 1, 24, 0), 0)) (.leaf (24, (.iinc 2 1, 27, 0), 0))) (.branch 30 (.leaf (27, (.goto (-23), 30, 4), 0)) (.branch 31 (.leaf (30, (.iload_n 1, 31, 0), 0)) (.leaf (31, (.ireturn, 32, 0), 0))))))
set_option maxRecDepth 100000 in
def mt_164_0 : Lean.RArray mLf :=
  .branch 29 (.branch 13 (.branch 5 (.branch 1 (.leaf (0, (.aload_n 0, 1, 0), 0)) (.branch 4 (.leaf (1, (.invokespecial 1, 4, 900), 1169)) (.leaf (4, (.aload_n 0, 5, 0), 0)))) (.branch 9 (.branch 7 (.leaf (5, (.bipush 36, 7, 0), 0)) (.leaf (7, (.newarray .int, 9, 0), 0))) (.branch 12 (.leaf (9, (.putfield 7, 12, 1200), 1170)) (.leaf (12, (.aload_n 0, 13, 0), 0))))) (.branch 20 (.branch 15 (.leaf (13, (.bipush 36, 15, 0), 0)) (.branch 17 (.leaf (15, (.newarray .int, 17, 0), 0)) (.leaf (17, (.putfield 13, 20, 1201), 1171)))) (.branch 24 (.branch 21 (.leaf (20, (.aload_n 0, 21, 0), 0)) (.leaf (21, (.sipush 360, 24, 0), 0))) (.branch 26 (.leaf (24, (.newarray .int, 26, 0), 0)) (.leaf (26, (.putfield 16, 29, 1202), 1172)))))) (.branch 42 (.branch 34 (.branch 30 (.leaf (29, (.aload_n 0, 30, 0), 0)) (.branch 32 (.leaf (30, (.bipush 7, 32, 0), 0)) (.leaf (32, (.newarray .int, 34, 0), 0)))) (.branch 38 (.branch 37 (.leaf (34, (.putfield 19, 37, 1205), 1175)) (.leaf (37, (.aload_n 0, 38, 0), 0))) (.branch 40 (.leaf (38, (.bipush 7, 40, 0), 0)) (.leaf (40, (.newarray .int, 42, 0), 0))))) (.branch 49 (.branch 45 (.leaf (42, (.putfield 22, 45, 1208), 1178)) (.branch 46 (.leaf (45, (.aload_n 0, 46, 0), 0)) (.leaf (46, (.sipush 600, 49, 0), 0)))) (.branch 54 (.branch 51 (.leaf (49, (.newarray .byte, 51, 1), 0)) (.leaf (51, (.putfield 25, 54, 1209), 1179))) (.branch 55 (.leaf (54, (.aload_n 0, 55, 0), 0)) (.leaf (55, (.iconst (-1), 56, 0), 0))))))
set_option maxRecDepth 100000 in
def mt_164_1 : Lean.RArray mLf :=
  .branch 84 (.branch 70 (.branch 62 (.branch 59 (.leaf (56, (.putfield 29, 59, 1214), 1184)) (.branch 60 (.leaf (59, (.aload_n 0, 60, 0), 0)) (.leaf (60, (.bipush 7, 62, 0), 0)))) (.branch 67 (.branch 64 (.leaf (62, (.newarray .int, 64, 0), 0)) (.leaf (64, (.putfield 33, 67, 1216), 1186))) (.branch 68 (.leaf (67, (.aload_n 0, 68, 0), 0)) (.leaf (68, (.bipush 7, 70, 0), 0))))) (.branch 76 (.branch 72 (.leaf (70, (.newarray .int, 72, 0), 0)) (.branch 75 (.leaf (72, (.putfield 36, 75, 1217), 1187)) (.leaf (75, (.aload_n 0, 76, 0), 0)))) (.branch 80 (.branch 78 (.leaf (76, (.bipush 7, 78, 0), 0)) (.leaf (78, (.newarray .int, 80, 0), 0))) (.branch 83 (.leaf (80, (.putfield 39, 83, 1218), 1188)) (.leaf (83, (.aload_n 0, 84, 0), 0)))))) (.branch 100 (.branch 91 (.branch 86 (.leaf (84, (.bipush 34, 86, 0), 0)) (.branch 88 (.leaf (86, (.newarray .int, 88, 0), 0)) (.leaf (88, (.putfield 42, 91, 1219), 1189)))) (.branch 95 (.branch 92 (.leaf (91, (.aload_n 0, 92, 0), 0)) (.leaf (92, (.sipush 170, 95, 0), 0))) (.branch 97 (.leaf (95, (.newarray .int, 97, 0), 0)) (.leaf (97, (.putfield 45, 100, 1220), 1190))))) (.branch 105 (.branch 101 (.leaf (100, (.aload_n 0, 101, 0), 0)) (.branch 103 (.leaf (101, (.bipush 21, 103, 0), 0)) (.leaf (103, (.newarray .int, 105, 0), 0)))) (.branch 109 (.branch 108 (.leaf (105, (.putfield 48, 108, 1221), 1191)) (.leaf (108, (.aload_n 0, 109, 0), 0))) (.branch 111 (.leaf (109, (.bipush 21, 111, 0), 0)) (.leaf (111, (.newarray .int, 113, 0), 0))))))
set_option maxRecDepth 100000 in
def mt_164_2 : Lean.RArray mLf :=
  .branch 140 (.branch 126 (.branch 118 (.branch 116 (.leaf (113, (.putfield 51, 116, 1222), 1192)) (.branch 117 (.leaf (116, (.aload_n 0, 117, 0), 0)) (.leaf (117, (.iconst (-1), 118, 0), 0)))) (.branch 122 (.branch 121 (.leaf (118, (.putfield 54, 121, 1224), 1194)) (.leaf (121, (.aload_n 0, 122, 0), 0))) (.branch 124 (.leaf (122, (.bipush 7, 124, 0), 0)) (.leaf (124, (.newarray .int, 126, 0), 0))))) (.branch 132 (.branch 129 (.leaf (126, (.putfield 57, 129, 1225), 1195)) (.branch 130 (.leaf (129, (.aload_n 0, 130, 0), 0)) (.leaf (130, (.bipush 8, 132, 0), 0)))) (.branch 137 (.branch 134 (.leaf (132, (.newarray .long, 134, 2), 0)) (.leaf (134, (.putfield 60, 137, 1226), 1196))) (.branch 138 (.leaf (137, (.aload_n 0, 138, 0), 0)) (.leaf (138, (.bipush 49, 140, 0), 0)))))) (.branch 154 (.branch 146 (.branch 142 (.leaf (140, (.newarray .long, 142, 2), 0)) (.branch 145 (.leaf (142, (.putfield 64, 145, 1227), 1197)) (.leaf (145, (.aload_n 0, 146, 0), 0)))) (.branch 150 (.branch 148 (.leaf (146, (.bipush 49, 148, 0), 0)) (.leaf (148, (.newarray .long, 150, 2), 0))) (.branch 153 (.leaf (150, (.putfield 67, 153, 1228), 1198)) (.leaf (153, (.aload_n 0, 154, 0), 0))))) (.branch 162 (.branch 158 (.branch 156 (.leaf (154, (.bipush 64, 156, 0), 0)) (.leaf (156, (.newarray .int, 158, 0), 0))) (.branch 161 (.leaf (158, (.putfield 70, 161, 1229), 1199)) (.leaf (161, (.aload_n 0, 162, 0), 0)))) (.branch 166 (.branch 164 (.leaf (162, (.bipush 7, 164, 0), 0)) (.leaf (164, (.newarray .int, 166, 0), 0))) (.branch 169 (.leaf (166, (.putfield 73, 169, 1230), 1200)) (.leaf (169, (.return_, 170, 0), 0))))))
/-- DeckBenchModel.<init>()V -/
def mt_164 : Lean.RArray mLf :=
  .branch 56 (mt_164_0) (.branch 113 (mt_164_1) (mt_164_2))
set_option maxRecDepth 100000 in
/-- DeckBenchModel.isIn(JJJ)Z -/
def mt_165 : Lean.RArray mLf :=
  .branch 9 (.branch 3 (.branch 1 (.leaf (0, (.lload_n 0, 1, 0), 0)) (.branch 2 (.leaf (1, (.lload_n 2, 2, 0), 0)) (.leaf (2, (.lcmp, 3, 0), 0)))) (.branch 6 (.leaf (3, (.ifCond .lt 14, 6, 17), 0)) (.branch 7 (.leaf (6, (.lload_n 0, 7, 0), 0)) (.leaf (7, (.lload 4, 9, 0), 0))))) (.branch 14 (.branch 10 (.leaf (9, (.lcmp, 10, 0), 0)) (.branch 13 (.leaf (10, (.ifCond .gt 7, 13, 17), 0)) (.leaf (13, (.iconst 1, 14, 0), 0)))) (.branch 17 (.leaf (14, (.goto 4, 17, 18), 0)) (.branch 18 (.leaf (17, (.iconst 0, 18, 0), 0)) (.leaf (18, (.ireturn, 19, 0), 0)))))
set_option maxRecDepth 100000 in
/-- DeckBenchModel.bit(II)I -/
def mt_166 : Lean.RArray mLf :=
  .branch 13 (.branch 7 (.branch 2 (.branch 1 (.leaf (0, (.iload_n 0, 1, 0), 0)) (.leaf (1, (.iload_n 1, 2, 0), 0))) (.branch 5 (.leaf (2, (.if_icmp .ge 15, 5, 17), 0)) (.branch 6 (.leaf (5, (.iload_n 1, 6, 0), 0)) (.leaf (6, (.iload_n 1, 7, 0), 0))))) (.branch 10 (.branch 8 (.leaf (7, (.iconst 1, 8, 0), 0)) (.branch 9 (.leaf (8, (.isub, 9, 0), 0)) (.leaf (9, (.imul, 10, 0), 0)))) (.branch 11 (.leaf (10, (.iconst 2, 11, 0), 0)) (.branch 12 (.leaf (11, (.idiv, 12, 0), 0)) (.leaf (12, (.iload_n 0, 13, 0), 0)))))) (.branch 21 (.branch 18 (.branch 14 (.leaf (13, (.iadd, 14, 0), 0)) (.branch 17 (.leaf (14, (.goto 12, 17, 26), 0)) (.leaf (17, (.iload_n 0, 18, 0), 0)))) (.branch 19 (.leaf (18, (.iload_n 0, 19, 0), 0)) (.branch 20 (.leaf (19, (.iconst 1, 20, 0), 0)) (.leaf (20, (.isub, 21, 0), 0))))) (.branch 24 (.branch 22 (.leaf (21, (.imul, 22, 0), 0)) (.branch 23 (.leaf (22, (.iconst 2, 23, 0), 0)) (.leaf (23, (.idiv, 24, 0), 0)))) (.branch 25 (.leaf (24, (.iload_n 1, 25, 0), 0)) (.branch 26 (.leaf (25, (.iadd, 26, 0), 0)) (.leaf (26, (.ireturn, 27, 0), 0))))))
set_option maxRecDepth 100000 in
/-- DeckBenchModel.areJoined(III)Z -/
def mt_167 : Lean.RArray mLf :=
  .branch 12 (.branch 6 (.branch 2 (.branch 1 (.leaf (0, (.iload_n 1, 1, 0), 0)) (.leaf (1, (.iload_n 2, 2, 0), 0))) (.branch 5 (.leaf (2, (.if_icmp .eq 20, 5, 22), 0)) (.leaf (5, (.iload_n 0, 6, 0), 0)))) (.branch 8 (.branch 7 (.leaf (6, (.iload_n 1, 7, 0), 0)) (.leaf (7, (.iload_n 2, 8, 0), 0))) (.branch 11 (.leaf (8, (.invokestatic 79, 11, 166), 1319)) (.leaf (11, (.ishr, 12, 0), 0))))) (.branch 18 (.branch 14 (.branch 13 (.leaf (12, (.iconst 1, 13, 0), 0)) (.leaf (13, (.iand, 14, 0), 0))) (.branch 15 (.leaf (14, (.iconst 1, 15, 0), 0)) (.leaf (15, (.if_icmp .ne 7, 18, 22), 0)))) (.branch 22 (.branch 19 (.leaf (18, (.iconst 1, 19, 0), 0)) (.leaf (19, (.goto 4, 22, 23), 0))) (.branch 23 (.leaf (22, (.iconst 0, 23, 0), 0)) (.leaf (23, (.ireturn, 24, 0), 0)))))
set_option maxRecDepth 100000 in
/-- DeckBenchModel.lines(I)I -/
def mt_168 : Lean.RArray mLf :=
  .branch 1 (.leaf (0, (.iload_n 0, 1, 0), 0)) (.branch 4 (.leaf (1, (.invokestatic 83, 4, 255), 1381)) (.leaf (4, (.ireturn, 5, 0), 0)))
set_option maxRecDepth 100000 in
/-- DeckBenchModel.whole(I)I -/
def mt_169 : Lean.RArray mLf :=
  .branch 6 (.branch 3 (.branch 1 (.leaf (0, (.iconst 1, 1, 0), 0)) (.branch 2 (.leaf (1, (.iload_n 0, 2, 0), 0)) (.leaf (2, (.iload_n 0, 3, 0), 0)))) (.branch 4 (.leaf (3, (.iconst 1, 4, 0), 0)) (.branch 5 (.leaf (4, (.isub, 5, 0), 0)) (.leaf (5, (.imul, 6, 0), 0))))) (.branch 9 (.branch 7 (.leaf (6, (.iconst 2, 7, 0), 0)) (.branch 8 (.leaf (7, (.idiv, 8, 0), 0)) (.leaf (8, (.ishl, 9, 0), 0)))) (.branch 10 (.leaf (9, (.iconst 1, 10, 0), 0)) (.branch 11 (.leaf (10, (.isub, 11, 0), 0)) (.leaf (11, (.ireturn, 12, 0), 0)))))
set_option maxRecDepth 100000 in
def mt_170_0 : Lean.RArray mLf :=
  .branch 35 (.branch 17 (.branch 6 (.branch 2 (.branch 1 (.leaf (0, (.iload_n 3, 1, 0), 0)) (.leaf (1, (.iload_n 1, 2, 0), 0))) (.branch 5 (.leaf (2, (.if_icmp .ne 99, 5, 101), 0)) (.leaf (5, (.aload_n 0, 6, 0), 0)))) (.branch 9 (.branch 8 (.leaf (6, (.iload 5, 8, 0), 0)) (.leaf (8, (.aload_n 0, 9, 0), 0))) (.branch 12 (.leaf (9, (.getfield 89, 12, 1206), 1176)) (.branch 15 (.leaf (12, (.if_icmp .ge 8, 15, 20), 0)) (.leaf (15, (.iload 5, 17, 0), 0)))))) (.branch 27 (.branch 21 (.branch 20 (.leaf (17, (.goto 7, 20, 24), 0)) (.leaf (20, (.aload_n 0, 21, 0), 0))) (.branch 24 (.leaf (21, (.getfield 89, 24, 1206), 1176)) (.leaf (24, (.putfield 89, 27, 1206), 1176)))) (.branch 30 (.branch 29 (.leaf (27, (.iload 5, 29, 0), 0)) (.leaf (29, (.iload_n 2, 30, 0), 0))) (.branch 33 (.leaf (30, (.if_icmp .eq 4, 33, 34), 0)) (.branch 34 (.leaf (33, (.return_, 34, 0), 0)) (.leaf (34, (.aload_n 0, 35, 0), 0))))))) (.branch 50 (.branch 41 (.branch 39 (.branch 36 (.leaf (35, (.dup, 36, 0), 0)) (.leaf (36, (.getfield 92, 39, 1207), 1177))) (.branch 40 (.leaf (39, (.iconst 1, 40, 0), 0)) (.leaf (40, (.iadd, 41, 0), 0)))) (.branch 45 (.branch 44 (.leaf (41, (.putfield 92, 44, 1207), 1177)) (.leaf (44, (.iconst 0, 45, 0), 0))) (.branch 47 (.leaf (45, (.istore 6, 47, 0), 0)) (.branch 49 (.leaf (47, (.iload 6, 49, 0), 0)) (.leaf (49, (.iload_n 1, 50, 0), 0)))))) (.branch 60 (.branch 54 (.branch 53 (.leaf (50, (.if_icmp .ge 50, 53, 100), 0)) (.leaf (53, (.aload_n 0, 54, 0), 0))) (.branch 57 (.leaf (54, (.getfield 22, 57, 1208), 1178)) (.branch 59 (.leaf (57, (.iload 6, 59, 0), 0)) (.leaf (59, (.aload_n 0, 60, 0), 0))))) (.branch 65 (.branch 63 (.leaf (60, (.getfield 19, 63, 1205), 1175)) (.leaf (63, (.iload 6, 65, 0), 0))) (.branch 66 (.leaf (65, (.iaload, 66, 0), 0)) (.branch 67 (.leaf (66, (.aload_n 0, 67, 0), 0)) (.leaf (67, (.getfield 22, 70, 1208), 1178)))))))
set_option maxRecDepth 100000 in
def mt_170_1 : Lean.RArray mLf :=
  .branch 104 (.branch 87 (.branch 77 (.branch 73 (.branch 72 (.leaf (70, (.iload 6, 72, 0), 0)) (.leaf (72, (.iaload, 73, 0), 0))) (.branch 76 (.leaf (73, (.if_icmp .ge 13, 76, 86), 0)) (.leaf (76, (.aload_n 0, 77, 0), 0)))) (.branch 82 (.branch 80 (.leaf (77, (.getfield 19, 80, 1205), 1175)) (.leaf (80, (.iload 6, 82, 0), 0))) (.branch 83 (.leaf (82, (.iaload, 83, 0), 0)) (.branch 86 (.leaf (83, (.goto 10, 86, 93), 0)) (.leaf (86, (.aload_n 0, 87, 0), 0)))))) (.branch 94 (.branch 92 (.branch 90 (.leaf (87, (.getfield 22, 90, 1208), 1178)) (.leaf (90, (.iload 6, 92, 0), 0))) (.branch 93 (.leaf (92, (.iaload, 93, 0), 0)) (.leaf (93, (.iastore, 94, 0), 0)))) (.branch 100 (.branch 97 (.leaf (94, (.iinc 6 1, 97, 0), 0)) (.leaf (97, (.goto (-50), 100, 47), 0))) (.branch 101 (.leaf (100, (.return_, 101, 0), 0)) (.branch 102 (.leaf (101, (.iconst 0, 102, 0), 0)) (.leaf (102, (.istore 6, 104, 0), 0))))))) (.branch 118 (.branch 112 (.branch 107 (.branch 106 (.leaf (104, (.iload 6, 106, 0), 0)) (.leaf (106, (.iload_n 1, 107, 0), 0))) (.branch 110 (.leaf (107, (.if_icmp .ge 97, 110, 204), 0)) (.leaf (110, (.iload 4, 112, 0), 0)))) (.branch 115 (.branch 114 (.leaf (112, (.iload 6, 114, 0), 0)) (.leaf (114, (.ishr, 115, 0), 0))) (.branch 116 (.leaf (115, (.iconst 1, 116, 0), 0)) (.branch 117 (.leaf (116, (.iand, 117, 0), 0)) (.leaf (117, (.iconst 1, 118, 0), 0)))))) (.branch 129 (.branch 124 (.branch 121 (.leaf (118, (.if_icmp .ne 6, 121, 124), 0)) (.leaf (121, (.goto 77, 124, 198), 0))) (.branch 125 (.leaf (124, (.aload_n 0, 125, 0), 0)) (.branch 128 (.leaf (125, (.getfield 19, 128, 1205), 1175)) (.leaf (128, (.iload_n 3, 129, 0), 0))))) (.branch 132 (.branch 131 (.leaf (129, (.iload 6, 131, 0), 0)) (.leaf (131, (.iastore, 132, 0), 0))) (.branch 134 (.leaf (132, (.iload 5, 134, 0), 0)) (.branch 136 (.leaf (134, (.istore 7, 136, 0), 0)) (.leaf (136, (.iconst 0, 137, 0), 0)))))))
set_option maxRecDepth 100000 in
def mt_170_2 : Lean.RArray mLf :=
  .branch 172 (.branch 155 (.branch 145 (.branch 141 (.branch 139 (.leaf (137, (.istore 8, 139, 0), 0)) (.leaf (139, (.iload 8, 141, 0), 0))) (.branch 142 (.leaf (141, (.iload_n 3, 142, 0), 0)) (.leaf (142, (.if_icmp .ge 38, 145, 180), 0)))) (.branch 148 (.branch 146 (.leaf (145, (.iload_n 2, 146, 0), 0)) (.leaf (146, (.iload 8, 148, 0), 0))) (.branch 149 (.leaf (148, (.iload_n 3, 149, 0), 0)) (.branch 152 (.leaf (149, (.invokestatic 95, 152, 167), 1316)) (.leaf (152, (.ifCond .eq 22, 155, 174), 0)))))) (.branch 164 (.branch 158 (.branch 157 (.leaf (155, (.iload 7, 157, 0), 0)) (.leaf (157, (.iconst 1, 158, 0), 0))) (.branch 159 (.leaf (158, (.aload_n 0, 159, 0), 0)) (.branch 162 (.leaf (159, (.getfield 19, 162, 1205), 1175)) (.leaf (162, (.iload 8, 164, 0), 0))))) (.branch 167 (.branch 165 (.leaf (164, (.iaload, 165, 0), 0)) (.leaf (165, (.iload 6, 167, 0), 0))) (.branch 170 (.leaf (167, (.invokestatic 79, 170, 166), 1319)) (.branch 171 (.leaf (170, (.ishl, 171, 0), 0)) (.leaf (171, (.ior, 172, 0), 0))))))) (.branch 186 (.branch 181 (.branch 177 (.branch 174 (.leaf (172, (.istore 7, 174, 0), 0)) (.leaf (174, (.iinc 8 1, 177, 0), 0))) (.branch 180 (.leaf (177, (.goto (-38), 180, 139), 0)) (.leaf (180, (.aload_n 0, 181, 0), 0)))) (.branch 183 (.branch 182 (.leaf (181, (.iload_n 1, 182, 0), 0)) (.leaf (182, (.iload_n 2, 183, 0), 0))) (.branch 184 (.leaf (183, (.iload_n 3, 184, 0), 0)) (.branch 185 (.leaf (184, (.iconst 1, 185, 0), 0)) (.leaf (185, (.iadd, 186, 0), 0)))))) (.branch 193 (.branch 189 (.branch 188 (.leaf (186, (.iload 4, 188, 0), 0)) (.leaf (188, (.iconst 1, 189, 0), 0))) (.branch 191 (.leaf (189, (.iload 6, 191, 0), 0)) (.branch 192 (.leaf (191, (.ishl, 192, 0), 0)) (.leaf (192, (.ior, 193, 0), 0))))) (.branch 198 (.branch 195 (.leaf (193, (.iload 7, 195, 0), 0)) (.leaf (195, (.invokevirtual 99, 198, 170), 1339))) (.branch 201 (.leaf (198, (.iinc 6 1, 201, 0), 0)) (.branch 204 (.leaf (201, (.goto (-97), 204, 104), 0)) (.leaf (204, (.return_, 205, 0), 0)))))))
/-- DeckBenchModel.goes(IIIII)V -/
def mt_170 : Lean.RArray mLf :=
  .branch 70 (mt_170_0) (.branch 137 (mt_170_1) (mt_170_2))
set_option maxRecDepth 100000 in
/-- DeckBenchModel.numbers(II)V -/
def mt_171 : Lean.RArray mLf :=
  .branch 23 (.branch 11 (.branch 6 (.branch 1 (.leaf (0, (.aload_n 0, 1, 0), 0)) (.branch 3 (.leaf (1, (.ldc 103, 3, 2147483647), 1338)) (.leaf (3, (.putfield 89, 6, 1206), 1176)))) (.branch 7 (.leaf (6, (.aload_n 0, 7, 0), 0)) (.branch 8 (.leaf (7, (.iconst 0, 8, 0), 0)) (.leaf (8, (.putfield 92, 11, 1207), 1177))))) (.branch 14 (.branch 12 (.leaf (11, (.iconst 0, 12, 0), 0)) (.branch 13 (.leaf (12, (.istore_n 3, 13, 0), 0)) (.leaf (13, (.iload_n 3, 14, 0), 0)))) (.branch 19 (.branch 16 (.leaf (14, (.bipush 7, 16, 0), 0)) (.leaf (16, (.if_icmp .ge 16, 19, 32), 0))) (.branch 20 (.leaf (19, (.aload_n 0, 20, 0), 0)) (.leaf (20, (.getfield 22, 23, 1208), 1178)))))) (.branch 33 (.branch 26 (.branch 24 (.leaf (23, (.iload_n 3, 24, 0), 0)) (.branch 25 (.leaf (24, (.iload_n 3, 25, 0), 0)) (.leaf (25, (.iastore, 26, 0), 0)))) (.branch 29 (.leaf (26, (.iinc 3 1, 29, 0), 0)) (.branch 32 (.leaf (29, (.goto (-16), 32, 13), 0)) (.leaf (32, (.aload_n 0, 33, 0), 0))))) (.branch 36 (.branch 34 (.leaf (33, (.iload_n 1, 34, 0), 0)) (.branch 35 (.leaf (34, (.iload_n 2, 35, 0), 0)) (.leaf (35, (.iconst 0, 36, 0), 0)))) (.branch 38 (.branch 37 (.leaf (36, (.iconst 0, 37, 0), 0)) (.leaf (37, (.iconst 0, 38, 0), 0))) (.branch 41 (.leaf (38, (.invokevirtual 99, 41, 170), 1339)) (.leaf (41, (.return_, 42, 0), 0))))))
set_option maxRecDepth 100000 in
/-- DeckBenchModel.form(II)I -/
def mt_172 : Lean.RArray mLf :=
  .branch 3 (.branch 1 (.leaf (0, (.aload_n 0, 1, 0), 0)) (.branch 2 (.leaf (1, (.iload_n 1, 2, 0), 0)) (.leaf (2, (.iload_n 2, 3, 0), 0)))) (.branch 7 (.branch 6 (.leaf (3, (.invokevirtual 104, 6, 171), 1334)) (.leaf (6, (.aload_n 0, 7, 0), 0))) (.branch 10 (.leaf (7, (.getfield 89, 10, 1206), 1176)) (.leaf (10, (.ireturn, 11, 0), 0))))
set_option maxRecDepth 100000 in
def mt_173_0 : Lean.RArray mLf :=
  .branch 18 (.branch 8 (.branch 3 (.branch 1 (.leaf (0, (.iconst 0, 1, 0), 0)) (.branch 2 (.leaf (1, (.istore_n 3, 2, 0), 0)) (.leaf (2, (.iconst 0, 3, 0), 0)))) (.branch 5 (.leaf (3, (.istore 4, 5, 0), 0)) (.branch 6 (.leaf (5, (.iconst 0, 6, 0), 0)) (.leaf (6, (.istore 5, 8, 0), 0))))) (.branch 14 (.branch 10 (.leaf (8, (.iload 5, 10, 0), 0)) (.branch 11 (.leaf (10, (.iload_n 0, 11, 0), 0)) (.leaf (11, (.if_icmp .ge 81, 14, 92), 0)))) (.branch 15 (.leaf (14, (.iload_n 2, 15, 0), 0)) (.branch 17 (.leaf (15, (.iload 5, 17, 0), 0)) (.leaf (17, (.ishr, 18, 0), 0)))))) (.branch 29 (.branch 23 (.branch 19 (.leaf (18, (.iconst 1, 19, 0), 0)) (.branch 20 (.leaf (19, (.iand, 20, 0), 0)) (.leaf (20, (.ifCond .ne 6, 23, 26), 0)))) (.branch 26 (.leaf (23, (.goto 63, 26, 86), 0)) (.branch 27 (.leaf (26, (.iconst 0, 27, 0), 0)) (.leaf (27, (.istore 6, 29, 0), 0))))) (.branch 34 (.branch 30 (.leaf (29, (.iconst 0, 30, 0), 0)) (.branch 32 (.leaf (30, (.istore 7, 32, 0), 0)) (.leaf (32, (.iload 7, 34, 0), 0)))) (.branch 39 (.branch 36 (.leaf (34, (.iload 5, 36, 0), 0)) (.leaf (36, (.if_icmp .ge 47, 39, 83), 0))) (.branch 40 (.leaf (39, (.iload_n 2, 40, 0), 0)) (.leaf (40, (.iload 7, 42, 0), 0))))))
set_option maxRecDepth 100000 in
def mt_173_1 : Lean.RArray mLf :=
  .branch 66 (.branch 52 (.branch 45 (.branch 43 (.leaf (42, (.ishr, 43, 0), 0)) (.branch 44 (.leaf (43, (.iconst 1, 44, 0), 0)) (.leaf (44, (.iand, 45, 0), 0)))) (.branch 48 (.leaf (45, (.ifCond .ne 6, 48, 51), 0)) (.branch 51 (.leaf (48, (.goto 29, 51, 77), 0)) (.leaf (51, (.iload_n 1, 52, 0), 0))))) (.branch 59 (.branch 54 (.leaf (52, (.iload 7, 54, 0), 0)) (.branch 56 (.leaf (54, (.iload 5, 56, 0), 0)) (.leaf (56, (.invokestatic 95, 59, 167), 1316)))) (.branch 63 (.branch 62 (.leaf (59, (.ifCond .eq 15, 62, 74), 0)) (.leaf (62, (.iload_n 3, 63, 0), 0))) (.branch 64 (.leaf (63, (.iconst 1, 64, 0), 0)) (.leaf (64, (.iload 6, 66, 0), 0)))))) (.branch 77 (.branch 72 (.branch 68 (.leaf (66, (.iload 4, 68, 0), 0)) (.branch 71 (.leaf (68, (.invokestatic 79, 71, 166), 1319)) (.leaf (71, (.ishl, 72, 0), 0)))) (.branch 73 (.leaf (72, (.ior, 73, 0), 0)) (.branch 74 (.leaf (73, (.istore_n 3, 74, 0), 0)) (.leaf (74, (.iinc 6 1, 77, 0), 0))))) (.branch 86 (.branch 80 (.leaf (77, (.iinc 7 1, 80, 0), 0)) (.branch 83 (.leaf (80, (.goto (-48), 83, 32), 0)) (.leaf (83, (.iinc 4 1, 86, 0), 0)))) (.branch 92 (.branch 89 (.leaf (86, (.iinc 5 1, 89, 0), 0)) (.leaf (89, (.goto (-81), 92, 8), 0))) (.branch 93 (.leaf (92, (.iload_n 3, 93, 0), 0)) (.leaf (93, (.ireturn, 94, 0), 0))))))
/-- DeckBenchModel.within(III)I -/
def mt_173 : Lean.RArray mLf :=
  .branch 42 (mt_173_0) (mt_173_1)
set_option maxRecDepth 100000 in
/-- DeckBenchModel.without(III)I -/
def mt_174 : Lean.RArray mLf :=
  .branch 7 (.branch 3 (.branch 1 (.leaf (0, (.iload_n 0, 1, 0), 0)) (.branch 2 (.leaf (1, (.iload_n 1, 2, 0), 0)) (.leaf (2, (.iconst 1, 3, 0), 0)))) (.branch 5 (.branch 4 (.leaf (3, (.iload_n 0, 4, 0), 0)) (.leaf (4, (.ishl, 5, 0), 0))) (.branch 6 (.leaf (5, (.iconst 1, 6, 0), 0)) (.leaf (6, (.isub, 7, 0), 0))))) (.branch 11 (.branch 9 (.branch 8 (.leaf (7, (.iconst 1, 8, 0), 0)) (.leaf (8, (.iload_n 2, 9, 0), 0))) (.branch 10 (.leaf (9, (.ishl, 10, 0), 0)) (.leaf (10, (.iconst (-1), 11, 0), 0)))) (.branch 13 (.branch 12 (.leaf (11, (.ixor, 12, 0), 0)) (.leaf (12, (.iand, 13, 0), 0))) (.branch 16 (.leaf (13, (.invokestatic 108, 16, 173), 1393)) (.leaf (16, (.ireturn, 17, 0), 0)))))
set_option maxRecDepth 100000 in
/-- DeckBenchModel.near(III)I -/
def mt_175 : Lean.RArray mLf :=
  .branch 19 (.branch 8 (.branch 3 (.branch 1 (.leaf (0, (.iconst 0, 1, 0), 0)) (.branch 2 (.leaf (1, (.istore_n 3, 2, 0), 0)) (.leaf (2, (.iconst 0, 3, 0), 0)))) (.branch 5 (.leaf (3, (.istore 4, 5, 0), 0)) (.branch 7 (.leaf (5, (.iload 4, 7, 0), 0)) (.leaf (7, (.iload_n 0, 8, 0), 0))))) (.branch 13 (.branch 11 (.leaf (8, (.if_icmp .ge 30, 11, 38), 0)) (.branch 12 (.leaf (11, (.iload_n 3, 12, 0), 0)) (.leaf (12, (.iload_n 1, 13, 0), 0)))) (.branch 15 (.leaf (13, (.iload 4, 15, 0), 0)) (.branch 16 (.leaf (15, (.iload_n 2, 16, 0), 0)) (.leaf (16, (.invokestatic 95, 19, 167), 1316)))))) (.branch 30 (.branch 25 (.branch 22 (.leaf (19, (.ifCond .eq 10, 22, 29), 0)) (.branch 23 (.leaf (22, (.iconst 1, 23, 0), 0)) (.leaf (23, (.iload 4, 25, 0), 0)))) (.branch 26 (.leaf (25, (.ishl, 26, 0), 0)) (.branch 29 (.leaf (26, (.goto 4, 29, 30), 0)) (.leaf (29, (.iconst 0, 30, 0), 0))))) (.branch 35 (.branch 31 (.leaf (30, (.ior, 31, 0), 0)) (.branch 32 (.leaf (31, (.istore_n 3, 32, 0), 0)) (.leaf (32, (.iinc 4 1, 35, 0), 0)))) (.branch 38 (.leaf (35, (.goto (-30), 38, 5), 0)) (.branch 39 (.leaf (38, (.iload_n 3, 39, 0), 0)) (.leaf (39, (.ireturn, 40, 0), 0))))))
set_option maxRecDepth 100000 in
def mt_176_0 : Lean.RArray mLf :=
  .branch 19 (.branch 9 (.branch 3 (.branch 1 (.leaf (0, (.iconst 0, 1, 0), 0)) (.branch 2 (.leaf (1, (.istore_n 2, 2, 0), 0)) (.leaf (2, (.iconst 0, 3, 0), 0)))) (.branch 5 (.branch 4 (.leaf (3, (.istore_n 3, 4, 0), 0)) (.leaf (4, (.iconst 0, 5, 0), 0))) (.branch 7 (.leaf (5, (.istore 4, 7, 0), 0)) (.leaf (7, (.iload 4, 9, 0), 0))))) (.branch 14 (.branch 10 (.leaf (9, (.iload_n 0, 10, 0), 0)) (.branch 13 (.leaf (10, (.if_icmp .ge 89, 13, 99), 0)) (.leaf (13, (.iload_n 2, 14, 0), 0)))) (.branch 17 (.branch 16 (.leaf (14, (.iload 4, 16, 0), 0)) (.leaf (16, (.ishr, 17, 0), 0))) (.branch 18 (.leaf (17, (.iconst 1, 18, 0), 0)) (.leaf (18, (.iand, 19, 0), 0)))))) (.branch 33 (.branch 26 (.branch 20 (.leaf (19, (.iconst 1, 20, 0), 0)) (.branch 23 (.leaf (20, (.if_icmp .ne 6, 23, 26), 0)) (.leaf (23, (.goto 70, 26, 93), 0)))) (.branch 30 (.branch 29 (.leaf (26, (.iinc 3 1, 29, 0), 0)) (.leaf (29, (.iconst 1, 30, 0), 0))) (.branch 32 (.leaf (30, (.iload 4, 32, 0), 0)) (.leaf (32, (.ishl, 33, 0), 0))))) (.branch 40 (.branch 36 (.branch 35 (.leaf (33, (.istore 5, 35, 0), 0)) (.leaf (35, (.iconst 0, 36, 0), 0))) (.branch 38 (.leaf (36, (.istore 6, 38, 0), 0)) (.leaf (38, (.iload 6, 40, 0), 0)))) (.branch 44 (.branch 41 (.leaf (40, (.iload_n 0, 41, 0), 0)) (.leaf (41, (.if_icmp .ge 47, 44, 88), 0))) (.branch 45 (.leaf (44, (.iconst 0, 45, 0), 0)) (.leaf (45, (.istore 7, 47, 0), 0))))))
set_option maxRecDepth 100000 in
def mt_176_1 : Lean.RArray mLf :=
  .branch 70 (.branch 59 (.branch 53 (.branch 49 (.leaf (47, (.iload 7, 49, 0), 0)) (.branch 50 (.leaf (49, (.iload_n 0, 50, 0), 0)) (.leaf (50, (.if_icmp .ge 32, 53, 82), 0)))) (.branch 57 (.branch 55 (.leaf (53, (.iload 5, 55, 0), 0)) (.leaf (55, (.iload 7, 57, 0), 0))) (.branch 58 (.leaf (57, (.ishr, 58, 0), 0)) (.leaf (58, (.iconst 1, 59, 0), 0))))) (.branch 64 (.branch 60 (.leaf (59, (.iand, 60, 0), 0)) (.branch 61 (.leaf (60, (.iconst 1, 61, 0), 0)) (.leaf (61, (.if_icmp .ne 15, 64, 76), 0)))) (.branch 67 (.branch 66 (.leaf (64, (.iload 5, 66, 0), 0)) (.leaf (66, (.iload_n 0, 67, 0), 0))) (.branch 68 (.leaf (67, (.iload_n 1, 68, 0), 0)) (.leaf (68, (.iload 7, 70, 0), 0)))))) (.branch 88 (.branch 76 (.branch 73 (.leaf (70, (.invokestatic 112, 73, 175), 1463)) (.branch 74 (.leaf (73, (.ior, 74, 0), 0)) (.leaf (74, (.istore 5, 76, 0), 0)))) (.branch 82 (.branch 79 (.leaf (76, (.iinc 7 1, 79, 0), 0)) (.leaf (79, (.goto (-32), 82, 47), 0))) (.branch 85 (.leaf (82, (.iinc 6 1, 85, 0), 0)) (.leaf (85, (.goto (-47), 88, 38), 0))))) (.branch 93 (.branch 91 (.branch 89 (.leaf (88, (.iload_n 2, 89, 0), 0)) (.leaf (89, (.iload 5, 91, 0), 0))) (.branch 92 (.leaf (91, (.ior, 92, 0), 0)) (.leaf (92, (.istore_n 2, 93, 0), 0)))) (.branch 99 (.branch 96 (.leaf (93, (.iinc 4 1, 96, 0), 0)) (.leaf (96, (.goto (-89), 99, 7), 0))) (.branch 100 (.leaf (99, (.iload_n 3, 100, 0), 0)) (.leaf (100, (.ireturn, 101, 0), 0))))))
/-- DeckBenchModel.pieces(II)I -/
def mt_176 : Lean.RArray mLf :=
  .branch 47 (mt_176_0) (mt_176_1)
set_option maxRecDepth 100000 in
/-- DeckBenchModel.partsOf(IIII)I -/
def mt_177 : Lean.RArray mLf :=
  .branch 23 (.branch 9 (.branch 4 (.branch 1 (.leaf (0, (.iconst 0, 1, 0), 0)) (.branch 3 (.leaf (1, (.istore 5, 3, 0), 0)) (.leaf (3, (.iconst 0, 4, 0), 0)))) (.branch 6 (.leaf (4, (.istore 6, 6, 0), 0)) (.branch 8 (.leaf (6, (.iload 6, 8, 0), 0)) (.leaf (8, (.iconst 1, 9, 0), 0))))) (.branch 14 (.branch 10 (.leaf (9, (.iload_n 3, 10, 0), 0)) (.branch 11 (.leaf (10, (.ishl, 11, 0), 0)) (.leaf (11, (.if_icmp .ge 38, 14, 49), 0)))) (.branch 19 (.branch 16 (.leaf (14, (.iload 6, 16, 0), 0)) (.leaf (16, (.invokestatic 83, 19, 255), 1381))) (.branch 20 (.leaf (19, (.iload_n 1, 20, 0), 0)) (.leaf (20, (.if_icmp .ne 23, 23, 43), 0)))))) (.branch 36 (.branch 26 (.branch 24 (.leaf (23, (.aload_n 0, 24, 0), 0)) (.branch 25 (.leaf (24, (.iload_n 1, 25, 0), 0)) (.leaf (25, (.iload_n 3, 26, 0), 0)))) (.branch 30 (.branch 28 (.leaf (26, (.iload 4, 28, 0), 0)) (.leaf (28, (.iload 6, 30, 0), 0))) (.branch 33 (.leaf (30, (.invokestatic 108, 33, 173), 1393)) (.leaf (33, (.invokevirtual 115, 36, 172), 1330))))) (.branch 43 (.branch 37 (.leaf (36, (.iload_n 2, 37, 0), 0)) (.branch 40 (.leaf (37, (.if_icmp .ne 6, 40, 43), 0)) (.leaf (40, (.iinc 5 1, 43, 0), 0)))) (.branch 49 (.branch 46 (.leaf (43, (.iinc 6 1, 46, 0), 0)) (.leaf (46, (.goto (-40), 49, 6), 0))) (.branch 51 (.leaf (49, (.iload 5, 51, 0), 0)) (.leaf (51, (.ireturn, 52, 0), 0))))))
set_option maxRecDepth 100000 in
def mt_178_0 : Lean.RArray mLf :=
  .branch 31 (.branch 15 (.branch 6 (.branch 2 (.branch 1 (.leaf (0, (.aload_n 0, 1, 0), 0)) (.leaf (1, (.iconst 0, 2, 0), 0))) (.branch 5 (.leaf (2, (.putfield 76, 5, 1204), 1174)) (.leaf (5, (.aload_n 0, 6, 0), 0)))) (.branch 11 (.branch 9 (.leaf (6, (.getfield 118, 9, 1210), 1180)) (.leaf (9, (.bipush 20, 11, 0), 0))) (.branch 12 (.leaf (11, (.iadd, 12, 0), 0)) (.leaf (12, (.sipush 600, 15, 0), 0))))) (.branch 22 (.branch 20 (.branch 18 (.leaf (15, (.if_icmp .le 6, 18, 21), 0)) (.leaf (18, (.bipush (-4), 20, 0), 0))) (.branch 21 (.leaf (20, (.ireturn, 21, 0), 0)) (.leaf (21, (.iconst 0, 22, 0), 0)))) (.branch 26 (.branch 24 (.leaf (22, (.istore 6, 24, 0), 0)) (.leaf (24, (.iload 6, 26, 0), 0))) (.branch 28 (.leaf (26, (.bipush 20, 28, 0), 0)) (.leaf (28, (.if_icmp .ge 90, 31, 118), 0)))))) (.branch 48 (.branch 38 (.branch 34 (.branch 33 (.leaf (31, (.iload 6, 33, 0), 0)) (.leaf (33, (.iconst 4, 34, 0), 0))) (.branch 37 (.leaf (34, (.if_icmp .ge 7, 37, 41), 0)) (.leaf (37, (.iload_n 1, 38, 0), 0)))) (.branch 43 (.branch 41 (.leaf (38, (.goto 39, 41, 77), 0)) (.leaf (41, (.iload 6, 43, 0), 0))) (.branch 45 (.leaf (43, (.bipush 8, 45, 0), 0)) (.leaf (45, (.if_icmp .ge 7, 48, 52), 0))))) (.branch 56 (.branch 52 (.branch 49 (.leaf (48, (.iload_n 2, 49, 0), 0)) (.leaf (49, (.goto 28, 52, 77), 0))) (.branch 54 (.leaf (52, (.iload 6, 54, 0), 0)) (.leaf (54, (.bipush 12, 56, 0), 0)))) (.branch 60 (.branch 59 (.leaf (56, (.if_icmp .ge 7, 59, 63), 0)) (.leaf (59, (.iload_n 3, 60, 0), 0))) (.branch 63 (.leaf (60, (.goto 17, 63, 77), 0)) (.leaf (63, (.iload 6, 65, 0), 0))))))
set_option maxRecDepth 100000 in
def mt_178_1 : Lean.RArray mLf :=
  .branch 97 (.branch 83 (.branch 75 (.branch 70 (.branch 67 (.leaf (65, (.bipush 16, 67, 0), 0)) (.leaf (67, (.if_icmp .ge 8, 70, 75), 0))) (.branch 72 (.leaf (70, (.iload 4, 72, 0), 0)) (.leaf (72, (.goto 5, 75, 77), 0)))) (.branch 79 (.branch 77 (.leaf (75, (.iload 5, 77, 0), 0)) (.leaf (77, (.istore 7, 79, 0), 0))) (.branch 80 (.leaf (79, (.aload_n 0, 80, 0), 0)) (.leaf (80, (.getfield 25, 83, 1209), 1179))))) (.branch 91 (.branch 87 (.branch 84 (.leaf (83, (.aload_n 0, 84, 0), 0)) (.leaf (84, (.getfield 118, 87, 1210), 1180))) (.branch 89 (.leaf (87, (.iload 7, 89, 0), 0)) (.leaf (89, (.bipush 24, 91, 0), 0)))) (.branch 95 (.branch 93 (.leaf (91, (.bipush 8, 93, 0), 0)) (.leaf (93, (.iload 6, 95, 0), 0))) (.branch 96 (.leaf (95, (.iconst 4, 96, 0), 0)) (.leaf (96, (.irem, 97, 0), 0)))))) (.branch 107 (.branch 101 (.branch 99 (.branch 98 (.leaf (97, (.imul, 98, 0), 0)) (.leaf (98, (.isub, 99, 0), 0))) (.branch 100 (.leaf (99, (.ishr, 100, 0), 0)) (.leaf (100, (.i2b, 101, 0), 0)))) (.branch 103 (.branch 102 (.leaf (101, (.bastore, 102, 0), 0)) (.leaf (102, (.aload_n 0, 103, 0), 0))) (.branch 104 (.leaf (103, (.dup, 104, 0), 0)) (.leaf (104, (.getfield 118, 107, 1210), 1180))))) (.branch 115 (.branch 109 (.branch 108 (.leaf (107, (.iconst 1, 108, 0), 0)) (.leaf (108, (.iadd, 109, 0), 0))) (.branch 112 (.leaf (109, (.putfield 118, 112, 1210), 1180)) (.leaf (112, (.iinc 6 1, 115, 0), 0)))) (.branch 119 (.branch 118 (.leaf (115, (.goto (-91), 118, 24), 0)) (.leaf (118, (.aload_n 0, 119, 0), 0))) (.branch 122 (.leaf (119, (.getfield 118, 122, 1210), 1180)) (.leaf (122, (.ireturn, 123, 0), 0))))))
/-- DeckBenchModel.feed(IIIII)I -/
def mt_178 : Lean.RArray mLf :=
  .branch 65 (mt_178_0) (mt_178_1)
set_option maxRecDepth 100000 in
/-- DeckBenchModel.peek()I -/
def mt_179 : Lean.RArray mLf :=
  .branch 32 (.branch 16 (.branch 8 (.branch 4 (.branch 1 (.leaf (0, (.aload_n 0, 1, 0), 0)) (.leaf (1, (.getfield 121, 4, 1212), 1182))) (.branch 5 (.leaf (4, (.aload_n 0, 5, 0), 0)) (.leaf (5, (.getfield 124, 8, 1211), 1181)))) (.branch 12 (.branch 11 (.leaf (8, (.if_icmp .ge 30, 11, 38), 0)) (.leaf (11, (.aload_n 0, 12, 0), 0))) (.branch 15 (.leaf (12, (.getfield 25, 15, 1209), 1179)) (.leaf (15, (.aload_n 0, 16, 0), 0))))) (.branch 25 (.branch 20 (.branch 19 (.leaf (16, (.getfield 121, 19, 1212), 1182)) (.leaf (19, (.baload, 20, 0), 0))) (.branch 22 (.leaf (20, (.bipush 32, 22, 0), 0)) (.leaf (22, (.if_icmp .ne 16, 25, 38), 0)))) (.branch 27 (.branch 26 (.leaf (25, (.aload_n 0, 26, 0), 0)) (.leaf (26, (.dup, 27, 0), 0))) (.branch 30 (.leaf (27, (.getfield 121, 30, 1212), 1182)) (.branch 31 (.leaf (30, (.iconst 1, 31, 0), 0)) (.leaf (31, (.iadd, 32, 0), 0))))))) (.branch 50 (.branch 42 (.branch 38 (.branch 35 (.leaf (32, (.putfield 121, 35, 1212), 1182)) (.leaf (35, (.goto (-35), 38, 0), 0))) (.branch 39 (.leaf (38, (.aload_n 0, 39, 0), 0)) (.leaf (39, (.getfield 121, 42, 1212), 1182)))) (.branch 46 (.branch 43 (.leaf (42, (.aload_n 0, 43, 0), 0)) (.leaf (43, (.getfield 124, 46, 1211), 1181))) (.branch 49 (.leaf (46, (.if_icmp .ge 19, 49, 65), 0)) (.leaf (49, (.aload_n 0, 50, 0), 0))))) (.branch 58 (.branch 54 (.branch 53 (.leaf (50, (.getfield 25, 53, 1209), 1179)) (.leaf (53, (.aload_n 0, 54, 0), 0))) (.branch 57 (.leaf (54, (.getfield 121, 57, 1212), 1182)) (.leaf (57, (.baload, 58, 0), 0)))) (.branch 62 (.branch 61 (.leaf (58, (.sipush 255, 61, 0), 0)) (.leaf (61, (.iand, 62, 0), 0))) (.branch 65 (.leaf (62, (.goto 4, 65, 66), 0)) (.branch 66 (.leaf (65, (.iconst (-1), 66, 0), 0)) (.leaf (66, (.ireturn, 67, 0), 0)))))))
set_option maxRecDepth 100000 in
/-- DeckBenchModel.fails(II)V -/
def mt_180 : Lean.RArray mLf :=
  .branch 9 (.branch 4 (.branch 1 (.leaf (0, (.aload_n 0, 1, 0), 0)) (.leaf (1, (.getfield 127, 4, 1213), 1183))) (.branch 7 (.leaf (4, (.ifCond .eq 4, 7, 8), 0)) (.branch 8 (.leaf (7, (.return_, 8, 0), 0)) (.leaf (8, (.aload_n 0, 9, 0), 0))))) (.branch 14 (.branch 10 (.leaf (9, (.iload_n 1, 10, 0), 0)) (.branch 13 (.leaf (10, (.putfield 127, 13, 1213), 1183)) (.leaf (13, (.aload_n 0, 14, 0), 0)))) (.branch 15 (.leaf (14, (.iload_n 2, 15, 0), 0)) (.branch 18 (.leaf (15, (.putfield 29, 18, 1214), 1184)) (.leaf (18, (.return_, 19, 0), 0)))))
set_option maxRecDepth 100000 in
/-- DeckBenchModel.isLetter(I)Z -/
def mt_181 : Lean.RArray mLf :=
  .branch 5 (.branch 1 (.leaf (0, (.iload_n 0, 1, 0), 0)) (.branch 2 (.leaf (1, (.i2l, 2, 0), 0)) (.leaf (2, (.ldc2_w 130, 5, 97), 1290)))) (.branch 8 (.leaf (5, (.ldc2_w 132, 8, 122), 1291)) (.branch 11 (.leaf (8, (.invokestatic 134, 11, 165), 1272)) (.leaf (11, (.ireturn, 12, 0), 0))))
set_option maxRecDepth 100000 in
/-- DeckBenchModel.isDigit(I)Z -/
def mt_182 : Lean.RArray mLf :=
  .branch 5 (.branch 1 (.leaf (0, (.iload_n 0, 1, 0), 0)) (.branch 2 (.leaf (1, (.i2l, 2, 0), 0)) (.leaf (2, (.ldc2_w 138, 5, 48), 1310)))) (.branch 8 (.leaf (5, (.ldc2_w 140, 8, 57), 1311)) (.branch 11 (.leaf (8, (.invokestatic 134, 11, 165), 1272)) (.leaf (11, (.ireturn, 12, 0), 0))))
set_option maxRecDepth 100000 in
/-- DeckBenchModel.lettersHere()I -/
def mt_183 : Lean.RArray mLf :=
  .branch 19 (.branch 7 (.branch 2 (.branch 1 (.leaf (0, (.iconst 0, 1, 0), 0)) (.leaf (1, (.istore_n 1, 2, 0), 0))) (.branch 3 (.leaf (2, (.aload_n 0, 3, 0), 0)) (.branch 6 (.leaf (3, (.getfield 121, 6, 1212), 1182)) (.leaf (6, (.iload_n 1, 7, 0), 0))))) (.branch 12 (.branch 8 (.leaf (7, (.iadd, 8, 0), 0)) (.branch 9 (.leaf (8, (.aload_n 0, 9, 0), 0)) (.leaf (9, (.getfield 124, 12, 1211), 1181)))) (.branch 15 (.leaf (12, (.if_icmp .ge 26, 15, 38), 0)) (.branch 16 (.leaf (15, (.aload_n 0, 16, 0), 0)) (.leaf (16, (.getfield 25, 19, 1209), 1179)))))) (.branch 26 (.branch 23 (.branch 20 (.leaf (19, (.aload_n 0, 20, 0), 0)) (.leaf (20, (.getfield 121, 23, 1212), 1182))) (.branch 24 (.leaf (23, (.iload_n 1, 24, 0), 0)) (.branch 25 (.leaf (24, (.iadd, 25, 0), 0)) (.leaf (25, (.baload, 26, 0), 0))))) (.branch 35 (.branch 29 (.leaf (26, (.invokestatic 142, 29, 181), 1287)) (.branch 32 (.leaf (29, (.ifCond .eq 9, 32, 38), 0)) (.leaf (32, (.iinc 1 1, 35, 0), 0)))) (.branch 38 (.leaf (35, (.goto (-33), 38, 2), 0)) (.branch 39 (.leaf (38, (.iload_n 1, 39, 0), 0)) (.leaf (39, (.ireturn, 40, 0), 0))))))
set_option maxRecDepth 100000 in
def mt_184_0 : Lean.RArray mLf :=
  .branch 34 (.branch 19 (.branch 8 (.branch 4 (.branch 1 (.leaf (0, (.aload_n 0, 1, 0), 0)) (.leaf (1, (.getfield 127, 4, 1213), 1183))) (.branch 7 (.leaf (4, (.ifCond .ne 13, 7, 17), 0)) (.leaf (7, (.aload_n 0, 8, 0), 0)))) (.branch 14 (.branch 11 (.leaf (8, (.invokevirtual 146, 11, 179), 1275)) (.leaf (11, (.invokestatic 142, 14, 181), 1287))) (.branch 17 (.leaf (14, (.ifCond .ne 5, 17, 19), 0)) (.branch 18 (.leaf (17, (.iconst (-1), 18, 0), 0)) (.leaf (18, (.ireturn, 19, 0), 0)))))) (.branch 26 (.branch 23 (.branch 20 (.leaf (19, (.aload_n 0, 20, 0), 0)) (.leaf (20, (.invokevirtual 150, 23, 183), 1292))) (.branch 24 (.leaf (23, (.istore_n 1, 24, 0), 0)) (.branch 25 (.leaf (24, (.iconst 0, 25, 0), 0)) (.leaf (25, (.istore_n 2, 26, 0), 0))))) (.branch 28 (.branch 27 (.leaf (26, (.iconst 1, 27, 0), 0)) (.leaf (27, (.istore_n 3, 28, 0), 0))) (.branch 29 (.leaf (28, (.iload_n 3, 29, 0), 0)) (.branch 31 (.leaf (29, (.ldc 153, 31, 4294967309), 1296)) (.leaf (31, (.invokevirtual 155, 34, 260), 1297))))))) (.branch 55 (.branch 42 (.branch 38 (.branch 37 (.leaf (34, (.if_icmp .ge 108, 37, 142), 0)) (.leaf (37, (.iload_n 3, 38, 0), 0))) (.branch 40 (.leaf (38, (.istore 4, 40, 0), 0)) (.leaf (40, (.ldc 153, 42, 4294967309), 1296)))) (.branch 47 (.branch 44 (.leaf (42, (.iload 4, 44, 0), 0)) (.leaf (44, (.invokevirtual 160, 47, 256), 1298))) (.branch 49 (.leaf (47, (.bipush 32, 49, 0), 0)) (.branch 52 (.leaf (49, (.if_icmp .eq 9, 52, 58), 0)) (.leaf (52, (.iinc 4 1, 55, 0), 0)))))) (.branch 63 (.branch 60 (.branch 58 (.leaf (55, (.goto (-15), 58, 40), 0)) (.leaf (58, (.iload 4, 60, 0), 0))) (.branch 61 (.leaf (60, (.iload_n 3, 61, 0), 0)) (.branch 62 (.leaf (61, (.isub, 62, 0), 0)) (.leaf (62, (.iload_n 1, 63, 0), 0))))) (.branch 67 (.branch 66 (.leaf (63, (.if_icmp .ne 7, 66, 70), 0)) (.leaf (66, (.iconst 1, 67, 0), 0))) (.branch 70 (.leaf (67, (.goto 4, 70, 71), 0)) (.branch 71 (.leaf (70, (.iconst 0, 71, 0), 0)) (.leaf (71, (.istore 5, 73, 0), 0)))))))
set_option maxRecDepth 100000 in
def mt_184_1 : Lean.RArray mLf :=
  .branch 108 (.branch 90 (.branch 79 (.branch 76 (.branch 74 (.leaf (73, (.iconst 0, 74, 0), 0)) (.leaf (74, (.istore 6, 76, 0), 0))) (.branch 78 (.leaf (76, (.iload 6, 78, 0), 0)) (.leaf (78, (.iload_n 1, 79, 0), 0)))) (.branch 84 (.branch 82 (.leaf (79, (.if_icmp .ge 45, 82, 124), 0)) (.leaf (82, (.iload 5, 84, 0), 0))) (.branch 87 (.leaf (84, (.ifCond .eq 40, 87, 124), 0)) (.branch 89 (.leaf (87, (.ldc 153, 89, 4294967309), 1296)) (.leaf (89, (.iload_n 3, 90, 0), 0)))))) (.branch 100 (.branch 93 (.branch 92 (.leaf (90, (.iload 6, 92, 0), 0)) (.leaf (92, (.iadd, 93, 0), 0))) (.branch 96 (.leaf (93, (.invokevirtual 160, 96, 256), 1298)) (.branch 97 (.leaf (96, (.aload_n 0, 97, 0), 0)) (.leaf (97, (.getfield 25, 100, 1209), 1179))))) (.branch 104 (.branch 101 (.leaf (100, (.aload_n 0, 101, 0), 0)) (.leaf (101, (.getfield 121, 104, 1212), 1182))) (.branch 106 (.leaf (104, (.iload 6, 106, 0), 0)) (.branch 107 (.leaf (106, (.iadd, 107, 0), 0)) (.leaf (107, (.baload, 108, 0), 0))))))) (.branch 129 (.branch 116 (.branch 112 (.branch 111 (.leaf (108, (.if_icmp .ne 7, 111, 115), 0)) (.leaf (111, (.iconst 1, 112, 0), 0))) (.branch 115 (.leaf (112, (.goto 4, 115, 116), 0)) (.leaf (115, (.iconst 0, 116, 0), 0)))) (.branch 121 (.branch 118 (.leaf (116, (.istore 5, 118, 0), 0)) (.leaf (118, (.iinc 6 1, 121, 0), 0))) (.branch 124 (.leaf (121, (.goto (-45), 124, 76), 0)) (.branch 126 (.leaf (124, (.iload 5, 126, 0), 0)) (.leaf (126, (.ifCond .eq 5, 129, 131), 0)))))) (.branch 137 (.branch 131 (.branch 130 (.leaf (129, (.iload_n 2, 130, 0), 0)) (.leaf (130, (.ireturn, 131, 0), 0))) (.branch 134 (.leaf (131, (.iinc 2 1, 134, 0), 0)) (.branch 136 (.leaf (134, (.iload 4, 136, 0), 0)) (.leaf (136, (.iconst 1, 137, 0), 0))))) (.branch 139 (.branch 138 (.leaf (137, (.iadd, 138, 0), 0)) (.leaf (138, (.istore_n 3, 139, 0), 0))) (.branch 142 (.leaf (139, (.goto (-111), 142, 28), 0)) (.branch 143 (.leaf (142, (.iconst (-1), 143, 0), 0)) (.leaf (143, (.ireturn, 144, 0), 0)))))))
/-- DeckBenchModel.wordHere()I -/
def mt_184 : Lean.RArray mLf :=
  .branch 73 (mt_184_0) (mt_184_1)
set_option maxRecDepth 100000 in
def mt_185_0 : Lean.RArray mLf :=
  .branch 28 (.branch 13 (.branch 7 (.branch 1 (.leaf (0, (.aload_n 0, 1, 0), 0)) (.branch 4 (.leaf (1, (.getfield 127, 4, 1213), 1183)) (.leaf (4, (.ifCond .eq 5, 7, 9), 0)))) (.branch 9 (.branch 8 (.leaf (7, (.iload_n 2, 8, 0), 0)) (.leaf (8, (.ireturn, 9, 0), 0))) (.branch 10 (.leaf (9, (.aload_n 0, 10, 0), 0)) (.leaf (10, (.invokevirtual 146, 13, 179), 1275))))) (.branch 20 (.branch 16 (.leaf (13, (.invokestatic 164, 16, 182), 1307)) (.branch 19 (.leaf (16, (.ifCond .ne 14, 19, 30), 0)) (.leaf (19, (.aload_n 0, 20, 0), 0)))) (.branch 22 (.branch 21 (.leaf (20, (.iconst 1, 21, 0), 0)) (.leaf (21, (.aload_n 0, 22, 0), 0))) (.branch 25 (.leaf (22, (.getfield 121, 25, 1212), 1182)) (.leaf (25, (.invokevirtual 167, 28, 180), 1299)))))) (.branch 39 (.branch 31 (.branch 29 (.leaf (28, (.iload_n 2, 29, 0), 0)) (.branch 30 (.leaf (29, (.ireturn, 30, 0), 0)) (.leaf (30, (.aload_n 0, 31, 0), 0)))) (.branch 35 (.branch 32 (.leaf (31, (.aload_n 0, 32, 0), 0)) (.leaf (32, (.getfield 121, 35, 1212), 1182))) (.branch 38 (.leaf (35, (.putfield 170, 38, 1215), 1185)) (.leaf (38, (.iconst 0, 39, 0), 0))))) (.branch 46 (.branch 42 (.branch 41 (.leaf (39, (.istore 4, 41, 0), 0)) (.leaf (41, (.aload_n 0, 42, 0), 0))) (.branch 45 (.leaf (42, (.getfield 121, 45, 1212), 1182)) (.leaf (45, (.aload_n 0, 46, 0), 0)))) (.branch 52 (.branch 49 (.leaf (46, (.getfield 124, 49, 1211), 1181)) (.leaf (49, (.if_icmp .ge 64, 52, 113), 0))) (.branch 53 (.leaf (52, (.aload_n 0, 53, 0), 0)) (.leaf (53, (.getfield 25, 56, 1209), 1179))))))
set_option maxRecDepth 100000 in
def mt_185_1 : Lean.RArray mLf :=
  .branch 84 (.branch 71 (.branch 61 (.branch 57 (.leaf (56, (.aload_n 0, 57, 0), 0)) (.branch 60 (.leaf (57, (.getfield 121, 60, 1212), 1182)) (.leaf (60, (.baload, 61, 0), 0)))) (.branch 67 (.branch 64 (.leaf (61, (.invokestatic 164, 64, 182), 1307)) (.leaf (64, (.ifCond .eq 49, 67, 113), 0))) (.branch 68 (.leaf (67, (.aload_n 0, 68, 0), 0)) (.leaf (68, (.getfield 121, 71, 1212), 1182))))) (.branch 76 (.branch 72 (.leaf (71, (.aload_n 0, 72, 0), 0)) (.branch 75 (.leaf (72, (.getfield 170, 75, 1215), 1185)) (.leaf (75, (.isub, 76, 0), 0)))) (.branch 80 (.branch 77 (.leaf (76, (.iload_n 1, 77, 0), 0)) (.leaf (77, (.if_icmp .ge 23, 80, 100), 0))) (.branch 82 (.leaf (80, (.bipush 10, 82, 0), 0)) (.leaf (82, (.iload 4, 84, 0), 0)))))) (.branch 95 (.branch 89 (.branch 85 (.leaf (84, (.imul, 85, 0), 0)) (.branch 86 (.leaf (85, (.aload_n 0, 86, 0), 0)) (.leaf (86, (.getfield 25, 89, 1209), 1179)))) (.branch 93 (.branch 90 (.leaf (89, (.aload_n 0, 90, 0), 0)) (.leaf (90, (.getfield 121, 93, 1212), 1182))) (.branch 94 (.leaf (93, (.baload, 94, 0), 0)) (.leaf (94, (.iadd, 95, 0), 0))))) (.branch 101 (.branch 98 (.branch 97 (.leaf (95, (.bipush 48, 97, 0), 0)) (.leaf (97, (.isub, 98, 0), 0))) (.branch 100 (.leaf (98, (.istore 4, 100, 0), 0)) (.leaf (100, (.aload_n 0, 101, 0), 0)))) (.branch 105 (.branch 102 (.leaf (101, (.dup, 102, 0), 0)) (.leaf (102, (.getfield 121, 105, 1212), 1182))) (.branch 106 (.leaf (105, (.iconst 1, 106, 0), 0)) (.leaf (106, (.iadd, 107, 0), 0))))))
set_option maxRecDepth 100000 in
def mt_185_2 : Lean.RArray mLf :=
  .branch 132 (.branch 122 (.branch 114 (.branch 110 (.leaf (107, (.putfield 121, 110, 1212), 1182)) (.branch 113 (.leaf (110, (.goto (-69), 113, 41), 0)) (.leaf (113, (.aload_n 0, 114, 0), 0)))) (.branch 118 (.branch 117 (.leaf (114, (.getfield 121, 117, 1212), 1182)) (.leaf (117, (.aload_n 0, 118, 0), 0))) (.branch 121 (.leaf (118, (.getfield 170, 121, 1215), 1185)) (.leaf (121, (.isub, 122, 0), 0))))) (.branch 128 (.branch 123 (.leaf (122, (.iload_n 1, 123, 0), 0)) (.branch 126 (.leaf (123, (.if_icmp .ne 16, 126, 139), 0)) (.leaf (126, (.iload 4, 128, 0), 0)))) (.branch 130 (.branch 129 (.leaf (128, (.i2l, 129, 0), 0)) (.leaf (129, (.iload_n 2, 130, 0), 0))) (.branch 131 (.leaf (130, (.i2l, 131, 0), 0)) (.leaf (131, (.iload_n 3, 132, 0), 0)))))) (.branch 145 (.branch 139 (.branch 133 (.leaf (132, (.i2l, 133, 0), 0)) (.branch 136 (.leaf (133, (.invokestatic 134, 136, 165), 1272)) (.leaf (136, (.ifCond .ne 12, 139, 148), 0)))) (.branch 141 (.branch 140 (.leaf (139, (.aload_n 0, 140, 0), 0)) (.leaf (140, (.iconst 2, 141, 0), 0))) (.branch 142 (.leaf (141, (.aload_n 0, 142, 0), 0)) (.leaf (142, (.getfield 170, 145, 1215), 1185))))) (.branch 155 (.branch 149 (.branch 148 (.leaf (145, (.invokevirtual 167, 148, 180), 1299)) (.leaf (148, (.aload_n 0, 149, 0), 0))) (.branch 152 (.leaf (149, (.getfield 127, 152, 1213), 1183)) (.leaf (152, (.ifCond .ne 8, 155, 160), 0)))) (.branch 160 (.branch 157 (.leaf (155, (.iload 4, 157, 0), 0)) (.leaf (157, (.goto 4, 160, 161), 0))) (.branch 161 (.leaf (160, (.iload_n 2, 161, 0), 0)) (.leaf (161, (.ireturn, 162, 0), 0))))))
/-- DeckBenchModel.numeral(III)I -/
def mt_185 : Lean.RArray mLf :=
  .branch 56 (mt_185_0) (.branch 107 (mt_185_1) (mt_185_2))
set_option maxRecDepth 100000 in
def mt_186_0 : Lean.RArray mLf :=
  .branch 27 (.branch 13 (.branch 3 (.branch 1 (.leaf (0, (.iconst 0, 1, 0), 0)) (.branch 2 (.leaf (1, (.istore_n 2, 2, 0), 0)) (.leaf (2, (.aload_n 0, 3, 0), 0)))) (.branch 9 (.branch 6 (.leaf (3, (.getfield 127, 6, 1213), 1183)) (.leaf (6, (.ifCond .ne 95, 9, 101), 0))) (.branch 10 (.leaf (9, (.aload_n 0, 10, 0), 0)) (.leaf (10, (.invokevirtual 146, 13, 179), 1275))))) (.branch 20 (.branch 16 (.leaf (13, (.invokestatic 164, 16, 182), 1307)) (.branch 19 (.leaf (16, (.ifCond .eq 85, 19, 101), 0)) (.leaf (19, (.aload_n 0, 20, 0), 0)))) (.branch 22 (.branch 21 (.leaf (20, (.iconst 2, 21, 0), 0)) (.leaf (21, (.iconst 0, 22, 0), 0))) (.branch 24 (.leaf (22, (.bipush 99, 24, 0), 0)) (.leaf (24, (.invokevirtual 173, 27, 185), 1303)))))) (.branch 37 (.branch 31 (.branch 28 (.leaf (27, (.istore_n 3, 28, 0), 0)) (.branch 29 (.leaf (28, (.iload_n 3, 29, 0), 0)) (.leaf (29, (.bipush 10, 31, 0), 0)))) (.branch 34 (.branch 32 (.leaf (31, (.idiv, 32, 0), 0)) (.leaf (32, (.istore 4, 34, 0), 0))) (.branch 35 (.leaf (34, (.iload_n 3, 35, 0), 0)) (.leaf (35, (.bipush 10, 37, 0), 0))))) (.branch 42 (.branch 38 (.leaf (37, (.irem, 38, 0), 0)) (.branch 40 (.leaf (38, (.istore 5, 40, 0), 0)) (.leaf (40, (.iload 4, 42, 0), 0)))) (.branch 46 (.branch 43 (.leaf (42, (.iload_n 1, 43, 0), 0)) (.leaf (43, (.if_icmp .ge 27, 46, 70), 0))) (.branch 48 (.leaf (46, (.iload 5, 48, 0), 0)) (.leaf (48, (.iload_n 1, 49, 0), 0))))))
set_option maxRecDepth 100000 in
def mt_186_1 : Lean.RArray mLf :=
  .branch 79 (.branch 64 (.branch 56 (.branch 52 (.leaf (49, (.if_icmp .ge 21, 52, 70), 0)) (.branch 54 (.leaf (52, (.iload 4, 54, 0), 0)) (.leaf (54, (.iload 5, 56, 0), 0)))) (.branch 60 (.branch 59 (.leaf (56, (.if_icmp .eq 14, 59, 70), 0)) (.leaf (59, (.iload_n 2, 60, 0), 0))) (.branch 62 (.leaf (60, (.iload 4, 62, 0), 0)) (.leaf (62, (.iload 5, 64, 0), 0))))) (.branch 71 (.branch 67 (.leaf (64, (.invokestatic 95, 67, 167), 1316)) (.branch 70 (.leaf (67, (.ifCond .eq 12, 70, 79), 0)) (.leaf (70, (.aload_n 0, 71, 0), 0)))) (.branch 73 (.branch 72 (.leaf (71, (.iconst 3, 72, 0), 0)) (.leaf (72, (.aload_n 0, 73, 0), 0))) (.branch 76 (.leaf (73, (.getfield 170, 76, 1215), 1185)) (.leaf (76, (.invokevirtual 167, 79, 180), 1299)))))) (.branch 92 (.branch 86 (.branch 80 (.leaf (79, (.aload_n 0, 80, 0), 0)) (.branch 83 (.leaf (80, (.getfield 127, 83, 1213), 1183)) (.leaf (83, (.ifCond .ne 15, 86, 98), 0)))) (.branch 88 (.branch 87 (.leaf (86, (.iload_n 2, 87, 0), 0)) (.leaf (87, (.iconst 1, 88, 0), 0))) (.branch 90 (.leaf (88, (.iload 4, 90, 0), 0)) (.leaf (90, (.iload 5, 92, 0), 0))))) (.branch 97 (.branch 95 (.leaf (92, (.invokestatic 79, 95, 166), 1319)) (.branch 96 (.leaf (95, (.ishl, 96, 0), 0)) (.leaf (96, (.ior, 97, 0), 0)))) (.branch 101 (.branch 98 (.leaf (97, (.istore_n 2, 98, 0), 0)) (.leaf (98, (.goto (-96), 101, 2), 0))) (.branch 102 (.leaf (101, (.iload_n 2, 102, 0), 0)) (.leaf (102, (.ireturn, 103, 0), 0))))))
/-- DeckBenchModel.pairsRead(I)I -/
def mt_186 : Lean.RArray mLf :=
  .branch 49 (mt_186_0) (mt_186_1)
set_option maxRecDepth 100000 in
def mt_187_0 : Lean.RArray mLf :=
  .branch 33 (.branch 15 (.branch 6 (.branch 4 (.branch 1 (.leaf (0, (.aload_n 0, 1, 0), 0)) (.leaf (1, (.invokevirtual 176, 4, 184), 1283))) (.branch 5 (.leaf (4, (.istore_n 1, 5, 0), 0)) (.leaf (5, (.iload_n 1, 6, 0), 0)))) (.branch 10 (.branch 9 (.leaf (6, (.ifCond .eq 17, 9, 23), 0)) (.leaf (9, (.iload_n 1, 10, 0), 0))) (.branch 11 (.leaf (10, (.iconst 1, 11, 0), 0)) (.branch 14 (.leaf (11, (.if_icmp .eq 12, 14, 23), 0)) (.leaf (14, (.aload_n 0, 15, 0), 0)))))) (.branch 24 (.branch 17 (.branch 16 (.leaf (15, (.iconst 1, 16, 0), 0)) (.leaf (16, (.aload_n 0, 17, 0), 0))) (.branch 20 (.leaf (17, (.getfield 121, 20, 1212), 1182)) (.branch 23 (.leaf (20, (.invokevirtual 167, 23, 180), 1299)) (.leaf (23, (.aload_n 0, 24, 0), 0))))) (.branch 30 (.branch 27 (.leaf (24, (.getfield 127, 27, 1213), 1183)) (.leaf (27, (.ifCond .eq 4, 30, 31), 0))) (.branch 31 (.leaf (30, (.return_, 31, 0), 0)) (.branch 32 (.leaf (31, (.aload_n 0, 32, 0), 0)) (.leaf (32, (.dup, 33, 0), 0))))))) (.branch 50 (.branch 41 (.branch 37 (.branch 36 (.leaf (33, (.getfield 121, 36, 1212), 1182)) (.leaf (36, (.aload_n 0, 37, 0), 0))) (.branch 40 (.leaf (37, (.invokevirtual 150, 40, 183), 1292)) (.leaf (40, (.iadd, 41, 0), 0)))) (.branch 45 (.branch 44 (.leaf (41, (.putfield 121, 44, 1212), 1182)) (.leaf (44, (.iload_n 1, 45, 0), 0))) (.branch 48 (.leaf (45, (.ifCond .ne 45, 48, 90), 0)) (.branch 49 (.leaf (48, (.aload_n 0, 49, 0), 0)) (.leaf (49, (.iconst 1, 50, 0), 0)))))) (.branch 57 (.branch 52 (.branch 51 (.leaf (50, (.iconst 0, 51, 0), 0)) (.leaf (51, (.iconst 5, 52, 0), 0))) (.branch 55 (.leaf (52, (.invokevirtual 173, 55, 185), 1303)) (.branch 56 (.leaf (55, (.istore_n 2, 56, 0), 0)) (.leaf (56, (.aload_n 0, 57, 0), 0))))) (.branch 59 (.branch 58 (.leaf (57, (.iconst 1, 58, 0), 0)) (.leaf (58, (.iconst 0, 59, 0), 0))) (.branch 61 (.leaf (59, (.bipush 7, 61, 0), 0)) (.branch 64 (.leaf (61, (.invokevirtual 173, 64, 185), 1303)) (.leaf (64, (.istore_n 3, 65, 0), 0)))))))
set_option maxRecDepth 100000 in
def mt_187_1 : Lean.RArray mLf :=
  .branch 98 (.branch 81 (.branch 72 (.branch 67 (.branch 66 (.leaf (65, (.aload_n 0, 66, 0), 0)) (.leaf (66, (.iload_n 3, 67, 0), 0))) (.branch 70 (.leaf (67, (.invokevirtual 179, 70, 186), 1312)) (.leaf (70, (.istore 4, 72, 0), 0)))) (.branch 76 (.branch 73 (.leaf (72, (.aload_n 0, 73, 0), 0)) (.leaf (73, (.getfield 127, 76, 1213), 1183))) (.branch 79 (.leaf (76, (.ifCond .ne 11, 79, 87), 0)) (.branch 80 (.leaf (79, (.aload_n 0, 80, 0), 0)) (.leaf (80, (.iload_n 2, 81, 0), 0)))))) (.branch 91 (.branch 84 (.branch 82 (.leaf (81, (.iload_n 3, 82, 0), 0)) (.leaf (82, (.iload 4, 84, 0), 0))) (.branch 87 (.leaf (84, (.invokevirtual 182, 87, 196), 1322)) (.branch 90 (.leaf (87, (.goto 14, 90, 101), 0)) (.leaf (90, (.aload_n 0, 91, 0), 0))))) (.branch 93 (.branch 92 (.leaf (91, (.aload_n 0, 92, 0), 0)) (.leaf (92, (.iconst 1, 93, 0), 0))) (.branch 94 (.leaf (93, (.iconst 0, 94, 0), 0)) (.branch 95 (.leaf (94, (.iconst 2, 95, 0), 0)) (.leaf (95, (.invokevirtual 173, 98, 185), 1303))))))) (.branch 119 (.branch 109 (.branch 102 (.branch 101 (.leaf (98, (.invokevirtual 186, 101, 188), 1326)) (.leaf (101, (.aload_n 0, 102, 0), 0))) (.branch 105 (.leaf (102, (.getfield 127, 105, 1213), 1183)) (.branch 108 (.leaf (105, (.ifCond .ne 21, 108, 126), 0)) (.leaf (108, (.aload_n 0, 109, 0), 0))))) (.branch 114 (.branch 112 (.leaf (109, (.invokevirtual 146, 112, 179), 1275)) (.leaf (112, (.bipush 59, 114, 0), 0))) (.branch 117 (.leaf (114, (.if_icmp .eq 12, 117, 126), 0)) (.branch 118 (.leaf (117, (.aload_n 0, 118, 0), 0)) (.leaf (118, (.iconst 1, 119, 0), 0)))))) (.branch 128 (.branch 123 (.branch 120 (.leaf (119, (.aload_n 0, 120, 0), 0)) (.leaf (120, (.getfield 121, 123, 1212), 1182))) (.branch 126 (.leaf (123, (.invokevirtual 167, 126, 180), 1299)) (.branch 127 (.leaf (126, (.aload_n 0, 127, 0), 0)) (.leaf (127, (.dup, 128, 0), 0))))) (.branch 132 (.branch 131 (.leaf (128, (.getfield 121, 131, 1212), 1182)) (.leaf (131, (.iconst 1, 132, 0), 0))) (.branch 133 (.leaf (132, (.iadd, 133, 0), 0)) (.branch 136 (.leaf (133, (.putfield 121, 136, 1212), 1182)) (.leaf (136, (.return_, 137, 0), 0)))))))
/-- DeckBenchModel.lineRead()V -/
def mt_187 : Lean.RArray mLf :=
  .branch 65 (mt_187_0) (mt_187_1)
set_option maxRecDepth 100000 in
def mt_188_0 : Lean.RArray mLf :=
  .branch 23 (.branch 10 (.branch 3 (.branch 1 (.leaf (0, (.aload_n 0, 1, 0), 0)) (.branch 2 (.leaf (1, (.iconst 1, 2, 0), 0)) (.leaf (2, (.iconst 2, 3, 0), 0)))) (.branch 8 (.branch 5 (.leaf (3, (.bipush 7, 5, 0), 0)) (.leaf (5, (.invokevirtual 173, 8, 185), 1303))) (.branch 9 (.leaf (8, (.istore_n 2, 9, 0), 0)) (.leaf (9, (.iconst 0, 10, 0), 0))))) (.branch 15 (.branch 11 (.leaf (10, (.istore_n 3, 11, 0), 0)) (.branch 12 (.leaf (11, (.aload_n 0, 12, 0), 0)) (.leaf (12, (.getfield 127, 15, 1213), 1183)))) (.branch 19 (.branch 18 (.leaf (15, (.ifCond .ne 75, 18, 90), 0)) (.leaf (18, (.aload_n 0, 19, 0), 0))) (.branch 22 (.leaf (19, (.invokevirtual 176, 22, 184), 1283)) (.leaf (22, (.iconst 2, 23, 0), 0)))))) (.branch 34 (.branch 28 (.branch 26 (.leaf (23, (.if_icmp .ne 67, 26, 90), 0)) (.branch 27 (.leaf (26, (.iload_n 3, 27, 0), 0)) (.leaf (27, (.iload_n 2, 28, 0), 0)))) (.branch 32 (.branch 31 (.leaf (28, (.if_icmp .ne 12, 31, 40), 0)) (.leaf (31, (.aload_n 0, 32, 0), 0))) (.branch 33 (.leaf (32, (.iconst 4, 33, 0), 0)) (.leaf (33, (.aload_n 0, 34, 0), 0))))) (.branch 41 (.branch 37 (.leaf (34, (.getfield 121, 37, 1212), 1182)) (.branch 40 (.leaf (37, (.invokevirtual 167, 40, 180), 1299)) (.leaf (40, (.aload_n 0, 41, 0), 0)))) (.branch 45 (.branch 42 (.leaf (41, (.dup, 42, 0), 0)) (.leaf (42, (.getfield 121, 45, 1212), 1182))) (.branch 46 (.leaf (45, (.aload_n 0, 46, 0), 0)) (.leaf (46, (.invokevirtual 150, 49, 183), 1292))))))
set_option maxRecDepth 100000 in
def mt_188_1 : Lean.RArray mLf :=
  .branch 74 (.branch 60 (.branch 54 (.branch 50 (.leaf (49, (.iadd, 50, 0), 0)) (.branch 53 (.leaf (50, (.putfield 121, 53, 1212), 1182)) (.leaf (53, (.aload_n 0, 54, 0), 0)))) (.branch 56 (.branch 55 (.leaf (54, (.iload_n 2, 55, 0), 0)) (.leaf (55, (.iconst 1, 56, 0), 0))) (.branch 57 (.leaf (56, (.isub, 57, 0), 0)) (.leaf (57, (.invokevirtual 179, 60, 186), 1312))))) (.branch 66 (.branch 62 (.leaf (60, (.istore 4, 62, 0), 0)) (.branch 63 (.leaf (62, (.aload_n 0, 63, 0), 0)) (.leaf (63, (.getfield 127, 66, 1213), 1183)))) (.branch 70 (.branch 69 (.leaf (66, (.ifCond .ne 18, 69, 84), 0)) (.leaf (69, (.aload_n 0, 70, 0), 0))) (.branch 73 (.leaf (70, (.getfield 33, 73, 1216), 1186)) (.leaf (73, (.iload_n 3, 74, 0), 0)))))) (.branch 84 (.branch 77 (.branch 75 (.leaf (74, (.aload_n 0, 75, 0), 0)) (.branch 76 (.leaf (75, (.iload_n 2, 76, 0), 0)) (.leaf (76, (.iconst 1, 77, 0), 0)))) (.branch 80 (.branch 78 (.leaf (77, (.isub, 78, 0), 0)) (.leaf (78, (.iload 4, 80, 0), 0))) (.branch 83 (.leaf (80, (.invokevirtual 115, 83, 172), 1330)) (.leaf (83, (.iastore, 84, 0), 0))))) (.branch 91 (.branch 87 (.leaf (84, (.iinc 3 1, 87, 0), 0)) (.branch 90 (.leaf (87, (.goto (-76), 90, 11), 0)) (.leaf (90, (.aload_n 0, 91, 0), 0)))) (.branch 97 (.branch 94 (.leaf (91, (.getfield 127, 94, 1213), 1183)) (.leaf (94, (.ifCond .ne 16, 97, 110), 0))) (.branch 98 (.leaf (97, (.iload_n 3, 98, 0), 0)) (.leaf (98, (.ifCond .ne 12, 101, 110), 0))))))
set_option maxRecDepth 100000 in
def mt_188_2 : Lean.RArray mLf :=
  .branch 128 (.branch 114 (.branch 104 (.branch 102 (.leaf (101, (.aload_n 0, 102, 0), 0)) (.branch 103 (.leaf (102, (.iconst 1, 103, 0), 0)) (.leaf (103, (.aload_n 0, 104, 0), 0)))) (.branch 110 (.branch 107 (.leaf (104, (.getfield 121, 107, 1212), 1182)) (.leaf (107, (.invokevirtual 167, 110, 180), 1299))) (.branch 111 (.leaf (110, (.aload_n 0, 111, 0), 0)) (.leaf (111, (.getfield 127, 114, 1213), 1183))))) (.branch 119 (.branch 117 (.leaf (114, (.ifCond .ne 26, 117, 140), 0)) (.branch 118 (.leaf (117, (.iload_n 3, 118, 0), 0)) (.leaf (118, (.iload_n 2, 119, 0), 0)))) (.branch 123 (.branch 122 (.leaf (119, (.if_icmp .ge 21, 122, 140), 0)) (.leaf (122, (.aload_n 0, 123, 0), 0))) (.branch 126 (.leaf (123, (.invokevirtual 146, 126, 179), 1275)) (.leaf (126, (.bipush 59, 128, 0), 0)))))) (.branch 141 (.branch 133 (.branch 131 (.leaf (128, (.if_icmp .ne 12, 131, 140), 0)) (.branch 132 (.leaf (131, (.aload_n 0, 132, 0), 0)) (.leaf (132, (.iconst 4, 133, 0), 0)))) (.branch 137 (.branch 134 (.leaf (133, (.aload_n 0, 134, 0), 0)) (.leaf (134, (.getfield 121, 137, 1212), 1182))) (.branch 140 (.leaf (137, (.invokevirtual 167, 140, 180), 1299)) (.leaf (140, (.aload_n 0, 141, 0), 0))))) (.branch 148 (.branch 144 (.leaf (141, (.getfield 127, 144, 1213), 1183)) (.branch 147 (.leaf (144, (.ifCond .ne 9, 147, 153), 0)) (.leaf (147, (.aload_n 0, 148, 0), 0)))) (.branch 150 (.branch 149 (.leaf (148, (.iload_n 1, 149, 0), 0)) (.leaf (149, (.iload_n 2, 150, 0), 0))) (.branch 153 (.leaf (150, (.invokevirtual 190, 153, 201), 1343)) (.leaf (153, (.return_, 154, 0), 0))))))
/-- DeckBenchModel.deckRead(I)V -/
def mt_188 : Lean.RArray mLf :=
  .branch 49 (mt_188_0) (.branch 101 (mt_188_1) (mt_188_2))
set_option maxRecDepth 100000 in
def mt_189_0 : Lean.RArray mLf :=
  .branch 23 (.branch 9 (.branch 5 (.branch 1 (.leaf (0, (.aload_n 0, 1, 0), 0)) (.branch 2 (.leaf (1, (.iconst 0, 2, 0), 0)) (.leaf (2, (.putfield 76, 5, 1204), 1174)))) (.branch 7 (.branch 6 (.leaf (5, (.iload_n 1, 6, 0), 0)) (.leaf (6, (.i2l, 7, 0), 0))) (.branch 8 (.leaf (7, (.lconst 0, 8, 0), 0)) (.leaf (8, (.aload_n 0, 9, 0), 0))))) (.branch 16 (.branch 12 (.leaf (9, (.getfield 118, 12, 1210), 1180)) (.branch 13 (.leaf (12, (.i2l, 13, 0), 0)) (.leaf (13, (.invokestatic 134, 16, 165), 1272)))) (.branch 21 (.branch 19 (.leaf (16, (.ifCond .ne 6, 19, 22), 0)) (.leaf (19, (.bipush (-3), 21, 0), 0))) (.branch 22 (.leaf (21, (.ireturn, 22, 0), 0)) (.leaf (22, (.aload_n 0, 23, 0), 0)))))) (.branch 34 (.branch 28 (.branch 24 (.leaf (23, (.iconst 0, 24, 0), 0)) (.branch 27 (.leaf (24, (.putfield 118, 27, 1210), 1180)) (.leaf (27, (.aload_n 0, 28, 0), 0)))) (.branch 32 (.branch 29 (.leaf (28, (.iload_n 1, 29, 0), 0)) (.leaf (29, (.putfield 124, 32, 1211), 1181))) (.branch 33 (.leaf (32, (.aload_n 0, 33, 0), 0)) (.leaf (33, (.iconst 0, 34, 0), 0))))) (.branch 42 (.branch 38 (.branch 37 (.leaf (34, (.putfield 121, 37, 1212), 1182)) (.leaf (37, (.aload_n 0, 38, 0), 0))) (.branch 39 (.leaf (38, (.iconst 0, 39, 0), 0)) (.leaf (39, (.putfield 127, 42, 1213), 1183)))) (.branch 44 (.branch 43 (.leaf (42, (.aload_n 0, 43, 0), 0)) (.leaf (43, (.iconst (-1), 44, 0), 0))) (.branch 47 (.leaf (44, (.putfield 29, 47, 1214), 1184)) (.leaf (47, (.iconst 0, 48, 0), 0))))))
set_option maxRecDepth 100000 in
def mt_189_1 : Lean.RArray mLf :=
  .branch 72 (.branch 60 (.branch 52 (.branch 49 (.leaf (48, (.istore_n 2, 49, 0), 0)) (.branch 50 (.leaf (49, (.iload_n 2, 50, 0), 0)) (.leaf (50, (.bipush 36, 52, 0), 0)))) (.branch 56 (.branch 55 (.leaf (52, (.if_icmp .ge 28, 55, 80), 0)) (.leaf (55, (.aload_n 0, 56, 0), 0))) (.branch 59 (.leaf (56, (.getfield 13, 59, 1201), 1171)) (.leaf (59, (.iload_n 2, 60, 0), 0))))) (.branch 66 (.branch 64 (.branch 61 (.leaf (60, (.aload_n 0, 61, 0), 0)) (.leaf (61, (.getfield 7, 64, 1200), 1170))) (.branch 65 (.leaf (64, (.iload_n 2, 65, 0), 0)) (.leaf (65, (.iaload, 66, 0), 0)))) (.branch 68 (.branch 67 (.leaf (66, (.iastore, 67, 0), 0)) (.leaf (67, (.aload_n 0, 68, 0), 0))) (.branch 71 (.leaf (68, (.getfield 7, 71, 1200), 1170)) (.leaf (71, (.iload_n 2, 72, 0), 0)))))) (.branch 83 (.branch 77 (.branch 73 (.leaf (72, (.iconst 0, 73, 0), 0)) (.branch 74 (.leaf (73, (.iastore, 74, 0), 0)) (.leaf (74, (.iinc 2 1, 77, 0), 0)))) (.branch 81 (.branch 80 (.leaf (77, (.goto (-28), 80, 49), 0)) (.leaf (80, (.iconst 0, 81, 0), 0))) (.branch 82 (.leaf (81, (.istore_n 2, 82, 0), 0)) (.leaf (82, (.aload_n 0, 83, 0), 0))))) (.branch 93 (.branch 89 (.branch 86 (.leaf (83, (.getfield 127, 86, 1213), 1183)) (.leaf (86, (.ifCond .ne 21, 89, 107), 0))) (.branch 90 (.leaf (89, (.aload_n 0, 90, 0), 0)) (.leaf (90, (.invokevirtual 146, 93, 179), 1275)))) (.branch 97 (.branch 94 (.leaf (93, (.iconst (-1), 94, 0), 0)) (.leaf (94, (.if_icmp .eq 13, 97, 107), 0))) (.branch 98 (.leaf (97, (.aload_n 0, 98, 0), 0)) (.leaf (98, (.invokevirtual 193, 101, 187), 1279))))))
set_option maxRecDepth 100000 in
def mt_189_2 : Lean.RArray mLf :=
  .branch 129 (.branch 116 (.branch 108 (.branch 104 (.leaf (101, (.iinc 2 1, 104, 0), 0)) (.branch 107 (.leaf (104, (.goto (-22), 107, 82), 0)) (.leaf (107, (.aload_n 0, 108, 0), 0)))) (.branch 114 (.branch 111 (.leaf (108, (.getfield 127, 111, 1213), 1183)) (.leaf (111, (.ifCond .ne 10, 114, 121), 0))) (.branch 115 (.leaf (114, (.aload_n 0, 115, 0), 0)) (.leaf (115, (.iconst 0, 116, 0), 0))))) (.branch 122 (.branch 120 (.branch 119 (.leaf (116, (.putfield 196, 119, 1203), 1173)) (.leaf (119, (.iload_n 2, 120, 0), 0))) (.branch 121 (.leaf (120, (.ireturn, 121, 0), 0)) (.leaf (121, (.iconst 0, 122, 0), 0)))) (.branch 124 (.branch 123 (.leaf (122, (.istore_n 3, 123, 0), 0)) (.leaf (123, (.iload_n 3, 124, 0), 0))) (.branch 126 (.leaf (124, (.bipush 36, 126, 0), 0)) (.leaf (126, (.if_icmp .ge 21, 129, 147), 0)))))) (.branch 140 (.branch 134 (.branch 130 (.leaf (129, (.aload_n 0, 130, 0), 0)) (.branch 133 (.leaf (130, (.getfield 7, 133, 1200), 1170)) (.leaf (133, (.iload_n 3, 134, 0), 0)))) (.branch 138 (.branch 135 (.leaf (134, (.aload_n 0, 135, 0), 0)) (.leaf (135, (.getfield 13, 138, 1201), 1171))) (.branch 139 (.leaf (138, (.iload_n 3, 139, 0), 0)) (.leaf (139, (.iaload, 140, 0), 0))))) (.branch 149 (.branch 144 (.branch 141 (.leaf (140, (.iastore, 141, 0), 0)) (.leaf (141, (.iinc 3 1, 144, 0), 0))) (.branch 147 (.leaf (144, (.goto (-21), 147, 123), 0)) (.leaf (147, (.bipush (-30), 149, 0), 0)))) (.branch 153 (.branch 150 (.leaf (149, (.aload_n 0, 150, 0), 0)) (.leaf (150, (.getfield 127, 153, 1213), 1183))) (.branch 154 (.leaf (153, (.isub, 154, 0), 0)) (.leaf (154, (.ireturn, 155, 0), 0))))))
/-- DeckBenchModel.tell(I)I -/
def mt_189 : Lean.RArray mLf :=
  .branch 48 (mt_189_0) (.branch 101 (mt_189_1) (mt_189_2))
set_option maxRecDepth 100000 in
/-- DeckBenchModel.fault(I)I -/
def mt_190 : Lean.RArray mLf :=
  .branch 16 (.branch 6 (.branch 2 (.branch 1 (.leaf (0, (.aload_n 0, 1, 0), 0)) (.leaf (1, (.iconst 0, 2, 0), 0))) (.branch 5 (.leaf (2, (.putfield 76, 5, 1204), 1174)) (.leaf (5, (.iload_n 1, 6, 0), 0)))) (.branch 10 (.branch 9 (.leaf (6, (.ifCond .ne 10, 9, 16), 0)) (.leaf (9, (.aload_n 0, 10, 0), 0))) (.branch 13 (.leaf (10, (.getfield 127, 13, 1213), 1183)) (.leaf (13, (.goto 16, 16, 29), 0))))) (.branch 22 (.branch 18 (.branch 17 (.leaf (16, (.iload_n 1, 17, 0), 0)) (.leaf (17, (.iconst 1, 18, 0), 0))) (.branch 21 (.leaf (18, (.if_icmp .ne 10, 21, 28), 0)) (.leaf (21, (.aload_n 0, 22, 0), 0)))) (.branch 28 (.branch 25 (.leaf (22, (.getfield 29, 25, 1214), 1184)) (.leaf (25, (.goto 4, 28, 29), 0))) (.branch 29 (.leaf (28, (.iconst (-1), 29, 0), 0)) (.leaf (29, (.ireturn, 30, 0), 0)))))
set_option maxRecDepth 100000 in
/-- DeckBenchModel.isSlot(I)Z -/
def mt_191 : Lean.RArray mLf :=
  .branch 3 (.branch 1 (.leaf (0, (.iload_n 0, 1, 0), 0)) (.branch 2 (.leaf (1, (.i2l, 2, 0), 0)) (.leaf (2, (.lconst 0, 3, 0), 0)))) (.branch 6 (.leaf (3, (.ldc2_w 199, 6, 5), 1361)) (.branch 9 (.leaf (6, (.invokestatic 134, 9, 165), 1272)) (.leaf (9, (.ireturn, 10, 0), 0))))
set_option maxRecDepth 100000 in
/-- DeckBenchModel.nodes(I)I -/
def mt_192 : Lean.RArray mLf :=
  .branch 5 (.branch 1 (.leaf (0, (.aload_n 0, 1, 0), 0)) (.branch 4 (.leaf (1, (.getfield 7, 4, 1200), 1170)) (.leaf (4, (.iconst 2, 5, 0), 0)))) (.branch 7 (.branch 6 (.leaf (5, (.iload_n 1, 6, 0), 0)) (.leaf (6, (.imul, 7, 0), 0))) (.branch 8 (.leaf (7, (.iaload, 8, 0), 0)) (.leaf (8, (.ireturn, 9, 0), 0))))
set_option maxRecDepth 100000 in
/-- DeckBenchModel.code(I)I -/
def mt_193 : Lean.RArray mLf :=
  .branch 6 (.branch 4 (.branch 1 (.leaf (0, (.aload_n 0, 1, 0), 0)) (.leaf (1, (.getfield 7, 4, 1200), 1170))) (.branch 5 (.leaf (4, (.iconst 2, 5, 0), 0)) (.leaf (5, (.iload_n 1, 6, 0), 0)))) (.branch 8 (.branch 7 (.leaf (6, (.imul, 7, 0), 0)) (.leaf (7, (.iconst 1, 8, 0), 0))) (.branch 9 (.leaf (8, (.iadd, 9, 0), 0)) (.branch 10 (.leaf (9, (.iaload, 10, 0), 0)) (.leaf (10, (.ireturn, 11, 0), 0)))))
set_option maxRecDepth 100000 in
/-- DeckBenchModel.formOf(I)I -/
def mt_194 : Lean.RArray mLf :=
  .branch 6 (.branch 2 (.branch 1 (.leaf (0, (.aload_n 0, 1, 0), 0)) (.leaf (1, (.aload_n 0, 2, 0), 0))) (.branch 3 (.leaf (2, (.iload_n 1, 3, 0), 0)) (.leaf (3, (.invokevirtual 201, 6, 192), 1366)))) (.branch 8 (.branch 7 (.leaf (6, (.aload_n 0, 7, 0), 0)) (.leaf (7, (.iload_n 1, 8, 0), 0))) (.branch 11 (.leaf (8, (.invokevirtual 204, 11, 193), 1374)) (.branch 14 (.leaf (11, (.invokevirtual 115, 14, 172), 1330)) (.leaf (14, (.ireturn, 15, 0), 0)))))
set_option maxRecDepth 100000 in
/-- DeckBenchModel.isNode(II)Z -/
def mt_195 : Lean.RArray mLf :=
  .branch 5 (.branch 2 (.branch 1 (.leaf (0, (.iload_n 2, 1, 0), 0)) (.leaf (1, (.i2l, 2, 0), 0))) (.branch 3 (.leaf (2, (.lconst 0, 3, 0), 0)) (.branch 4 (.leaf (3, (.aload_n 0, 4, 0), 0)) (.leaf (4, (.iload_n 1, 5, 0), 0))))) (.branch 10 (.branch 8 (.leaf (5, (.invokevirtual 201, 8, 192), 1366)) (.branch 9 (.leaf (8, (.iconst 1, 9, 0), 0)) (.leaf (9, (.isub, 10, 0), 0)))) (.branch 11 (.leaf (10, (.i2l, 11, 0), 0)) (.branch 14 (.leaf (11, (.invokestatic 134, 14, 165), 1272)) (.leaf (14, (.ireturn, 15, 0), 0)))))
set_option maxRecDepth 100000 in
/-- DeckBenchModel.becomes(III)V -/
def mt_196 : Lean.RArray mLf :=
  .branch 10 (.branch 6 (.branch 4 (.branch 1 (.leaf (0, (.aload_n 0, 1, 0), 0)) (.leaf (1, (.getfield 7, 4, 1200), 1170))) (.branch 5 (.leaf (4, (.iconst 2, 5, 0), 0)) (.leaf (5, (.iload_n 1, 6, 0), 0)))) (.branch 8 (.branch 7 (.leaf (6, (.imul, 7, 0), 0)) (.leaf (7, (.iload_n 2, 8, 0), 0))) (.branch 9 (.leaf (8, (.iastore, 9, 0), 0)) (.leaf (9, (.aload_n 0, 10, 0), 0))))) (.branch 16 (.branch 14 (.branch 13 (.leaf (10, (.getfield 7, 13, 1200), 1170)) (.leaf (13, (.iconst 2, 14, 0), 0))) (.branch 15 (.leaf (14, (.iload_n 1, 15, 0), 0)) (.leaf (15, (.imul, 16, 0), 0)))) (.branch 18 (.branch 17 (.leaf (16, (.iconst 1, 17, 0), 0)) (.leaf (17, (.iadd, 18, 0), 0))) (.branch 19 (.leaf (18, (.iload_n 3, 19, 0), 0)) (.branch 20 (.leaf (19, (.iastore, 20, 0), 0)) (.leaf (20, (.return_, 21, 0), 0))))))
set_option maxRecDepth 100000 in
/-- DeckBenchModel.deckOf(I)I -/
def mt_197 : Lean.RArray mLf :=
  .branch 16 (.branch 6 (.branch 2 (.branch 1 (.leaf (0, (.iload_n 1, 1, 0), 0)) (.leaf (1, (.i2l, 2, 0), 0))) (.branch 3 (.leaf (2, (.lconst 0, 3, 0), 0)) (.leaf (3, (.ldc2_w 207, 6, 2), 1415)))) (.branch 12 (.branch 9 (.leaf (6, (.invokestatic 134, 9, 165), 1272)) (.leaf (9, (.ifCond .eq 18, 12, 27), 0))) (.branch 13 (.leaf (12, (.aload_n 0, 13, 0), 0)) (.leaf (13, (.getfield 7, 16, 1200), 1170))))) (.branch 22 (.branch 20 (.branch 18 (.leaf (16, (.bipush 12, 18, 0), 0)) (.leaf (18, (.bipush 8, 20, 0), 0))) (.branch 21 (.leaf (20, (.iload_n 1, 21, 0), 0)) (.leaf (21, (.imul, 22, 0), 0)))) (.branch 24 (.branch 23 (.leaf (22, (.iadd, 23, 0), 0)) (.leaf (23, (.iaload, 24, 0), 0))) (.branch 27 (.leaf (24, (.goto 4, 27, 28), 0)) (.branch 28 (.leaf (27, (.iconst 0, 28, 0), 0)) (.leaf (28, (.ireturn, 29, 0), 0))))))
set_option maxRecDepth 100000 in
/-- DeckBenchModel.cardOf(II)I -/
def mt_198 : Lean.RArray mLf :=
  .branch 10 (.branch 6 (.branch 1 (.leaf (0, (.aload_n 0, 1, 0), 0)) (.branch 4 (.leaf (1, (.getfield 7, 4, 1200), 1170)) (.leaf (4, (.bipush 12, 6, 0), 0)))) (.branch 8 (.leaf (6, (.bipush 8, 8, 0), 0)) (.branch 9 (.leaf (8, (.iload_n 1, 9, 0), 0)) (.leaf (9, (.imul, 10, 0), 0))))) (.branch 13 (.branch 11 (.leaf (10, (.iadd, 11, 0), 0)) (.branch 12 (.leaf (11, (.iconst 1, 12, 0), 0)) (.leaf (12, (.iadd, 13, 0), 0)))) (.branch 15 (.branch 14 (.leaf (13, (.iload_n 2, 14, 0), 0)) (.leaf (14, (.iadd, 15, 0), 0))) (.branch 16 (.leaf (15, (.iaload, 16, 0), 0)) (.leaf (16, (.ireturn, 17, 0), 0)))))
set_option maxRecDepth 100000 in
/-- DeckBenchModel.isCard(II)Z -/
def mt_199 : Lean.RArray mLf :=
  .branch 5 (.branch 2 (.branch 1 (.leaf (0, (.iload_n 2, 1, 0), 0)) (.leaf (1, (.i2l, 2, 0), 0))) (.branch 3 (.leaf (2, (.lconst 0, 3, 0), 0)) (.branch 4 (.leaf (3, (.aload_n 0, 4, 0), 0)) (.leaf (4, (.iload_n 1, 5, 0), 0))))) (.branch 10 (.branch 8 (.leaf (5, (.invokevirtual 209, 8, 197), 1431)) (.branch 9 (.leaf (8, (.iconst 1, 9, 0), 0)) (.leaf (9, (.isub, 10, 0), 0)))) (.branch 11 (.leaf (10, (.i2l, 11, 0), 0)) (.branch 14 (.leaf (11, (.invokestatic 134, 14, 165), 1272)) (.leaf (14, (.ireturn, 15, 0), 0)))))
set_option maxRecDepth 100000 in
/-- DeckBenchModel.sorts([II)V -/
def mt_200 : Lean.RArray mLf :=
  .branch 25 (.branch 11 (.branch 4 (.branch 2 (.branch 1 (.leaf (0, (.iconst 1, 1, 0), 0)) (.leaf (1, (.istore_n 2, 2, 0), 0))) (.branch 3 (.leaf (2, (.iload_n 2, 3, 0), 0)) (.leaf (3, (.iload_n 1, 4, 0), 0)))) (.branch 8 (.branch 7 (.leaf (4, (.if_icmp .ge 52, 7, 56), 0)) (.leaf (7, (.aload_n 0, 8, 0), 0))) (.branch 9 (.leaf (8, (.iload_n 2, 9, 0), 0)) (.branch 10 (.leaf (9, (.iaload, 10, 0), 0)) (.leaf (10, (.istore_n 3, 11, 0), 0)))))) (.branch 19 (.branch 14 (.branch 12 (.leaf (11, (.iload_n 2, 12, 0), 0)) (.leaf (12, (.istore 4, 14, 0), 0))) (.branch 16 (.leaf (14, (.iload 4, 16, 0), 0)) (.leaf (16, (.ifCond .le 29, 19, 45), 0)))) (.branch 22 (.branch 20 (.leaf (19, (.aload_n 0, 20, 0), 0)) (.leaf (20, (.iload 4, 22, 0), 0))) (.branch 23 (.leaf (22, (.iconst 1, 23, 0), 0)) (.branch 24 (.leaf (23, (.isub, 24, 0), 0)) (.leaf (24, (.iaload, 25, 0), 0))))))) (.branch 38 (.branch 32 (.branch 29 (.branch 26 (.leaf (25, (.iload_n 3, 26, 0), 0)) (.leaf (26, (.if_icmp .le 19, 29, 45), 0))) (.branch 30 (.leaf (29, (.aload_n 0, 30, 0), 0)) (.leaf (30, (.iload 4, 32, 0), 0)))) (.branch 35 (.branch 33 (.leaf (32, (.aload_n 0, 33, 0), 0)) (.leaf (33, (.iload 4, 35, 0), 0))) (.branch 36 (.leaf (35, (.iconst 1, 36, 0), 0)) (.branch 37 (.leaf (36, (.isub, 37, 0), 0)) (.leaf (37, (.iaload, 38, 0), 0)))))) (.branch 48 (.branch 42 (.branch 39 (.leaf (38, (.iastore, 39, 0), 0)) (.leaf (39, (.iinc 4 (-1), 42, 0), 0))) (.branch 45 (.leaf (42, (.goto (-28), 45, 14), 0)) (.branch 46 (.leaf (45, (.aload_n 0, 46, 0), 0)) (.leaf (46, (.iload 4, 48, 0), 0))))) (.branch 50 (.branch 49 (.leaf (48, (.iload_n 3, 49, 0), 0)) (.leaf (49, (.iastore, 50, 0), 0))) (.branch 53 (.leaf (50, (.iinc 2 1, 53, 0), 0)) (.branch 56 (.leaf (53, (.goto (-51), 56, 2), 0)) (.leaf (56, (.return_, 57, 0), 0)))))))
set_option maxRecDepth 100000 in
def mt_201_0 : Lean.RArray mLf :=
  .branch 18 (.branch 9 (.branch 4 (.branch 1 (.leaf (0, (.aload_n 0, 1, 0), 0)) (.leaf (1, (.getfield 33, 4, 1216), 1186))) (.branch 5 (.leaf (4, (.iload_n 2, 5, 0), 0)) (.branch 8 (.leaf (5, (.invokestatic 212, 8, 200), 1347)) (.leaf (8, (.aload_n 0, 9, 0), 0))))) (.branch 14 (.branch 12 (.leaf (9, (.getfield 7, 12, 1200), 1170)) (.leaf (12, (.bipush 12, 14, 0), 0))) (.branch 16 (.leaf (14, (.bipush 8, 16, 0), 0)) (.branch 17 (.leaf (16, (.iload_n 1, 17, 0), 0)) (.leaf (17, (.imul, 18, 0), 0)))))) (.branch 23 (.branch 20 (.branch 19 (.leaf (18, (.iadd, 19, 0), 0)) (.leaf (19, (.iload_n 2, 20, 0), 0))) (.branch 21 (.leaf (20, (.iastore, 21, 0), 0)) (.branch 22 (.leaf (21, (.iconst 0, 22, 0), 0)) (.leaf (22, (.istore_n 3, 23, 0), 0))))) (.branch 29 (.branch 24 (.leaf (23, (.iload_n 3, 24, 0), 0)) (.branch 26 (.leaf (24, (.bipush 7, 26, 0), 0)) (.leaf (26, (.if_icmp .ge 40, 29, 66), 0)))) (.branch 30 (.leaf (29, (.aload_n 0, 30, 0), 0)) (.branch 33 (.leaf (30, (.getfield 7, 33, 1200), 1170)) (.leaf (33, (.bipush 12, 35, 0), 0))))))
set_option maxRecDepth 100000 in
def mt_201_1 : Lean.RArray mLf :=
  .branch 46 (.branch 41 (.branch 38 (.branch 37 (.leaf (35, (.bipush 8, 37, 0), 0)) (.leaf (37, (.iload_n 1, 38, 0), 0))) (.branch 39 (.leaf (38, (.imul, 39, 0), 0)) (.branch 40 (.leaf (39, (.iadd, 40, 0), 0)) (.leaf (40, (.iconst 1, 41, 0), 0))))) (.branch 43 (.branch 42 (.leaf (41, (.iadd, 42, 0), 0)) (.leaf (42, (.iload_n 3, 43, 0), 0))) (.branch 44 (.leaf (43, (.iadd, 44, 0), 0)) (.branch 45 (.leaf (44, (.iload_n 3, 45, 0), 0)) (.leaf (45, (.iload_n 2, 46, 0), 0)))))) (.branch 55 (.branch 50 (.branch 49 (.leaf (46, (.if_icmp .ge 12, 49, 58), 0)) (.leaf (49, (.aload_n 0, 50, 0), 0))) (.branch 53 (.leaf (50, (.getfield 33, 53, 1216), 1186)) (.branch 54 (.leaf (53, (.iload_n 3, 54, 0), 0)) (.leaf (54, (.iaload, 55, 0), 0))))) (.branch 60 (.branch 58 (.leaf (55, (.goto 4, 58, 59), 0)) (.branch 59 (.leaf (58, (.iconst 0, 59, 0), 0)) (.leaf (59, (.iastore, 60, 0), 0)))) (.branch 63 (.leaf (60, (.iinc 3 1, 63, 0), 0)) (.branch 66 (.leaf (63, (.goto (-40), 66, 23), 0)) (.leaf (66, (.return_, 67, 0), 0))))))
/-- DeckBenchModel.laysDeck(II)V -/
def mt_201 : Lean.RArray mLf :=
  .branch 35 (mt_201_0) (mt_201_1)
set_option maxRecDepth 100000 in
/-- DeckBenchModel.takesDeck(I)V -/
def mt_202 : Lean.RArray mLf :=
  .branch 15 (.branch 4 (.branch 2 (.branch 1 (.leaf (0, (.iconst 0, 1, 0), 0)) (.leaf (1, (.istore_n 2, 2, 0), 0))) (.branch 3 (.leaf (2, (.iload_n 2, 3, 0), 0)) (.leaf (3, (.aload_n 0, 4, 0), 0)))) (.branch 8 (.branch 5 (.leaf (4, (.iload_n 1, 5, 0), 0)) (.leaf (5, (.invokevirtual 209, 8, 197), 1431))) (.branch 11 (.leaf (8, (.if_icmp .ge 21, 11, 29), 0)) (.branch 12 (.leaf (11, (.aload_n 0, 12, 0), 0)) (.leaf (12, (.getfield 33, 15, 1216), 1186)))))) (.branch 19 (.branch 17 (.branch 16 (.leaf (15, (.iload_n 2, 16, 0), 0)) (.leaf (16, (.aload_n 0, 17, 0), 0))) (.branch 18 (.leaf (17, (.iload_n 1, 18, 0), 0)) (.leaf (18, (.iload_n 2, 19, 0), 0)))) (.branch 23 (.branch 22 (.leaf (19, (.invokevirtual 216, 22, 198), 1439)) (.leaf (22, (.iastore, 23, 0), 0))) (.branch 26 (.leaf (23, (.iinc 2 1, 26, 0), 0)) (.branch 29 (.leaf (26, (.goto (-24), 29, 2), 0)) (.leaf (29, (.return_, 30, 0), 0))))))
set_option maxRecDepth 100000 in
/-- DeckBenchModel.deals(II[I)V -/
def mt_203 : Lean.RArray mLf :=
  .branch 16 (.branch 9 (.branch 3 (.branch 1 (.leaf (0, (.iconst 0, 1, 0), 0)) (.leaf (1, (.istore 4, 3, 0), 0))) (.branch 5 (.leaf (3, (.iload 4, 5, 0), 0)) (.branch 6 (.leaf (5, (.iload_n 1, 6, 0), 0)) (.leaf (6, (.if_icmp .ge 27, 9, 33), 0))))) (.branch 13 (.branch 10 (.leaf (9, (.aload_n 3, 10, 0), 0)) (.branch 12 (.leaf (10, (.iload 4, 12, 0), 0)) (.leaf (12, (.aload_n 0, 13, 0), 0)))) (.branch 14 (.leaf (13, (.iload_n 1, 14, 0), 0)) (.branch 15 (.leaf (14, (.iconst 1, 15, 0), 0)) (.leaf (15, (.isub, 16, 0), 0)))))) (.branch 27 (.branch 20 (.branch 17 (.leaf (16, (.iload_n 1, 17, 0), 0)) (.branch 18 (.leaf (17, (.iload_n 2, 18, 0), 0)) (.leaf (18, (.iload 4, 20, 0), 0)))) (.branch 23 (.leaf (20, (.invokestatic 219, 23, 174), 1390)) (.branch 26 (.leaf (23, (.invokevirtual 115, 26, 172), 1330)) (.leaf (26, (.iastore, 27, 0), 0))))) (.branch 34 (.branch 30 (.leaf (27, (.iinc 4 1, 30, 0), 0)) (.branch 33 (.leaf (30, (.goto (-27), 33, 3), 0)) (.leaf (33, (.aload_n 3, 34, 0), 0)))) (.branch 35 (.leaf (34, (.iload_n 1, 35, 0), 0)) (.branch 38 (.leaf (35, (.invokestatic 212, 38, 200), 1347)) (.leaf (38, (.return_, 39, 0), 0))))))
set_option maxRecDepth 100000 in
def mt_204_0 : Lean.RArray mLf :=
  .branch 24 (.branch 11 (.branch 6 (.branch 1 (.leaf (0, (.aload_n 0, 1, 0), 0)) (.branch 4 (.leaf (1, (.getfield 196, 4, 1203), 1173)) (.leaf (4, (.bipush 10, 6, 0), 0)))) (.branch 9 (.leaf (6, (.if_icmp .ne 43, 9, 49), 0)) (.branch 10 (.leaf (9, (.iconst 0, 10, 0), 0)) (.leaf (10, (.istore_n 1, 11, 0), 0))))) (.branch 18 (.branch 12 (.leaf (11, (.iload_n 1, 12, 0), 0)) (.branch 15 (.leaf (12, (.sipush 324, 15, 0), 0)) (.leaf (15, (.if_icmp .ge 24, 18, 39), 0)))) (.branch 22 (.branch 19 (.leaf (18, (.aload_n 0, 19, 0), 0)) (.leaf (19, (.getfield 16, 22, 1202), 1172))) (.branch 23 (.leaf (22, (.iload_n 1, 23, 0), 0)) (.leaf (23, (.aload_n 0, 24, 0), 0)))))) (.branch 36 (.branch 30 (.branch 27 (.leaf (24, (.getfield 16, 27, 1202), 1172)) (.branch 28 (.leaf (27, (.iload_n 1, 28, 0), 0)) (.leaf (28, (.bipush 36, 30, 0), 0)))) (.branch 32 (.branch 31 (.leaf (30, (.iadd, 31, 0), 0)) (.leaf (31, (.iaload, 32, 0), 0))) (.branch 33 (.leaf (32, (.iastore, 33, 0), 0)) (.leaf (33, (.iinc 1 1, 36, 0), 0))))) (.branch 41 (.branch 39 (.leaf (36, (.goto (-25), 39, 11), 0)) (.branch 40 (.leaf (39, (.aload_n 0, 40, 0), 0)) (.leaf (40, (.dup, 41, 0), 0)))) (.branch 45 (.branch 44 (.leaf (41, (.getfield 196, 44, 1203), 1173)) (.leaf (44, (.iconst 1, 45, 0), 0))) (.branch 46 (.leaf (45, (.isub, 46, 0), 0)) (.leaf (46, (.putfield 196, 49, 1203), 1173))))))
set_option maxRecDepth 100000 in
def mt_204_1 : Lean.RArray mLf :=
  .branch 70 (.branch 58 (.branch 52 (.branch 50 (.leaf (49, (.iconst 0, 50, 0), 0)) (.branch 51 (.leaf (50, (.istore_n 1, 51, 0), 0)) (.leaf (51, (.iload_n 1, 52, 0), 0)))) (.branch 54 (.leaf (52, (.bipush 36, 54, 0), 0)) (.branch 57 (.leaf (54, (.if_icmp .ge 29, 57, 83), 0)) (.leaf (57, (.aload_n 0, 58, 0), 0))))) (.branch 64 (.branch 61 (.leaf (58, (.getfield 16, 61, 1202), 1172)) (.branch 63 (.leaf (61, (.bipush 36, 63, 0), 0)) (.leaf (63, (.aload_n 0, 64, 0), 0)))) (.branch 68 (.branch 67 (.leaf (64, (.getfield 196, 67, 1203), 1173)) (.leaf (67, (.imul, 68, 0), 0))) (.branch 69 (.leaf (68, (.iload_n 1, 69, 0), 0)) (.leaf (69, (.iadd, 70, 0), 0)))))) (.branch 83 (.branch 75 (.branch 71 (.leaf (70, (.aload_n 0, 71, 0), 0)) (.branch 74 (.leaf (71, (.getfield 7, 74, 1200), 1170)) (.leaf (74, (.iload_n 1, 75, 0), 0)))) (.branch 77 (.branch 76 (.leaf (75, (.iaload, 76, 0), 0)) (.leaf (76, (.iastore, 77, 0), 0))) (.branch 80 (.leaf (77, (.iinc 1 1, 80, 0), 0)) (.leaf (80, (.goto (-29), 83, 51), 0))))) (.branch 88 (.branch 84 (.leaf (83, (.aload_n 0, 84, 0), 0)) (.branch 85 (.leaf (84, (.dup, 85, 0), 0)) (.leaf (85, (.getfield 196, 88, 1203), 1173)))) (.branch 90 (.branch 89 (.leaf (88, (.iconst 1, 89, 0), 0)) (.leaf (89, (.iadd, 90, 0), 0))) (.branch 93 (.leaf (90, (.putfield 196, 93, 1203), 1173)) (.leaf (93, (.return_, 94, 0), 0))))))
/-- DeckBenchModel.remembers()V -/
def mt_204 : Lean.RArray mLf :=
  .branch 49 (mt_204_0) (mt_204_1)
set_option maxRecDepth 100000 in
def mt_205_0 : Lean.RArray mLf :=
  .branch 21 (.branch 9 (.branch 2 (.branch 1 (.leaf (0, (.aload_n 0, 1, 0), 0)) (.leaf (1, (.iconst 0, 2, 0), 0))) (.branch 5 (.leaf (2, (.putfield 76, 5, 1204), 1174)) (.branch 6 (.leaf (5, (.iload_n 1, 6, 0), 0)) (.leaf (6, (.invokestatic 222, 9, 191), 1358))))) (.branch 14 (.branch 12 (.leaf (9, (.ifCond .eq 26, 12, 35), 0)) (.branch 13 (.leaf (12, (.aload_n 0, 13, 0), 0)) (.leaf (13, (.iload_n 1, 14, 0), 0)))) (.branch 15 (.leaf (14, (.iload_n 2, 15, 0), 0)) (.branch 18 (.leaf (15, (.invokevirtual 225, 18, 195), 1362)) (.leaf (18, (.ifCond .eq 17, 21, 35), 0)))))) (.branch 30 (.branch 23 (.branch 22 (.leaf (21, (.aload_n 0, 22, 0), 0)) (.leaf (22, (.iload_n 1, 23, 0), 0))) (.branch 24 (.leaf (23, (.iload_n 3, 24, 0), 0)) (.branch 27 (.leaf (24, (.invokevirtual 225, 27, 195), 1362)) (.leaf (27, (.ifCond .eq 8, 30, 35), 0))))) (.branch 35 (.branch 31 (.leaf (30, (.iload_n 2, 31, 0), 0)) (.branch 32 (.leaf (31, (.iload_n 3, 32, 0), 0)) (.leaf (32, (.if_icmp .ne 6, 35, 38), 0)))) (.branch 37 (.leaf (35, (.bipush (-2), 37, 0), 0)) (.branch 38 (.leaf (37, (.ireturn, 38, 0), 0)) (.leaf (38, (.aload_n 0, 39, 0), 0))))))
set_option maxRecDepth 100000 in
def mt_205_1 : Lean.RArray mLf :=
  .branch 54 (.branch 48 (.branch 43 (.branch 42 (.leaf (39, (.invokevirtual 229, 42, 204), 1370)) (.leaf (42, (.aload_n 0, 43, 0), 0))) (.branch 46 (.leaf (43, (.getfield 7, 46, 1200), 1170)) (.branch 47 (.leaf (46, (.iconst 2, 47, 0), 0)) (.leaf (47, (.iload_n 1, 48, 0), 0))))) (.branch 51 (.branch 49 (.leaf (48, (.imul, 49, 0), 0)) (.branch 50 (.leaf (49, (.iconst 1, 50, 0), 0)) (.leaf (50, (.iadd, 51, 0), 0)))) (.branch 52 (.leaf (51, (.dup2, 52, 0), 0)) (.branch 53 (.leaf (52, (.iaload, 53, 0), 0)) (.leaf (53, (.iconst 1, 54, 0), 0)))))) (.branch 61 (.branch 56 (.branch 55 (.leaf (54, (.iload_n 2, 55, 0), 0)) (.leaf (55, (.iload_n 3, 56, 0), 0))) (.branch 59 (.leaf (56, (.invokestatic 79, 59, 166), 1319)) (.branch 60 (.leaf (59, (.ishl, 60, 0), 0)) (.leaf (60, (.ixor, 61, 0), 0))))) (.branch 64 (.branch 62 (.leaf (61, (.iastore, 62, 0), 0)) (.branch 63 (.leaf (62, (.aload_n 0, 63, 0), 0)) (.leaf (63, (.iload_n 1, 64, 0), 0)))) (.branch 67 (.leaf (64, (.invokevirtual 204, 67, 193), 1374)) (.branch 70 (.leaf (67, (.invokestatic 232, 70, 168), 1378)) (.leaf (70, (.ireturn, 71, 0), 0))))))
/-- DeckBenchModel.join(III)I -/
def mt_205 : Lean.RArray mLf :=
  .branch 39 (mt_205_0) (mt_205_1)
set_option maxRecDepth 100000 in
def mt_206_0 : Lean.RArray mLf :=
  .branch 22 (.branch 12 (.branch 5 (.branch 1 (.leaf (0, (.aload_n 0, 1, 0), 0)) (.branch 2 (.leaf (1, (.iconst 0, 2, 0), 0)) (.leaf (2, (.putfield 76, 5, 1204), 1174)))) (.branch 6 (.leaf (5, (.iload_n 1, 6, 0), 0)) (.branch 9 (.leaf (6, (.invokestatic 222, 9, 191), 1358)) (.leaf (9, (.ifCond .ne 6, 12, 15), 0))))) (.branch 16 (.branch 14 (.leaf (12, (.bipush (-2), 14, 0), 0)) (.branch 15 (.leaf (14, (.ireturn, 15, 0), 0)) (.leaf (15, (.aload_n 0, 16, 0), 0)))) (.branch 20 (.branch 17 (.leaf (16, (.iload_n 1, 17, 0), 0)) (.leaf (17, (.invokevirtual 201, 20, 192), 1366))) (.branch 21 (.leaf (20, (.istore_n 3, 21, 0), 0)) (.leaf (21, (.iload_n 2, 22, 0), 0)))))) (.branch 29 (.branch 25 (.branch 23 (.leaf (22, (.i2l, 23, 0), 0)) (.branch 24 (.leaf (23, (.lconst 0, 24, 0), 0)) (.leaf (24, (.iconst 1, 25, 0), 0)))) (.branch 27 (.branch 26 (.leaf (25, (.iload_n 3, 26, 0), 0)) (.leaf (26, (.ishl, 27, 0), 0))) (.branch 28 (.leaf (27, (.iconst 1, 28, 0), 0)) (.leaf (28, (.isub, 29, 0), 0))))) (.branch 36 (.branch 30 (.leaf (29, (.i2l, 30, 0), 0)) (.branch 33 (.leaf (30, (.invokestatic 134, 33, 165), 1272)) (.leaf (33, (.ifCond .ne 6, 36, 39), 0)))) (.branch 39 (.branch 38 (.leaf (36, (.bipush (-3), 38, 0), 0)) (.leaf (38, (.ireturn, 39, 0), 0))) (.branch 40 (.leaf (39, (.iload_n 3, 40, 0), 0)) (.leaf (40, (.bipush 7, 42, 0), 0))))))
set_option maxRecDepth 100000 in
def mt_206_1 : Lean.RArray mLf :=
  .branch 63 (.branch 54 (.branch 48 (.branch 45 (.leaf (42, (.if_icmp .ne 6, 45, 48), 0)) (.branch 47 (.leaf (45, (.bipush (-4), 47, 0), 0)) (.leaf (47, (.ireturn, 48, 0), 0)))) (.branch 52 (.branch 49 (.leaf (48, (.aload_n 0, 49, 0), 0)) (.leaf (49, (.invokevirtual 229, 52, 204), 1370))) (.branch 53 (.leaf (52, (.aload_n 0, 53, 0), 0)) (.leaf (53, (.iload_n 1, 54, 0), 0))))) (.branch 57 (.branch 55 (.leaf (54, (.iload_n 3, 55, 0), 0)) (.branch 56 (.leaf (55, (.iconst 1, 56, 0), 0)) (.leaf (56, (.iadd, 57, 0), 0)))) (.branch 59 (.branch 58 (.leaf (57, (.aload_n 0, 58, 0), 0)) (.leaf (58, (.iload_n 1, 59, 0), 0))) (.branch 62 (.leaf (59, (.invokevirtual 204, 62, 193), 1374)) (.leaf (62, (.iload_n 2, 63, 0), 0)))))) (.branch 70 (.branch 66 (.branch 64 (.leaf (63, (.iload_n 3, 64, 0), 0)) (.branch 65 (.leaf (64, (.iload_n 3, 65, 0), 0)) (.leaf (65, (.iconst 1, 66, 0), 0)))) (.branch 68 (.branch 67 (.leaf (66, (.isub, 67, 0), 0)) (.leaf (67, (.imul, 68, 0), 0))) (.branch 69 (.leaf (68, (.iconst 2, 69, 0), 0)) (.leaf (69, (.idiv, 70, 0), 0))))) (.branch 75 (.branch 71 (.leaf (70, (.ishl, 71, 0), 0)) (.branch 72 (.leaf (71, (.ior, 72, 0), 0)) (.leaf (72, (.invokevirtual 182, 75, 196), 1322)))) (.branch 77 (.branch 76 (.leaf (75, (.iload_n 3, 76, 0), 0)) (.leaf (76, (.iconst 1, 77, 0), 0))) (.branch 78 (.leaf (77, (.iadd, 78, 0), 0)) (.leaf (78, (.ireturn, 79, 0), 0))))))
/-- DeckBenchModel.grow(II)I -/
def mt_206 : Lean.RArray mLf :=
  .branch 42 (mt_206_0) (mt_206_1)
set_option maxRecDepth 100000 in
/-- DeckBenchModel.drop(II)I -/
def mt_207 : Lean.RArray mLf :=
  .branch 30 (.branch 14 (.branch 6 (.branch 2 (.branch 1 (.leaf (0, (.aload_n 0, 1, 0), 0)) (.leaf (1, (.iconst 0, 2, 0), 0))) (.branch 5 (.leaf (2, (.putfield 76, 5, 1204), 1174)) (.leaf (5, (.iload_n 1, 6, 0), 0)))) (.branch 12 (.branch 9 (.leaf (6, (.invokestatic 222, 9, 191), 1358)) (.leaf (9, (.ifCond .eq 12, 12, 21), 0))) (.branch 13 (.leaf (12, (.aload_n 0, 13, 0), 0)) (.leaf (13, (.iload_n 1, 14, 0), 0))))) (.branch 23 (.branch 18 (.branch 15 (.leaf (14, (.iload_n 2, 15, 0), 0)) (.leaf (15, (.invokevirtual 225, 18, 195), 1362))) (.branch 21 (.leaf (18, (.ifCond .ne 6, 21, 24), 0)) (.leaf (21, (.bipush (-2), 23, 0), 0)))) (.branch 25 (.branch 24 (.leaf (23, (.ireturn, 24, 0), 0)) (.leaf (24, (.aload_n 0, 25, 0), 0))) (.branch 28 (.leaf (25, (.invokevirtual 229, 28, 204), 1370)) (.branch 29 (.leaf (28, (.aload_n 0, 29, 0), 0)) (.leaf (29, (.iload_n 1, 30, 0), 0))))))) (.branch 43 (.branch 36 (.branch 32 (.branch 31 (.leaf (30, (.aload_n 0, 31, 0), 0)) (.leaf (31, (.iload_n 1, 32, 0), 0))) (.branch 35 (.leaf (32, (.invokevirtual 201, 35, 192), 1366)) (.leaf (35, (.iconst 1, 36, 0), 0)))) (.branch 38 (.branch 37 (.leaf (36, (.isub, 37, 0), 0)) (.leaf (37, (.aload_n 0, 38, 0), 0))) (.branch 39 (.leaf (38, (.iload_n 1, 39, 0), 0)) (.branch 42 (.leaf (39, (.invokevirtual 201, 42, 192), 1366)) (.leaf (42, (.aload_n 0, 43, 0), 0)))))) (.branch 51 (.branch 47 (.branch 44 (.leaf (43, (.iload_n 1, 44, 0), 0)) (.leaf (44, (.invokevirtual 204, 47, 193), 1374))) (.branch 48 (.leaf (47, (.iload_n 2, 48, 0), 0)) (.leaf (48, (.invokestatic 219, 51, 174), 1390)))) (.branch 55 (.branch 54 (.leaf (51, (.invokevirtual 182, 54, 196), 1322)) (.leaf (54, (.aload_n 0, 55, 0), 0))) (.branch 56 (.leaf (55, (.iload_n 1, 56, 0), 0)) (.branch 59 (.leaf (56, (.invokevirtual 201, 59, 192), 1366)) (.leaf (59, (.ireturn, 60, 0), 0)))))))
set_option maxRecDepth 100000 in
/-- DeckBenchModel.turn(II)I -/
def mt_208 : Lean.RArray mLf :=
  .branch 30 (.branch 16 (.branch 6 (.branch 2 (.branch 1 (.leaf (0, (.aload_n 0, 1, 0), 0)) (.leaf (1, (.iconst 0, 2, 0), 0))) (.branch 5 (.leaf (2, (.putfield 76, 5, 1204), 1174)) (.leaf (5, (.iload_n 1, 6, 0), 0)))) (.branch 12 (.branch 9 (.leaf (6, (.invokestatic 222, 9, 191), 1358)) (.leaf (9, (.ifCond .eq 10, 12, 19), 0))) (.branch 13 (.leaf (12, (.iload_n 2, 13, 0), 0)) (.leaf (13, (.invokestatic 222, 16, 191), 1358))))) (.branch 23 (.branch 21 (.branch 19 (.leaf (16, (.ifCond .ne 6, 19, 22), 0)) (.leaf (19, (.bipush (-2), 21, 0), 0))) (.branch 22 (.leaf (21, (.ireturn, 22, 0), 0)) (.leaf (22, (.aload_n 0, 23, 0), 0)))) (.branch 27 (.branch 26 (.leaf (23, (.invokevirtual 229, 26, 204), 1370)) (.leaf (26, (.aload_n 0, 27, 0), 0))) (.branch 28 (.leaf (27, (.iload_n 2, 28, 0), 0)) (.branch 29 (.leaf (28, (.aload_n 0, 29, 0), 0)) (.leaf (29, (.iload_n 1, 30, 0), 0))))))) (.branch 46 (.branch 38 (.branch 34 (.branch 33 (.leaf (30, (.invokevirtual 201, 33, 192), 1366)) (.leaf (33, (.aload_n 0, 34, 0), 0))) (.branch 35 (.leaf (34, (.iload_n 1, 35, 0), 0)) (.leaf (35, (.invokevirtual 201, 38, 192), 1366)))) (.branch 42 (.branch 41 (.leaf (38, (.invokestatic 235, 41, 169), 1400)) (.leaf (41, (.aload_n 0, 42, 0), 0))) (.branch 43 (.leaf (42, (.iload_n 1, 43, 0), 0)) (.leaf (43, (.invokevirtual 204, 46, 193), 1374))))) (.branch 52 (.branch 48 (.branch 47 (.leaf (46, (.iconst (-1), 47, 0), 0)) (.leaf (47, (.ixor, 48, 0), 0))) (.branch 49 (.leaf (48, (.iand, 49, 0), 0)) (.leaf (49, (.invokevirtual 182, 52, 196), 1322)))) (.branch 54 (.branch 53 (.leaf (52, (.aload_n 0, 53, 0), 0)) (.leaf (53, (.iload_n 2, 54, 0), 0))) (.branch 57 (.leaf (54, (.invokevirtual 204, 57, 193), 1374)) (.branch 60 (.leaf (57, (.invokestatic 232, 60, 168), 1378)) (.leaf (60, (.ireturn, 61, 0), 0)))))))
set_option maxRecDepth 100000 in
/-- DeckBenchModel.put(II)I -/
def mt_209 : Lean.RArray mLf :=
  .branch 26 (.branch 12 (.branch 5 (.branch 1 (.leaf (0, (.aload_n 0, 1, 0), 0)) (.branch 2 (.leaf (1, (.iconst 0, 2, 0), 0)) (.leaf (2, (.putfield 76, 5, 1204), 1174)))) (.branch 6 (.leaf (5, (.iload_n 1, 6, 0), 0)) (.branch 9 (.leaf (6, (.invokestatic 222, 9, 191), 1358)) (.leaf (9, (.ifCond .eq 10, 12, 19), 0))))) (.branch 19 (.branch 13 (.leaf (12, (.iload_n 2, 13, 0), 0)) (.branch 16 (.leaf (13, (.invokestatic 222, 16, 191), 1358)) (.leaf (16, (.ifCond .ne 6, 19, 22), 0)))) (.branch 22 (.branch 21 (.leaf (19, (.bipush (-2), 21, 0), 0)) (.leaf (21, (.ireturn, 22, 0), 0))) (.branch 23 (.leaf (22, (.aload_n 0, 23, 0), 0)) (.leaf (23, (.invokevirtual 229, 26, 204), 1370)))))) (.branch 34 (.branch 29 (.branch 27 (.leaf (26, (.aload_n 0, 27, 0), 0)) (.branch 28 (.leaf (27, (.iload_n 2, 28, 0), 0)) (.leaf (28, (.aload_n 0, 29, 0), 0)))) (.branch 30 (.leaf (29, (.iload_n 1, 30, 0), 0)) (.branch 33 (.leaf (30, (.invokevirtual 201, 33, 192), 1366)) (.leaf (33, (.aload_n 0, 34, 0), 0))))) (.branch 41 (.branch 35 (.leaf (34, (.iload_n 1, 35, 0), 0)) (.branch 38 (.leaf (35, (.invokevirtual 238, 38, 194), 1407)) (.leaf (38, (.invokevirtual 182, 41, 196), 1322)))) (.branch 43 (.branch 42 (.leaf (41, (.aload_n 0, 42, 0), 0)) (.leaf (42, (.iload_n 2, 43, 0), 0))) (.branch 46 (.leaf (43, (.invokevirtual 201, 46, 192), 1366)) (.leaf (46, (.ireturn, 47, 0), 0))))))
set_option maxRecDepth 100000 in
/-- DeckBenchModel.unlike([II)I -/
def mt_210 : Lean.RArray mLf :=
  .branch 18 (.branch 9 (.branch 3 (.branch 1 (.leaf (0, (.iconst 0, 1, 0), 0)) (.branch 2 (.leaf (1, (.istore_n 2, 2, 0), 0)) (.leaf (2, (.iconst 0, 3, 0), 0)))) (.branch 5 (.branch 4 (.leaf (3, (.istore_n 3, 4, 0), 0)) (.leaf (4, (.iload_n 3, 5, 0), 0))) (.branch 6 (.leaf (5, (.iload_n 1, 6, 0), 0)) (.leaf (6, (.if_icmp .ge 32, 9, 38), 0))))) (.branch 14 (.branch 10 (.leaf (9, (.iload_n 2, 10, 0), 0)) (.branch 11 (.leaf (10, (.iload_n 3, 11, 0), 0)) (.leaf (11, (.ifCond .eq 14, 14, 25), 0)))) (.branch 16 (.branch 15 (.leaf (14, (.aload_n 0, 15, 0), 0)) (.leaf (15, (.iload_n 3, 16, 0), 0))) (.branch 17 (.leaf (16, (.iaload, 17, 0), 0)) (.leaf (17, (.aload_n 0, 18, 0), 0)))))) (.branch 29 (.branch 21 (.branch 19 (.leaf (18, (.iload_n 3, 19, 0), 0)) (.branch 20 (.leaf (19, (.iconst 1, 20, 0), 0)) (.leaf (20, (.isub, 21, 0), 0)))) (.branch 25 (.branch 22 (.leaf (21, (.iaload, 22, 0), 0)) (.leaf (22, (.if_icmp .eq 7, 25, 29), 0))) (.branch 26 (.leaf (25, (.iconst 1, 26, 0), 0)) (.leaf (26, (.goto 4, 29, 30), 0))))) (.branch 32 (.branch 30 (.leaf (29, (.iconst 0, 30, 0), 0)) (.branch 31 (.leaf (30, (.iadd, 31, 0), 0)) (.leaf (31, (.istore_n 2, 32, 0), 0)))) (.branch 38 (.branch 35 (.leaf (32, (.iinc 3 1, 35, 0), 0)) (.leaf (35, (.goto (-31), 38, 4), 0))) (.branch 39 (.leaf (38, (.iload_n 2, 39, 0), 0)) (.leaf (39, (.ireturn, 40, 0), 0))))))
set_option maxRecDepth 100000 in
def mt_211_0 : Lean.RArray mLf :=
  .branch 21 (.branch 9 (.branch 2 (.branch 1 (.leaf (0, (.aload_n 0, 1, 0), 0)) (.leaf (1, (.iconst 0, 2, 0), 0))) (.branch 5 (.leaf (2, (.putfield 76, 5, 1204), 1174)) (.branch 6 (.leaf (5, (.iload_n 1, 6, 0), 0)) (.leaf (6, (.invokestatic 222, 9, 191), 1358))))) (.branch 14 (.branch 12 (.leaf (9, (.ifCond .eq 15, 12, 24), 0)) (.branch 13 (.leaf (12, (.iload_n 2, 13, 0), 0)) (.leaf (13, (.i2l, 14, 0), 0)))) (.branch 15 (.leaf (14, (.lconst 0, 15, 0), 0)) (.branch 18 (.leaf (15, (.ldc2_w 207, 18, 2), 1415)) (.leaf (18, (.invokestatic 134, 21, 165), 1272)))))) (.branch 32 (.branch 27 (.branch 24 (.leaf (21, (.ifCond .ne 6, 24, 27), 0)) (.branch 26 (.leaf (24, (.bipush (-2), 26, 0), 0)) (.leaf (26, (.ireturn, 27, 0), 0)))) (.branch 28 (.leaf (27, (.aload_n 0, 28, 0), 0)) (.branch 29 (.leaf (28, (.iload_n 1, 29, 0), 0)) (.leaf (29, (.invokevirtual 201, 32, 192), 1366))))) (.branch 38 (.branch 33 (.leaf (32, (.iconst 2, 33, 0), 0)) (.branch 36 (.leaf (33, (.if_icmp .ge 6, 36, 39), 0)) (.leaf (36, (.bipush (-5), 38, 0), 0)))) (.branch 39 (.leaf (38, (.ireturn, 39, 0), 0)) (.branch 40 (.leaf (39, (.aload_n 0, 40, 0), 0)) (.leaf (40, (.invokevirtual 229, 43, 204), 1370))))))
set_option maxRecDepth 100000 in
def mt_211_1 : Lean.RArray mLf :=
  .branch 62 (.branch 50 (.branch 45 (.branch 44 (.leaf (43, (.aload_n 0, 44, 0), 0)) (.leaf (44, (.aload_n 0, 45, 0), 0))) (.branch 46 (.leaf (45, (.iload_n 1, 46, 0), 0)) (.branch 49 (.leaf (46, (.invokevirtual 201, 49, 192), 1366)) (.leaf (49, (.aload_n 0, 50, 0), 0))))) (.branch 55 (.branch 51 (.leaf (50, (.iload_n 1, 51, 0), 0)) (.branch 54 (.leaf (51, (.invokevirtual 204, 54, 193), 1374)) (.leaf (54, (.aload_n 0, 55, 0), 0)))) (.branch 58 (.leaf (55, (.getfield 33, 58, 1216), 1186)) (.branch 61 (.leaf (58, (.invokevirtual 241, 61, 203), 1416)) (.leaf (61, (.aload_n 0, 62, 0), 0)))))) (.branch 72 (.branch 65 (.branch 63 (.leaf (62, (.iload_n 2, 63, 0), 0)) (.branch 64 (.leaf (63, (.aload_n 0, 64, 0), 0)) (.leaf (64, (.iload_n 1, 65, 0), 0)))) (.branch 68 (.leaf (65, (.invokevirtual 201, 68, 192), 1366)) (.branch 71 (.leaf (68, (.invokevirtual 190, 71, 201), 1343)) (.leaf (71, (.aload_n 0, 72, 0), 0))))) (.branch 77 (.branch 75 (.leaf (72, (.getfield 33, 75, 1216), 1186)) (.branch 76 (.leaf (75, (.aload_n 0, 76, 0), 0)) (.leaf (76, (.iload_n 1, 77, 0), 0)))) (.branch 80 (.leaf (77, (.invokevirtual 201, 80, 192), 1366)) (.branch 83 (.leaf (80, (.invokestatic 245, 83, 210), 1420)) (.leaf (83, (.ireturn, 84, 0), 0))))))
/-- DeckBenchModel.deal(II)I -/
def mt_211 : Lean.RArray mLf :=
  .branch 43 (mt_211_0) (mt_211_1)
set_option maxRecDepth 100000 in
def mt_212_0 : Lean.RArray mLf :=
  .branch 25 (.branch 11 (.branch 5 (.branch 1 (.leaf (0, (.aload_n 0, 1, 0), 0)) (.branch 2 (.leaf (1, (.iconst 0, 2, 0), 0)) (.leaf (2, (.putfield 76, 5, 1204), 1174)))) (.branch 7 (.branch 6 (.leaf (5, (.aload_n 0, 6, 0), 0)) (.leaf (6, (.iload_n 1, 7, 0), 0))) (.branch 8 (.leaf (7, (.iload_n 2, 8, 0), 0)) (.leaf (8, (.invokevirtual 249, 11, 199), 1427))))) (.branch 18 (.branch 14 (.leaf (11, (.ifCond .eq 10, 14, 21), 0)) (.branch 15 (.leaf (14, (.iload_n 3, 15, 0), 0)) (.leaf (15, (.invokestatic 222, 18, 191), 1358)))) (.branch 23 (.branch 21 (.leaf (18, (.ifCond .ne 6, 21, 24), 0)) (.leaf (21, (.bipush (-2), 23, 0), 0))) (.branch 24 (.leaf (23, (.ireturn, 24, 0), 0)) (.leaf (24, (.aload_n 0, 25, 0), 0)))))) (.branch 36 (.branch 30 (.branch 26 (.leaf (25, (.iload_n 3, 26, 0), 0)) (.branch 29 (.leaf (26, (.invokevirtual 201, 29, 192), 1366)) (.leaf (29, (.aload_n 0, 30, 0), 0)))) (.branch 34 (.branch 31 (.leaf (30, (.iload_n 1, 31, 0), 0)) (.leaf (31, (.invokevirtual 209, 34, 197), 1431))) (.branch 35 (.leaf (34, (.iconst 1, 35, 0), 0)) (.leaf (35, (.isub, 36, 0), 0))))) (.branch 42 (.branch 39 (.leaf (36, (.if_icmp .eq 6, 39, 42), 0)) (.branch 41 (.leaf (39, (.bipush (-5), 41, 0), 0)) (.leaf (41, (.ireturn, 42, 0), 0)))) (.branch 46 (.branch 43 (.leaf (42, (.aload_n 0, 43, 0), 0)) (.leaf (43, (.invokevirtual 229, 46, 204), 1370))) (.branch 47 (.leaf (46, (.aload_n 0, 47, 0), 0)) (.leaf (47, (.iload_n 3, 48, 0), 0))))))
set_option maxRecDepth 100000 in
def mt_212_1 : Lean.RArray mLf :=
  .branch 70 (.branch 62 (.branch 54 (.branch 51 (.leaf (48, (.invokevirtual 238, 51, 194), 1407)) (.branch 53 (.leaf (51, (.istore 4, 53, 0), 0)) (.leaf (53, (.aload_n 0, 54, 0), 0)))) (.branch 58 (.branch 55 (.leaf (54, (.iload_n 1, 55, 0), 0)) (.leaf (55, (.invokevirtual 252, 58, 202), 1435))) (.branch 59 (.leaf (58, (.aload_n 0, 59, 0), 0)) (.leaf (59, (.getfield 33, 62, 1216), 1186))))) (.branch 66 (.branch 63 (.leaf (62, (.iload_n 2, 63, 0), 0)) (.branch 65 (.leaf (63, (.iload 4, 65, 0), 0)) (.leaf (65, (.iastore, 66, 0), 0)))) (.branch 68 (.branch 67 (.leaf (66, (.aload_n 0, 67, 0), 0)) (.leaf (67, (.iload_n 1, 68, 0), 0))) (.branch 69 (.leaf (68, (.aload_n 0, 69, 0), 0)) (.leaf (69, (.iload_n 1, 70, 0), 0)))))) (.branch 83 (.branch 77 (.branch 73 (.leaf (70, (.invokevirtual 209, 73, 197), 1431)) (.branch 76 (.leaf (73, (.invokevirtual 190, 76, 201), 1343)) (.leaf (76, (.iconst 0, 77, 0), 0)))) (.branch 80 (.branch 79 (.leaf (77, (.istore 5, 79, 0), 0)) (.leaf (79, (.aload_n 0, 80, 0), 0))) (.branch 81 (.leaf (80, (.iload_n 1, 81, 0), 0)) (.leaf (81, (.iload 5, 83, 0), 0))))) (.branch 91 (.branch 86 (.leaf (83, (.invokevirtual 216, 86, 198), 1439)) (.branch 88 (.leaf (86, (.iload 4, 88, 0), 0)) (.leaf (88, (.if_icmp .eq 9, 91, 97), 0)))) (.branch 97 (.branch 94 (.leaf (91, (.iinc 5 1, 94, 0), 0)) (.leaf (94, (.goto (-15), 97, 79), 0))) (.branch 99 (.leaf (97, (.iload 5, 99, 0), 0)) (.leaf (99, (.ireturn, 100, 0), 0))))))
/-- DeckBenchModel.replace(III)I -/
def mt_212 : Lean.RArray mLf :=
  .branch 48 (mt_212_0) (mt_212_1)
set_option maxRecDepth 100000 in
def mt_213_0 : Lean.RArray mLf :=
  .branch 20 (.branch 7 (.branch 2 (.branch 1 (.leaf (0, (.aload_n 0, 1, 0), 0)) (.leaf (1, (.iconst 0, 2, 0), 0))) (.branch 5 (.leaf (2, (.putfield 76, 5, 1204), 1174)) (.branch 6 (.leaf (5, (.aload_n 0, 6, 0), 0)) (.leaf (6, (.iload_n 1, 7, 0), 0))))) (.branch 13 (.branch 10 (.leaf (7, (.invokevirtual 209, 10, 197), 1431)) (.leaf (10, (.ifCond .eq 10, 13, 20), 0))) (.branch 14 (.leaf (13, (.iload_n 2, 14, 0), 0)) (.branch 17 (.leaf (14, (.invokestatic 222, 17, 191), 1358)) (.leaf (17, (.ifCond .ne 6, 20, 23), 0)))))) (.branch 28 (.branch 23 (.branch 22 (.leaf (20, (.bipush (-2), 22, 0), 0)) (.leaf (22, (.ireturn, 23, 0), 0))) (.branch 24 (.leaf (23, (.aload_n 0, 24, 0), 0)) (.branch 25 (.leaf (24, (.iload_n 1, 25, 0), 0)) (.leaf (25, (.invokevirtual 252, 28, 202), 1435))))) (.branch 30 (.branch 29 (.leaf (28, (.aload_n 0, 29, 0), 0)) (.leaf (29, (.iload_n 1, 30, 0), 0))) (.branch 33 (.leaf (30, (.invokevirtual 209, 33, 197), 1431)) (.branch 34 (.leaf (33, (.istore_n 3, 34, 0), 0)) (.leaf (34, (.aload_n 0, 35, 0), 0))))))
set_option maxRecDepth 100000 in
def mt_213_1 : Lean.RArray mLf :=
  .branch 52 (.branch 45 (.branch 39 (.branch 36 (.leaf (35, (.iload_n 3, 36, 0), 0)) (.leaf (36, (.invokevirtual 255, 39, 247), 1447))) (.branch 42 (.leaf (39, (.ifCond .ne 6, 42, 45), 0)) (.branch 44 (.leaf (42, (.bipush (-5), 44, 0), 0)) (.leaf (44, (.ireturn, 45, 0), 0))))) (.branch 49 (.branch 46 (.leaf (45, (.aload_n 0, 46, 0), 0)) (.leaf (46, (.invokevirtual 229, 49, 204), 1370))) (.branch 50 (.leaf (49, (.aload_n 0, 50, 0), 0)) (.branch 51 (.leaf (50, (.iload_n 2, 51, 0), 0)) (.leaf (51, (.iload_n 3, 52, 0), 0)))))) (.branch 61 (.branch 56 (.branch 53 (.leaf (52, (.aload_n 0, 53, 0), 0)) (.leaf (53, (.getfield 70, 56, 1229), 1199))) (.branch 57 (.leaf (56, (.iconst 0, 57, 0), 0)) (.branch 58 (.leaf (57, (.iaload, 58, 0), 0)) (.leaf (58, (.invokevirtual 182, 61, 196), 1322))))) (.branch 66 (.branch 62 (.leaf (61, (.aload_n 0, 62, 0), 0)) (.branch 65 (.leaf (62, (.getfield 70, 65, 1229), 1199)) (.leaf (65, (.iconst 0, 66, 0), 0)))) (.branch 67 (.leaf (66, (.iaload, 67, 0), 0)) (.branch 70 (.leaf (67, (.invokestatic 232, 70, 168), 1378)) (.leaf (70, (.ireturn, 71, 0), 0))))))
/-- DeckBenchModel.solve(II)I -/
def mt_213 : Lean.RArray mLf :=
  .branch 35 (mt_213_0) (mt_213_1)
set_option maxRecDepth 100000 in
/-- DeckBenchModel.undo()I -/
def mt_214 : Lean.RArray mLf :=
  .branch 30 (.branch 16 (.branch 6 (.branch 2 (.branch 1 (.leaf (0, (.aload_n 0, 1, 0), 0)) (.leaf (1, (.iconst 0, 2, 0), 0))) (.branch 5 (.leaf (2, (.putfield 76, 5, 1204), 1174)) (.leaf (5, (.aload_n 0, 6, 0), 0)))) (.branch 12 (.branch 9 (.leaf (6, (.getfield 196, 9, 1203), 1173)) (.leaf (9, (.ifCond .ne 6, 12, 15), 0))) (.branch 14 (.leaf (12, (.bipush (-5), 14, 0), 0)) (.branch 15 (.leaf (14, (.ireturn, 15, 0), 0)) (.leaf (15, (.aload_n 0, 16, 0), 0)))))) (.branch 22 (.branch 20 (.branch 17 (.leaf (16, (.dup, 17, 0), 0)) (.leaf (17, (.getfield 196, 20, 1203), 1173))) (.branch 21 (.leaf (20, (.iconst 1, 21, 0), 0)) (.leaf (21, (.isub, 22, 0), 0)))) (.branch 26 (.branch 25 (.leaf (22, (.putfield 196, 25, 1203), 1173)) (.leaf (25, (.iconst 0, 26, 0), 0))) (.branch 27 (.leaf (26, (.istore_n 1, 27, 0), 0)) (.branch 28 (.leaf (27, (.iload_n 1, 28, 0), 0)) (.leaf (28, (.bipush 36, 30, 0), 0))))))) (.branch 48 (.branch 38 (.branch 34 (.branch 33 (.leaf (30, (.if_icmp .ge 29, 33, 59), 0)) (.leaf (33, (.aload_n 0, 34, 0), 0))) (.branch 37 (.leaf (34, (.getfield 7, 37, 1200), 1170)) (.leaf (37, (.iload_n 1, 38, 0), 0)))) (.branch 42 (.branch 39 (.leaf (38, (.aload_n 0, 39, 0), 0)) (.leaf (39, (.getfield 16, 42, 1202), 1172))) (.branch 44 (.leaf (42, (.bipush 36, 44, 0), 0)) (.branch 45 (.leaf (44, (.aload_n 0, 45, 0), 0)) (.leaf (45, (.getfield 196, 48, 1203), 1173)))))) (.branch 53 (.branch 50 (.branch 49 (.leaf (48, (.imul, 49, 0), 0)) (.leaf (49, (.iload_n 1, 50, 0), 0))) (.branch 51 (.leaf (50, (.iadd, 51, 0), 0)) (.branch 52 (.leaf (51, (.iaload, 52, 0), 0)) (.leaf (52, (.iastore, 53, 0), 0))))) (.branch 59 (.branch 56 (.leaf (53, (.iinc 1 1, 56, 0), 0)) (.leaf (56, (.goto (-29), 59, 27), 0))) (.branch 60 (.leaf (59, (.aload_n 0, 60, 0), 0)) (.branch 63 (.leaf (60, (.getfield 196, 63, 1203), 1173)) (.leaf (63, (.ireturn, 64, 0), 0)))))))
set_option maxRecDepth 100000 in
/-- DeckBenchModel.orbits(I)I -/
def mt_215 : Lean.RArray mLf :=
  .branch 15 (.branch 5 (.branch 2 (.branch 1 (.leaf (0, (.iconst 0, 1, 0), 0)) (.leaf (1, (.istore_n 2, 2, 0), 0))) (.branch 3 (.leaf (2, (.iconst 0, 3, 0), 0)) (.branch 4 (.leaf (3, (.istore_n 3, 4, 0), 0)) (.leaf (4, (.iload_n 3, 5, 0), 0))))) (.branch 10 (.branch 6 (.leaf (5, (.iload_n 1, 6, 0), 0)) (.branch 9 (.leaf (6, (.if_icmp .ge 27, 9, 33), 0)) (.leaf (9, (.iload_n 2, 10, 0), 0)))) (.branch 11 (.leaf (10, (.aload_n 0, 11, 0), 0)) (.branch 14 (.leaf (11, (.getfield 22, 14, 1208), 1178)) (.leaf (14, (.iload_n 3, 15, 0), 0)))))) (.branch 25 (.branch 20 (.branch 16 (.leaf (15, (.iaload, 16, 0), 0)) (.branch 17 (.leaf (16, (.iload_n 3, 17, 0), 0)) (.leaf (17, (.if_icmp .ne 7, 20, 24), 0)))) (.branch 21 (.leaf (20, (.iconst 1, 21, 0), 0)) (.branch 24 (.leaf (21, (.goto 4, 24, 25), 0)) (.leaf (24, (.iconst 0, 25, 0), 0))))) (.branch 30 (.branch 26 (.leaf (25, (.iadd, 26, 0), 0)) (.branch 27 (.leaf (26, (.istore_n 2, 27, 0), 0)) (.leaf (27, (.iinc 3 1, 30, 0), 0)))) (.branch 33 (.leaf (30, (.goto (-26), 33, 4), 0)) (.branch 34 (.leaf (33, (.iload_n 2, 34, 0), 0)) (.leaf (34, (.ireturn, 35, 0), 0))))))
set_option maxRecDepth 100000 in
def mt_216_0 : Lean.RArray mLf :=
  .branch 24 (.branch 12 (.branch 6 (.branch 2 (.branch 1 (.leaf (0, (.aload_n 0, 1, 0), 0)) (.leaf (1, (.iload_n 1, 2, 0), 0))) (.branch 5 (.leaf (2, (.invokevirtual 201, 5, 192), 1366)) (.leaf (5, (.istore_n 2, 6, 0), 0)))) (.branch 8 (.branch 7 (.leaf (6, (.iload_n 2, 7, 0), 0)) (.leaf (7, (.iconst 2, 8, 0), 0))) (.branch 11 (.leaf (8, (.if_icmp .ge 5, 11, 13), 0)) (.leaf (11, (.iconst 0, 12, 0), 0))))) (.branch 16 (.branch 14 (.branch 13 (.leaf (12, (.ireturn, 13, 0), 0)) (.leaf (13, (.aload_n 0, 14, 0), 0))) (.branch 15 (.leaf (14, (.iload_n 2, 15, 0), 0)) (.leaf (15, (.aload_n 0, 16, 0), 0)))) (.branch 20 (.branch 17 (.leaf (16, (.iload_n 1, 17, 0), 0)) (.leaf (17, (.invokevirtual 204, 20, 193), 1374))) (.branch 23 (.leaf (20, (.invokevirtual 104, 23, 171), 1334)) (.leaf (23, (.iconst 0, 24, 0), 0)))))) (.branch 36 (.branch 30 (.branch 26 (.branch 25 (.leaf (24, (.istore_n 3, 25, 0), 0)) (.leaf (25, (.iload_n 3, 26, 0), 0))) (.branch 27 (.leaf (26, (.iload_n 2, 27, 0), 0)) (.leaf (27, (.if_icmp .ge 21, 30, 48), 0)))) (.branch 34 (.branch 31 (.leaf (30, (.aload_n 0, 31, 0), 0)) (.leaf (31, (.getfield 39, 34, 1218), 1188))) (.branch 35 (.leaf (34, (.iload_n 3, 35, 0), 0)) (.leaf (35, (.aload_n 0, 36, 0), 0))))) (.branch 42 (.branch 40 (.branch 39 (.leaf (36, (.getfield 22, 39, 1208), 1178)) (.leaf (39, (.iload_n 3, 40, 0), 0))) (.branch 41 (.leaf (40, (.iaload, 41, 0), 0)) (.leaf (41, (.iastore, 42, 0), 0)))) (.branch 48 (.branch 45 (.leaf (42, (.iinc 3 1, 45, 0), 0)) (.leaf (45, (.goto (-20), 48, 25), 0))) (.branch 49 (.leaf (48, (.iconst 0, 49, 0), 0)) (.leaf (49, (.istore_n 3, 50, 0), 0))))))
set_option maxRecDepth 100000 in
def mt_216_1 : Lean.RArray mLf :=
  .branch 74 (.branch 62 (.branch 56 (.branch 52 (.branch 51 (.leaf (50, (.iload_n 3, 51, 0), 0)) (.leaf (51, (.iload_n 2, 52, 0), 0))) (.branch 55 (.leaf (52, (.if_icmp .ge 32, 55, 84), 0)) (.leaf (55, (.aload_n 0, 56, 0), 0)))) (.branch 60 (.branch 59 (.leaf (56, (.getfield 36, 59, 1217), 1187)) (.leaf (59, (.iload_n 3, 60, 0), 0))) (.branch 61 (.leaf (60, (.aload_n 0, 61, 0), 0)) (.leaf (61, (.iload_n 2, 62, 0), 0))))) (.branch 66 (.branch 64 (.branch 63 (.leaf (62, (.iconst 1, 63, 0), 0)) (.leaf (63, (.isub, 64, 0), 0))) (.branch 65 (.leaf (64, (.iload_n 2, 65, 0), 0)) (.leaf (65, (.aload_n 0, 66, 0), 0)))) (.branch 70 (.branch 67 (.leaf (66, (.iload_n 1, 67, 0), 0)) (.leaf (67, (.invokevirtual 204, 70, 193), 1374))) (.branch 71 (.leaf (70, (.iload_n 3, 71, 0), 0)) (.leaf (71, (.invokestatic 219, 74, 174), 1390)))))) (.branch 89 (.branch 84 (.branch 78 (.branch 77 (.leaf (74, (.invokevirtual 115, 77, 172), 1330)) (.leaf (77, (.iastore, 78, 0), 0))) (.branch 81 (.leaf (78, (.iinc 3 1, 81, 0), 0)) (.leaf (81, (.goto (-31), 84, 50), 0)))) (.branch 86 (.branch 85 (.leaf (84, (.iconst 0, 85, 0), 0)) (.leaf (85, (.istore_n 3, 86, 0), 0))) (.branch 87 (.leaf (86, (.iconst 0, 87, 0), 0)) (.leaf (87, (.istore 4, 89, 0), 0))))) (.branch 97 (.branch 92 (.branch 91 (.leaf (89, (.iload 4, 91, 0), 0)) (.leaf (91, (.iload_n 2, 92, 0), 0))) (.branch 95 (.leaf (92, (.if_icmp .ge 69, 95, 161), 0)) (.leaf (95, (.iload 4, 97, 0), 0)))) (.branch 99 (.branch 98 (.leaf (97, (.iconst 1, 98, 0), 0)) (.leaf (98, (.iadd, 99, 0), 0))) (.branch 101 (.leaf (99, (.istore 5, 101, 0), 0)) (.leaf (101, (.iload 5, 103, 0), 0))))))
set_option maxRecDepth 100000 in
def mt_216_2 : Lean.RArray mLf :=
  .branch 132 (.branch 116 (.branch 109 (.branch 107 (.branch 104 (.leaf (103, (.iload_n 2, 104, 0), 0)) (.leaf (104, (.if_icmp .ge 51, 107, 155), 0))) (.branch 108 (.leaf (107, (.iload_n 3, 108, 0), 0)) (.leaf (108, (.aload_n 0, 109, 0), 0)))) (.branch 114 (.branch 112 (.leaf (109, (.getfield 36, 112, 1217), 1187)) (.leaf (112, (.iload 4, 114, 0), 0))) (.branch 115 (.leaf (114, (.iaload, 115, 0), 0)) (.leaf (115, (.aload_n 0, 116, 0), 0))))) (.branch 125 (.branch 121 (.branch 119 (.leaf (116, (.getfield 36, 119, 1217), 1187)) (.leaf (119, (.iload 5, 121, 0), 0))) (.branch 122 (.leaf (121, (.iaload, 122, 0), 0)) (.leaf (122, (.if_icmp .ne 24, 125, 146), 0)))) (.branch 129 (.branch 126 (.leaf (125, (.aload_n 0, 126, 0), 0)) (.leaf (126, (.getfield 39, 129, 1218), 1188))) (.branch 131 (.leaf (129, (.iload 4, 131, 0), 0)) (.leaf (131, (.iaload, 132, 0), 0)))))) (.branch 147 (.branch 139 (.branch 136 (.branch 133 (.leaf (132, (.aload_n 0, 133, 0), 0)) (.leaf (133, (.getfield 39, 136, 1218), 1188))) (.branch 138 (.leaf (136, (.iload 5, 138, 0), 0)) (.leaf (138, (.iaload, 139, 0), 0)))) (.branch 143 (.branch 142 (.leaf (139, (.if_icmp .eq 7, 142, 146), 0)) (.leaf (142, (.iconst 1, 143, 0), 0))) (.branch 146 (.leaf (143, (.goto 4, 146, 147), 0)) (.leaf (146, (.iconst 0, 147, 0), 0))))) (.branch 155 (.branch 149 (.branch 148 (.leaf (147, (.iadd, 148, 0), 0)) (.leaf (148, (.istore_n 3, 149, 0), 0))) (.branch 152 (.leaf (149, (.iinc 5 1, 152, 0), 0)) (.leaf (152, (.goto (-51), 155, 101), 0)))) (.branch 161 (.branch 158 (.leaf (155, (.iinc 4 1, 158, 0), 0)) (.leaf (158, (.goto (-69), 161, 89), 0))) (.branch 162 (.leaf (161, (.iload_n 3, 162, 0), 0)) (.leaf (162, (.ireturn, 163, 0), 0))))))
/-- DeckBenchModel.twins(I)I -/
def mt_216 : Lean.RArray mLf :=
  .branch 50 (mt_216_0) (.branch 103 (mt_216_1) (mt_216_2))
set_option maxRecDepth 100000 in
def mt_217_0 : Lean.RArray mLf :=
  .branch 28 (.branch 13 (.branch 5 (.branch 1 (.leaf (0, (.aload_n 0, 1, 0), 0)) (.branch 2 (.leaf (1, (.iconst 0, 2, 0), 0)) (.leaf (2, (.putfield 76, 5, 1204), 1174)))) (.branch 9 (.branch 6 (.leaf (5, (.iload_n 1, 6, 0), 0)) (.leaf (6, (.invokestatic 222, 9, 191), 1358))) (.branch 12 (.leaf (9, (.ifCond .eq 15, 12, 24), 0)) (.leaf (12, (.iload_n 2, 13, 0), 0))))) (.branch 21 (.branch 15 (.branch 14 (.leaf (13, (.i2l, 14, 0), 0)) (.leaf (14, (.lconst 0, 15, 0), 0))) (.branch 18 (.leaf (15, (.ldc2_w 258, 18, 7), 1459)) (.leaf (18, (.invokestatic 134, 21, 165), 1272)))) (.branch 26 (.branch 24 (.leaf (21, (.ifCond .ne 6, 24, 27), 0)) (.leaf (24, (.bipush (-2), 26, 0), 0))) (.branch 27 (.leaf (26, (.ireturn, 27, 0), 0)) (.leaf (27, (.aload_n 0, 28, 0), 0)))))) (.branch 83 (.branch 34 (.branch 32 (.branch 29 (.leaf (28, (.iload_n 1, 29, 0), 0)) (.leaf (29, (.invokevirtual 201, 32, 192), 1366))) (.branch 33 (.leaf (32, (.istore_n 3, 33, 0), 0)) (.leaf (33, (.iload_n 2, 34, 0), 0)))) (.branch 81 (.branch 80 (.leaf (34, (.tableswitch 79 0 7 #[46, 48, 57, 79, 79, 63, 79, 73], 80, 0), 0)) (.leaf (80, (.iload_n 3, 81, 0), 0))) (.branch 82 (.leaf (81, (.ireturn, 82, 0), 0)) (.leaf (82, (.aload_n 0, 83, 0), 0))))) (.branch 91 (.branch 87 (.branch 84 (.leaf (83, (.iload_n 1, 84, 0), 0)) (.leaf (84, (.invokevirtual 204, 87, 193), 1374))) (.branch 90 (.leaf (87, (.invokestatic 232, 90, 168), 1378)) (.leaf (90, (.ireturn, 91, 0), 0)))) (.branch 93 (.branch 92 (.leaf (91, (.aload_n 0, 92, 0), 0)) (.leaf (92, (.iload_n 1, 93, 0), 0))) (.branch 96 (.leaf (93, (.invokevirtual 204, 96, 193), 1374)) (.leaf (96, (.ireturn, 97, 0), 0))))))
set_option maxRecDepth 100000 in
def mt_217_1 : Lean.RArray mLf :=
  .branch 123 (.branch 109 (.branch 103 (.branch 99 (.branch 98 (.leaf (97, (.iload_n 3, 98, 0), 0)) (.leaf (98, (.aload_n 0, 99, 0), 0))) (.branch 100 (.leaf (99, (.iload_n 1, 100, 0), 0)) (.leaf (100, (.invokevirtual 204, 103, 193), 1374)))) (.branch 107 (.branch 106 (.leaf (103, (.invokestatic 260, 106, 176), 1460)) (.leaf (106, (.ireturn, 107, 0), 0))) (.branch 108 (.leaf (107, (.aload_n 0, 108, 0), 0)) (.leaf (108, (.iload_n 1, 109, 0), 0))))) (.branch 115 (.branch 113 (.branch 112 (.leaf (109, (.invokevirtual 263, 112, 216), 1466)) (.leaf (112, (.ireturn, 113, 0), 0))) (.branch 114 (.leaf (113, (.aload_n 0, 114, 0), 0)) (.leaf (114, (.iload_n 3, 115, 0), 0)))) (.branch 117 (.branch 116 (.leaf (115, (.aload_n 0, 116, 0), 0)) (.leaf (116, (.iload_n 1, 117, 0), 0))) (.branch 120 (.leaf (117, (.invokevirtual 204, 120, 193), 1374)) (.leaf (120, (.invokevirtual 104, 123, 171), 1334)))))) (.branch 137 (.branch 129 (.branch 125 (.branch 124 (.leaf (123, (.iload_n 2, 124, 0), 0)) (.leaf (124, (.iconst 3, 125, 0), 0))) (.branch 128 (.leaf (125, (.if_icmp .ne 10, 128, 135), 0)) (.leaf (128, (.aload_n 0, 129, 0), 0)))) (.branch 135 (.branch 132 (.leaf (129, (.getfield 89, 132, 1206), 1176)) (.leaf (132, (.goto 20, 135, 152), 0))) (.branch 136 (.leaf (135, (.iload_n 2, 136, 0), 0)) (.leaf (136, (.iconst 4, 137, 0), 0))))) (.branch 147 (.branch 141 (.branch 140 (.leaf (137, (.if_icmp .ne 10, 140, 147), 0)) (.leaf (140, (.aload_n 0, 141, 0), 0))) (.branch 144 (.leaf (141, (.getfield 92, 144, 1207), 1177)) (.leaf (144, (.goto 8, 147, 152), 0)))) (.branch 149 (.branch 148 (.leaf (147, (.aload_n 0, 148, 0), 0)) (.leaf (148, (.iload_n 3, 149, 0), 0))) (.branch 152 (.leaf (149, (.invokevirtual 266, 152, 215), 1470)) (.leaf (152, (.ireturn, 153, 0), 0))))))
/-- DeckBenchModel.net(II)I -/
def mt_217 : Lean.RArray mLf :=
  .branch 97 (mt_217_0) (mt_217_1)
set_option maxRecDepth 100000 in
def mt_218_0 : Lean.RArray mLf :=
  .branch 35 (.branch 15 (.branch 6 (.branch 2 (.branch 1 (.leaf (0, (.aload_n 0, 1, 0), 0)) (.leaf (1, (.iconst 0, 2, 0), 0))) (.branch 5 (.leaf (2, (.putfield 76, 5, 1204), 1174)) (.leaf (5, (.iload_n 1, 6, 0), 0)))) (.branch 12 (.branch 9 (.leaf (6, (.invokestatic 222, 9, 191), 1358)) (.leaf (9, (.ifCond .eq 24, 12, 33), 0))) (.branch 13 (.leaf (12, (.aload_n 0, 13, 0), 0)) (.branch 14 (.leaf (13, (.iload_n 1, 14, 0), 0)) (.leaf (14, (.iload_n 2, 15, 0), 0)))))) (.branch 23 (.branch 21 (.branch 18 (.leaf (15, (.invokevirtual 225, 18, 195), 1362)) (.leaf (18, (.ifCond .eq 15, 21, 33), 0))) (.branch 22 (.leaf (21, (.iload_n 3, 22, 0), 0)) (.leaf (22, (.i2l, 23, 0), 0)))) (.branch 27 (.branch 24 (.leaf (23, (.lconst 0, 24, 0), 0)) (.leaf (24, (.ldc2_w 269, 27, 3), 1478))) (.branch 30 (.leaf (27, (.invokestatic 134, 30, 165), 1272)) (.branch 33 (.leaf (30, (.ifCond .ne 6, 33, 36), 0)) (.leaf (33, (.bipush (-2), 35, 0), 0))))))) (.branch 50 (.branch 41 (.branch 37 (.branch 36 (.leaf (35, (.ireturn, 36, 0), 0)) (.leaf (36, (.aload_n 0, 37, 0), 0))) (.branch 38 (.leaf (37, (.iload_n 1, 38, 0), 0)) (.leaf (38, (.invokevirtual 201, 41, 192), 1366)))) (.branch 45 (.branch 43 (.leaf (41, (.istore 4, 43, 0), 0)) (.leaf (43, (.iload 4, 45, 0), 0))) (.branch 46 (.leaf (45, (.aload_n 0, 46, 0), 0)) (.branch 47 (.leaf (46, (.iload_n 1, 47, 0), 0)) (.leaf (47, (.invokevirtual 204, 50, 193), 1374)))))) (.branch 57 (.branch 54 (.branch 51 (.leaf (50, (.iload_n 2, 51, 0), 0)) (.leaf (51, (.invokestatic 112, 54, 175), 1463))) (.branch 56 (.leaf (54, (.istore 5, 56, 0), 0)) (.leaf (56, (.iload_n 3, 57, 0), 0)))) (.branch 61 (.branch 58 (.leaf (57, (.iconst 2, 58, 0), 0)) (.leaf (58, (.if_icmp .ge 19, 61, 77), 0))) (.branch 62 (.leaf (61, (.iload_n 3, 62, 0), 0)) (.branch 63 (.leaf (62, (.iconst 1, 63, 0), 0)) (.leaf (63, (.if_icmp .ne 8, 66, 71), 0)))))))
set_option maxRecDepth 100000 in
def mt_218_1 : Lean.RArray mLf :=
  .branch 99 (.branch 84 (.branch 76 (.branch 71 (.branch 68 (.leaf (66, (.iload 5, 68, 0), 0)) (.leaf (68, (.goto 8, 71, 76), 0))) (.branch 73 (.leaf (71, (.iload 5, 73, 0), 0)) (.leaf (73, (.invokestatic 83, 76, 255), 1381)))) (.branch 78 (.branch 77 (.leaf (76, (.ireturn, 77, 0), 0)) (.leaf (77, (.iload_n 3, 78, 0), 0))) (.branch 79 (.leaf (78, (.iconst 3, 79, 0), 0)) (.branch 82 (.leaf (79, (.if_icmp .ne 33, 82, 112), 0)) (.leaf (82, (.iload 4, 84, 0), 0)))))) (.branch 92 (.branch 88 (.branch 85 (.leaf (84, (.iconst 1, 85, 0), 0)) (.leaf (85, (.if_icmp .ne 7, 88, 92), 0))) (.branch 89 (.leaf (88, (.iconst (-1), 89, 0), 0)) (.leaf (89, (.goto 22, 92, 111), 0)))) (.branch 95 (.branch 93 (.leaf (92, (.aload_n 0, 93, 0), 0)) (.leaf (93, (.iload 4, 95, 0), 0))) (.branch 96 (.leaf (95, (.iconst 1, 96, 0), 0)) (.branch 97 (.leaf (96, (.isub, 97, 0), 0)) (.leaf (97, (.iload 4, 99, 0), 0))))))) (.branch 115 (.branch 105 (.branch 101 (.branch 100 (.leaf (99, (.aload_n 0, 100, 0), 0)) (.leaf (100, (.iload_n 1, 101, 0), 0))) (.branch 104 (.leaf (101, (.invokevirtual 204, 104, 193), 1374)) (.leaf (104, (.iload_n 2, 105, 0), 0)))) (.branch 111 (.branch 108 (.leaf (105, (.invokestatic 219, 108, 174), 1390)) (.leaf (108, (.invokevirtual 115, 111, 172), 1330))) (.branch 112 (.leaf (111, (.ireturn, 112, 0), 0)) (.branch 113 (.leaf (112, (.aload_n 0, 113, 0), 0)) (.leaf (113, (.iload 4, 115, 0), 0)))))) (.branch 123 (.branch 117 (.branch 116 (.leaf (115, (.aload_n 0, 116, 0), 0)) (.leaf (116, (.iload_n 1, 117, 0), 0))) (.branch 120 (.leaf (117, (.invokevirtual 204, 120, 193), 1374)) (.leaf (120, (.invokevirtual 104, 123, 171), 1334)))) (.branch 127 (.branch 124 (.leaf (123, (.aload_n 0, 124, 0), 0)) (.leaf (124, (.getfield 22, 127, 1208), 1178))) (.branch 128 (.leaf (127, (.iload_n 2, 128, 0), 0)) (.branch 129 (.leaf (128, (.iaload, 129, 0), 0)) (.leaf (129, (.ireturn, 130, 0), 0)))))))
/-- DeckBenchModel.node(III)I -/
def mt_218 : Lean.RArray mLf :=
  .branch 66 (mt_218_0) (mt_218_1)
set_option maxRecDepth 100000 in
/-- DeckBenchModel.alike(II)I -/
def mt_219 : Lean.RArray mLf :=
  .branch 27 (.branch 13 (.branch 5 (.branch 1 (.leaf (0, (.aload_n 0, 1, 0), 0)) (.branch 2 (.leaf (1, (.iconst 0, 2, 0), 0)) (.leaf (2, (.putfield 76, 5, 1204), 1174)))) (.branch 9 (.branch 6 (.leaf (5, (.iload_n 1, 6, 0), 0)) (.leaf (6, (.invokestatic 222, 9, 191), 1358))) (.branch 12 (.leaf (9, (.ifCond .eq 10, 12, 19), 0)) (.leaf (12, (.iload_n 2, 13, 0), 0))))) (.branch 21 (.branch 16 (.leaf (13, (.invokestatic 222, 16, 191), 1358)) (.branch 19 (.leaf (16, (.ifCond .ne 6, 19, 22), 0)) (.leaf (19, (.bipush (-2), 21, 0), 0)))) (.branch 23 (.branch 22 (.leaf (21, (.ireturn, 22, 0), 0)) (.leaf (22, (.aload_n 0, 23, 0), 0))) (.branch 24 (.leaf (23, (.iload_n 1, 24, 0), 0)) (.leaf (24, (.invokevirtual 201, 27, 192), 1366)))))) (.branch 40 (.branch 32 (.branch 28 (.leaf (27, (.aload_n 0, 28, 0), 0)) (.branch 29 (.leaf (28, (.iload_n 2, 29, 0), 0)) (.leaf (29, (.invokevirtual 201, 32, 192), 1366)))) (.branch 36 (.branch 35 (.leaf (32, (.if_icmp .ne 20, 35, 52), 0)) (.leaf (35, (.aload_n 0, 36, 0), 0))) (.branch 37 (.leaf (36, (.iload_n 1, 37, 0), 0)) (.leaf (37, (.invokevirtual 238, 40, 194), 1407))))) (.branch 48 (.branch 42 (.branch 41 (.leaf (40, (.aload_n 0, 41, 0), 0)) (.leaf (41, (.iload_n 2, 42, 0), 0))) (.branch 45 (.leaf (42, (.invokevirtual 238, 45, 194), 1407)) (.leaf (45, (.if_icmp .ne 7, 48, 52), 0)))) (.branch 52 (.branch 49 (.leaf (48, (.iconst 1, 49, 0), 0)) (.leaf (49, (.goto 4, 52, 53), 0))) (.branch 53 (.leaf (52, (.iconst 0, 53, 0), 0)) (.leaf (53, (.ireturn, 54, 0), 0))))))
set_option maxRecDepth 100000 in
/-- DeckBenchModel.parts(II)I -/
def mt_220 : Lean.RArray mLf :=
  .branch 24 (.branch 12 (.branch 5 (.branch 1 (.leaf (0, (.aload_n 0, 1, 0), 0)) (.branch 2 (.leaf (1, (.iconst 0, 2, 0), 0)) (.leaf (2, (.putfield 76, 5, 1204), 1174)))) (.branch 6 (.leaf (5, (.iload_n 1, 6, 0), 0)) (.branch 9 (.leaf (6, (.invokestatic 222, 9, 191), 1358)) (.leaf (9, (.ifCond .eq 10, 12, 19), 0))))) (.branch 19 (.branch 13 (.leaf (12, (.iload_n 2, 13, 0), 0)) (.branch 16 (.leaf (13, (.invokestatic 222, 16, 191), 1358)) (.leaf (16, (.ifCond .ne 6, 19, 22), 0)))) (.branch 22 (.branch 21 (.leaf (19, (.bipush (-2), 21, 0), 0)) (.leaf (21, (.ireturn, 22, 0), 0))) (.branch 23 (.leaf (22, (.aload_n 0, 23, 0), 0)) (.leaf (23, (.aload_n 0, 24, 0), 0)))))) (.branch 34 (.branch 29 (.branch 25 (.leaf (24, (.iload_n 1, 25, 0), 0)) (.branch 28 (.leaf (25, (.invokevirtual 201, 28, 192), 1366)) (.leaf (28, (.aload_n 0, 29, 0), 0)))) (.branch 30 (.leaf (29, (.iload_n 1, 30, 0), 0)) (.branch 33 (.leaf (30, (.invokevirtual 238, 33, 194), 1407)) (.leaf (33, (.aload_n 0, 34, 0), 0))))) (.branch 39 (.branch 35 (.leaf (34, (.iload_n 2, 35, 0), 0)) (.branch 38 (.leaf (35, (.invokevirtual 201, 38, 192), 1366)) (.leaf (38, (.aload_n 0, 39, 0), 0)))) (.branch 43 (.branch 40 (.leaf (39, (.iload_n 2, 40, 0), 0)) (.leaf (40, (.invokevirtual 204, 43, 193), 1374))) (.branch 46 (.leaf (43, (.invokevirtual 271, 46, 177), 1487)) (.leaf (46, (.ireturn, 47, 0), 0))))))
set_option maxRecDepth 100000 in
def mt_221_0 : Lean.RArray mLf :=
  .branch 31 (.branch 15 (.branch 8 (.branch 4 (.branch 1 (.leaf (0, (.aload_n 0, 1, 0), 0)) (.leaf (1, (.getfield 54, 4, 1224), 1194))) (.branch 5 (.leaf (4, (.iload_n 1, 5, 0), 0)) (.leaf (5, (.if_icmp .ne 4, 8, 9), 0)))) (.branch 10 (.branch 9 (.leaf (8, (.return_, 9, 0), 0)) (.leaf (9, (.aload_n 0, 10, 0), 0))) (.branch 11 (.leaf (10, (.iload_n 1, 11, 0), 0)) (.branch 14 (.leaf (11, (.putfield 54, 14, 1224), 1194)) (.leaf (14, (.aload_n 0, 15, 0), 0)))))) (.branch 22 (.branch 19 (.branch 16 (.leaf (15, (.iconst 0, 16, 0), 0)) (.leaf (16, (.putfield 275, 19, 1223), 1193))) (.branch 20 (.leaf (19, (.iconst 0, 20, 0), 0)) (.branch 21 (.leaf (20, (.istore_n 2, 21, 0), 0)) (.leaf (21, (.iload_n 2, 22, 0), 0))))) (.branch 26 (.branch 23 (.leaf (22, (.iload_n 1, 23, 0), 0)) (.leaf (23, (.invokestatic 235, 26, 169), 1400))) (.branch 29 (.leaf (26, (.if_icmp .gt 42, 29, 68), 0)) (.branch 30 (.leaf (29, (.aload_n 0, 30, 0), 0)) (.leaf (30, (.iload_n 1, 31, 0), 0))))))) (.branch 51 (.branch 42 (.branch 35 (.branch 32 (.leaf (31, (.iload_n 2, 32, 0), 0)) (.leaf (32, (.invokevirtual 115, 35, 172), 1330))) (.branch 36 (.leaf (35, (.iload_n 2, 36, 0), 0)) (.branch 39 (.leaf (36, (.if_icmp .eq 6, 39, 42), 0)) (.leaf (39, (.goto 23, 42, 62), 0))))) (.branch 46 (.branch 43 (.leaf (42, (.aload_n 0, 43, 0), 0)) (.leaf (43, (.getfield 42, 46, 1219), 1189))) (.branch 47 (.leaf (46, (.aload_n 0, 47, 0), 0)) (.branch 50 (.leaf (47, (.getfield 275, 50, 1223), 1193)) (.leaf (50, (.iload_n 2, 51, 0), 0)))))) (.branch 58 (.branch 53 (.branch 52 (.leaf (51, (.iastore, 52, 0), 0)) (.leaf (52, (.aload_n 0, 53, 0), 0))) (.branch 54 (.leaf (53, (.dup, 54, 0), 0)) (.branch 57 (.leaf (54, (.getfield 275, 57, 1223), 1193)) (.leaf (57, (.iconst 1, 58, 0), 0))))) (.branch 62 (.branch 59 (.leaf (58, (.iadd, 59, 0), 0)) (.leaf (59, (.putfield 275, 62, 1223), 1193))) (.branch 65 (.leaf (62, (.iinc 2 1, 65, 0), 0)) (.branch 68 (.leaf (65, (.goto (-44), 68, 21), 0)) (.leaf (68, (.iconst 0, 69, 0), 0)))))))
set_option maxRecDepth 100000 in
def mt_221_1 : Lean.RArray mLf :=
  .branch 100 (.branch 84 (.branch 75 (.branch 71 (.branch 70 (.leaf (69, (.istore_n 2, 70, 0), 0)) (.leaf (70, (.iload_n 2, 71, 0), 0))) (.branch 72 (.leaf (71, (.aload_n 0, 72, 0), 0)) (.leaf (72, (.getfield 275, 75, 1223), 1193)))) (.branch 79 (.branch 78 (.leaf (75, (.if_icmp .ge 58, 78, 133), 0)) (.leaf (78, (.iload_n 1, 79, 0), 0))) (.branch 80 (.leaf (79, (.iconst 1, 80, 0), 0)) (.branch 83 (.leaf (80, (.if_icmp .le 53, 83, 133), 0)) (.leaf (83, (.aload_n 0, 84, 0), 0)))))) (.branch 91 (.branch 86 (.branch 85 (.leaf (84, (.iload_n 1, 85, 0), 0)) (.leaf (85, (.aload_n 0, 86, 0), 0))) (.branch 89 (.leaf (86, (.getfield 42, 89, 1219), 1189)) (.branch 90 (.leaf (89, (.iload_n 2, 90, 0), 0)) (.leaf (90, (.iaload, 91, 0), 0))))) (.branch 95 (.branch 92 (.leaf (91, (.aload_n 0, 92, 0), 0)) (.leaf (92, (.getfield 33, 95, 1216), 1186))) (.branch 98 (.leaf (95, (.invokevirtual 241, 98, 203), 1416)) (.branch 99 (.leaf (98, (.iconst 0, 99, 0), 0)) (.leaf (99, (.istore_n 3, 100, 0), 0))))))) (.branch 114 (.branch 109 (.branch 102 (.branch 101 (.leaf (100, (.iload_n 3, 101, 0), 0)) (.leaf (101, (.iload_n 1, 102, 0), 0))) (.branch 105 (.leaf (102, (.if_icmp .ge 25, 105, 127), 0)) (.branch 106 (.leaf (105, (.aload_n 0, 106, 0), 0)) (.leaf (106, (.getfield 45, 109, 1220), 1190))))) (.branch 111 (.branch 110 (.leaf (109, (.iconst 5, 110, 0), 0)) (.leaf (110, (.iload_n 2, 111, 0), 0))) (.branch 112 (.leaf (111, (.imul, 112, 0), 0)) (.branch 113 (.leaf (112, (.iload_n 3, 113, 0), 0)) (.leaf (113, (.iadd, 114, 0), 0)))))) (.branch 121 (.branch 118 (.branch 115 (.leaf (114, (.aload_n 0, 115, 0), 0)) (.leaf (115, (.getfield 33, 118, 1216), 1186))) (.branch 119 (.leaf (118, (.iload_n 3, 119, 0), 0)) (.branch 120 (.leaf (119, (.iaload, 120, 0), 0)) (.leaf (120, (.iastore, 121, 0), 0))))) (.branch 127 (.branch 124 (.leaf (121, (.iinc 3 1, 124, 0), 0)) (.leaf (124, (.goto (-24), 127, 100), 0))) (.branch 130 (.leaf (127, (.iinc 2 1, 130, 0), 0)) (.branch 133 (.leaf (130, (.goto (-60), 133, 70), 0)) (.leaf (133, (.return_, 134, 0), 0)))))))
/-- DeckBenchModel.laysAll(I)V -/
def mt_221 : Lean.RArray mLf :=
  .branch 69 (mt_221_0) (mt_221_1)
set_option maxRecDepth 100000 in
/-- DeckBenchModel.hasAll(III)Z -/
def mt_222 : Lean.RArray mLf :=
  .branch 27 (.branch 14 (.branch 6 (.branch 3 (.branch 1 (.leaf (0, (.iconst 0, 1, 0), 0)) (.leaf (1, (.istore 4, 3, 0), 0))) (.branch 4 (.leaf (3, (.iconst 0, 4, 0), 0)) (.leaf (4, (.istore 5, 6, 0), 0)))) (.branch 9 (.branch 8 (.leaf (6, (.iload 5, 8, 0), 0)) (.leaf (8, (.iload_n 2, 9, 0), 0))) (.branch 12 (.leaf (9, (.if_icmp .ge 39, 12, 48), 0)) (.leaf (12, (.iload 4, 14, 0), 0))))) (.branch 22 (.branch 18 (.branch 15 (.leaf (14, (.iload_n 3, 15, 0), 0)) (.leaf (15, (.if_icmp .ge 33, 18, 48), 0))) (.branch 19 (.leaf (18, (.aload_n 0, 19, 0), 0)) (.leaf (19, (.getfield 45, 22, 1220), 1190)))) (.branch 24 (.branch 23 (.leaf (22, (.iconst 5, 23, 0), 0)) (.leaf (23, (.iload_n 1, 24, 0), 0))) (.branch 25 (.leaf (24, (.imul, 25, 0), 0)) (.leaf (25, (.iload 5, 27, 0), 0)))))) (.branch 42 (.branch 33 (.branch 29 (.branch 28 (.leaf (27, (.iadd, 28, 0), 0)) (.leaf (28, (.iaload, 29, 0), 0))) (.branch 30 (.leaf (29, (.aload_n 0, 30, 0), 0)) (.leaf (30, (.getfield 57, 33, 1225), 1195)))) (.branch 36 (.branch 35 (.leaf (33, (.iload 4, 35, 0), 0)) (.leaf (35, (.iaload, 36, 0), 0))) (.branch 39 (.leaf (36, (.if_icmp .ne 6, 39, 42), 0)) (.leaf (39, (.iinc 4 1, 42, 0), 0))))) (.branch 51 (.branch 48 (.branch 45 (.leaf (42, (.iinc 5 1, 45, 0), 0)) (.leaf (45, (.goto (-39), 48, 6), 0))) (.branch 50 (.leaf (48, (.iload 4, 50, 0), 0)) (.leaf (50, (.iload_n 3, 51, 0), 0)))) (.branch 55 (.branch 54 (.leaf (51, (.if_icmp .ne 7, 54, 58), 0)) (.leaf (54, (.iconst 1, 55, 0), 0))) (.branch 58 (.leaf (55, (.goto 4, 58, 59), 0)) (.branch 59 (.leaf (58, (.iconst 0, 59, 0), 0)) (.leaf (59, (.ireturn, 60, 0), 0)))))))
set_option maxRecDepth 100000 in
def mt_223_0 : Lean.RArray mLf :=
  .branch 18 (.branch 9 (.branch 4 (.branch 1 (.leaf (0, (.iconst 0, 1, 0), 0)) (.branch 3 (.leaf (1, (.istore 4, 3, 0), 0)) (.leaf (3, (.iconst 0, 4, 0), 0)))) (.branch 6 (.leaf (4, (.istore 5, 6, 0), 0)) (.branch 8 (.leaf (6, (.iload 5, 8, 0), 0)) (.leaf (8, (.iload_n 1, 9, 0), 0))))) (.branch 15 (.branch 12 (.leaf (9, (.if_icmp .ge 42, 12, 51), 0)) (.branch 13 (.leaf (12, (.iload_n 3, 13, 0), 0)) (.leaf (13, (.iload 5, 15, 0), 0)))) (.branch 16 (.leaf (15, (.ishr, 16, 0), 0)) (.branch 17 (.leaf (16, (.iconst 1, 17, 0), 0)) (.leaf (17, (.iand, 18, 0), 0)))))) (.branch 31 (.branch 25 (.branch 21 (.leaf (18, (.ifCond .ne 6, 21, 24), 0)) (.branch 24 (.leaf (21, (.goto 24, 24, 45), 0)) (.leaf (24, (.aload_n 0, 25, 0), 0)))) (.branch 28 (.leaf (25, (.getfield 57, 28, 1225), 1195)) (.branch 30 (.leaf (28, (.iload 4, 30, 0), 0)) (.leaf (30, (.aload_n 0, 31, 0), 0))))) (.branch 36 (.branch 34 (.leaf (31, (.getfield 45, 34, 1220), 1190)) (.branch 35 (.leaf (34, (.iconst 5, 35, 0), 0)) (.leaf (35, (.iload_n 2, 36, 0), 0)))) (.branch 39 (.branch 37 (.leaf (36, (.imul, 37, 0), 0)) (.leaf (37, (.iload 5, 39, 0), 0))) (.branch 40 (.leaf (39, (.iadd, 40, 0), 0)) (.leaf (40, (.iaload, 41, 0), 0))))))
set_option maxRecDepth 100000 in
def mt_223_1 : Lean.RArray mLf :=
  .branch 66 (.branch 54 (.branch 48 (.branch 42 (.leaf (41, (.iastore, 42, 0), 0)) (.branch 45 (.leaf (42, (.iinc 4 1, 45, 0), 0)) (.leaf (45, (.iinc 5 1, 48, 0), 0)))) (.branch 51 (.leaf (48, (.goto (-42), 51, 6), 0)) (.branch 52 (.leaf (51, (.iconst 0, 52, 0), 0)) (.leaf (52, (.istore 5, 54, 0), 0))))) (.branch 60 (.branch 56 (.leaf (54, (.iload 5, 56, 0), 0)) (.branch 57 (.leaf (56, (.aload_n 0, 57, 0), 0)) (.leaf (57, (.getfield 275, 60, 1223), 1193)))) (.branch 63 (.leaf (60, (.if_icmp .ge 29, 63, 89), 0)) (.branch 65 (.leaf (63, (.iload 5, 65, 0), 0)) (.leaf (65, (.iload_n 2, 66, 0), 0)))))) (.branch 78 (.branch 72 (.branch 69 (.leaf (66, (.if_icmp .eq 17, 69, 83), 0)) (.branch 70 (.leaf (69, (.aload_n 0, 70, 0), 0)) (.leaf (70, (.iload 5, 72, 0), 0)))) (.branch 73 (.leaf (72, (.iload_n 1, 73, 0), 0)) (.branch 75 (.leaf (73, (.iload 4, 75, 0), 0)) (.leaf (75, (.invokevirtual 278, 78, 222), 1503))))) (.branch 83 (.branch 81 (.leaf (78, (.ifCond .eq 5, 81, 83), 0)) (.branch 82 (.leaf (81, (.iconst 0, 82, 0), 0)) (.leaf (82, (.ireturn, 83, 0), 0)))) (.branch 89 (.branch 86 (.leaf (83, (.iinc 5 1, 86, 0), 0)) (.leaf (86, (.goto (-32), 89, 54), 0))) (.branch 90 (.leaf (89, (.iconst 1, 90, 0), 0)) (.leaf (90, (.ireturn, 91, 0), 0))))))
/-- DeckBenchModel.tells(III)Z -/
def mt_223 : Lean.RArray mLf :=
  .branch 41 (mt_223_0) (mt_223_1)
set_option maxRecDepth 100000 in
def mt_224_0 : Lean.RArray mLf :=
  .branch 26 (.branch 13 (.branch 5 (.branch 1 (.leaf (0, (.aload_n 0, 1, 0), 0)) (.branch 2 (.leaf (1, (.iconst 0, 2, 0), 0)) (.leaf (2, (.putfield 76, 5, 1204), 1174)))) (.branch 9 (.branch 6 (.leaf (5, (.iload_n 1, 6, 0), 0)) (.leaf (6, (.invokestatic 222, 9, 191), 1358))) (.branch 12 (.leaf (9, (.ifCond .eq 13, 12, 22), 0)) (.leaf (12, (.iload_n 2, 13, 0), 0))))) (.branch 19 (.branch 15 (.branch 14 (.leaf (13, (.i2l, 14, 0), 0)) (.leaf (14, (.lconst 0, 15, 0), 0))) (.branch 16 (.leaf (15, (.lconst 1, 16, 0), 0)) (.leaf (16, (.invokestatic 134, 19, 165), 1272)))) (.branch 24 (.branch 22 (.leaf (19, (.ifCond .ne 6, 22, 25), 0)) (.leaf (22, (.bipush (-2), 24, 0), 0))) (.branch 25 (.leaf (24, (.ireturn, 25, 0), 0)) (.leaf (25, (.aload_n 0, 26, 0), 0)))))) (.branch 39 (.branch 31 (.branch 27 (.leaf (26, (.iload_n 1, 27, 0), 0)) (.branch 30 (.leaf (27, (.invokevirtual 201, 30, 192), 1366)) (.leaf (30, (.istore_n 3, 31, 0), 0)))) (.branch 33 (.branch 32 (.leaf (31, (.iload_n 3, 32, 0), 0)) (.leaf (32, (.i2l, 33, 0), 0))) (.branch 36 (.leaf (33, (.ldc2_w 269, 36, 3), 1478)) (.leaf (36, (.ldc2_w 199, 39, 5), 1361))))) (.branch 48 (.branch 45 (.branch 42 (.leaf (39, (.invokestatic 134, 42, 165), 1272)) (.leaf (42, (.ifCond .ne 6, 45, 48), 0))) (.branch 47 (.leaf (45, (.bipush (-5), 47, 0), 0)) (.leaf (47, (.ireturn, 48, 0), 0)))) (.branch 50 (.branch 49 (.leaf (48, (.aload_n 0, 49, 0), 0)) (.leaf (49, (.iload_n 1, 50, 0), 0))) (.branch 53 (.leaf (50, (.invokevirtual 238, 53, 194), 1407)) (.leaf (53, (.istore 4, 55, 0), 0))))))
set_option maxRecDepth 100000 in
def mt_224_1 : Lean.RArray mLf :=
  .branch 84 (.branch 67 (.branch 60 (.branch 56 (.leaf (55, (.aload_n 0, 56, 0), 0)) (.branch 57 (.leaf (56, (.iload_n 3, 57, 0), 0)) (.leaf (57, (.invokevirtual 281, 60, 221), 1495)))) (.branch 63 (.branch 61 (.leaf (60, (.iconst 0, 61, 0), 0)) (.leaf (61, (.istore 5, 63, 0), 0))) (.branch 64 (.leaf (63, (.aload_n 0, 64, 0), 0)) (.leaf (64, (.getfield 42, 67, 1219), 1189))))) (.branch 75 (.branch 70 (.branch 69 (.leaf (67, (.iload 5, 69, 0), 0)) (.leaf (69, (.iaload, 70, 0), 0))) (.branch 72 (.leaf (70, (.iload 4, 72, 0), 0)) (.leaf (72, (.if_icmp .eq 9, 75, 81), 0)))) (.branch 81 (.branch 78 (.leaf (75, (.iinc 5 1, 78, 0), 0)) (.leaf (78, (.goto (-15), 81, 63), 0))) (.branch 82 (.leaf (81, (.iload_n 3, 82, 0), 0)) (.leaf (82, (.istore 6, 84, 0), 0)))))) (.branch 94 (.branch 88 (.branch 85 (.leaf (84, (.iconst 0, 85, 0), 0)) (.branch 87 (.leaf (85, (.istore 7, 87, 0), 0)) (.leaf (87, (.iconst 0, 88, 0), 0)))) (.branch 92 (.branch 90 (.leaf (88, (.istore 8, 90, 0), 0)) (.leaf (90, (.iload 8, 92, 0), 0))) (.branch 93 (.leaf (92, (.iconst 1, 93, 0), 0)) (.leaf (93, (.iload_n 3, 94, 0), 0))))) (.branch 103 (.branch 98 (.branch 95 (.leaf (94, (.ishl, 95, 0), 0)) (.leaf (95, (.if_icmp .ge 67, 98, 162), 0))) (.branch 100 (.leaf (98, (.iload 8, 100, 0), 0)) (.leaf (100, (.invokestatic 83, 103, 255), 1381)))) (.branch 106 (.branch 105 (.leaf (103, (.istore 9, 105, 0), 0)) (.leaf (105, (.aload_n 0, 106, 0), 0))) (.branch 107 (.leaf (106, (.iload_n 3, 107, 0), 0)) (.leaf (107, (.iload 5, 109, 0), 0))))))
set_option maxRecDepth 100000 in
def mt_224_2 : Lean.RArray mLf :=
  .branch 142 (.branch 126 (.branch 117 (.branch 111 (.leaf (109, (.iload 8, 111, 0), 0)) (.branch 114 (.leaf (111, (.invokevirtual 284, 114, 223), 1499)) (.leaf (114, (.ifCond .eq 22, 117, 136), 0)))) (.branch 121 (.branch 119 (.leaf (117, (.iload 9, 119, 0), 0)) (.leaf (119, (.iload 6, 121, 0), 0))) (.branch 124 (.leaf (121, (.if_icmp .ge 8, 124, 129), 0)) (.leaf (124, (.iload 9, 126, 0), 0))))) (.branch 136 (.branch 131 (.branch 129 (.leaf (126, (.goto 5, 129, 131), 0)) (.leaf (129, (.iload 6, 131, 0), 0))) (.branch 133 (.leaf (131, (.istore 6, 133, 0), 0)) (.leaf (133, (.goto 23, 136, 156), 0)))) (.branch 139 (.branch 138 (.leaf (136, (.iload 9, 138, 0), 0)) (.leaf (138, (.iconst 1, 139, 0), 0))) (.branch 140 (.leaf (139, (.iadd, 140, 0), 0)) (.leaf (140, (.iload 7, 142, 0), 0)))))) (.branch 156 (.branch 148 (.branch 145 (.leaf (142, (.if_icmp .le 10, 145, 152), 0)) (.branch 147 (.leaf (145, (.iload 9, 147, 0), 0)) (.leaf (147, (.iconst 1, 148, 0), 0)))) (.branch 152 (.branch 149 (.leaf (148, (.iadd, 149, 0), 0)) (.leaf (149, (.goto 5, 152, 154), 0))) (.branch 154 (.leaf (152, (.iload 7, 154, 0), 0)) (.leaf (154, (.istore 7, 156, 0), 0))))) (.branch 166 (.branch 162 (.branch 159 (.leaf (156, (.iinc 8 1, 159, 0), 0)) (.leaf (159, (.goto (-69), 162, 90), 0))) (.branch 163 (.leaf (162, (.iload_n 2, 163, 0), 0)) (.leaf (163, (.ifCond .ne 8, 166, 171), 0)))) (.branch 171 (.branch 168 (.leaf (166, (.iload 6, 168, 0), 0)) (.leaf (168, (.goto 5, 171, 173), 0))) (.branch 173 (.leaf (171, (.iload 7, 173, 0), 0)) (.leaf (173, (.ireturn, 174, 0), 0))))))
/-- DeckBenchModel.least(II)I -/
def mt_224 : Lean.RArray mLf :=
  .branch 55 (mt_224_0) (.branch 109 (mt_224_1) (mt_224_2))
set_option maxRecDepth 100000 in
def mt_225_0 : Lean.RArray mLf :=
  .branch 13 (.branch 8 (.branch 3 (.branch 1 (.leaf (0, (.iconst 0, 1, 0), 0)) (.leaf (1, (.istore 4, 3, 0), 0))) (.branch 4 (.leaf (3, (.iconst 0, 4, 0), 0)) (.branch 6 (.leaf (4, (.istore 5, 6, 0), 0)) (.leaf (6, (.iload 5, 8, 0), 0))))) (.branch 10 (.branch 9 (.leaf (8, (.iload_n 1, 9, 0), 0)) (.leaf (9, (.iload_n 1, 10, 0), 0))) (.branch 11 (.leaf (10, (.iconst 1, 11, 0), 0)) (.branch 12 (.leaf (11, (.isub, 12, 0), 0)) (.leaf (12, (.imul, 13, 0), 0)))))) (.branch 21 (.branch 15 (.branch 14 (.leaf (13, (.iconst 2, 14, 0), 0)) (.leaf (14, (.idiv, 15, 0), 0))) (.branch 18 (.leaf (15, (.if_icmp .ge 41, 18, 56), 0)) (.branch 19 (.leaf (18, (.iload_n 2, 19, 0), 0)) (.leaf (19, (.iload 5, 21, 0), 0))))) (.branch 23 (.branch 22 (.leaf (21, (.ishr, 22, 0), 0)) (.leaf (22, (.iconst 1, 23, 0), 0))) (.branch 24 (.leaf (23, (.iand, 24, 0), 0)) (.branch 27 (.leaf (24, (.ifCond .ne 6, 27, 30), 0)) (.leaf (27, (.goto 23, 30, 50), 0))))))
set_option maxRecDepth 100000 in
def mt_225_1 : Lean.RArray mLf :=
  .branch 42 (.branch 36 (.branch 33 (.branch 31 (.leaf (30, (.aload_n 3, 31, 0), 0)) (.leaf (31, (.iload 4, 33, 0), 0))) (.branch 34 (.leaf (33, (.aload_n 0, 34, 0), 0)) (.branch 35 (.leaf (34, (.iload_n 1, 35, 0), 0)) (.leaf (35, (.iload_n 2, 36, 0), 0))))) (.branch 39 (.branch 37 (.leaf (36, (.iconst 1, 37, 0), 0)) (.leaf (37, (.iload 5, 39, 0), 0))) (.branch 40 (.leaf (39, (.ishl, 40, 0), 0)) (.branch 41 (.leaf (40, (.iconst (-1), 41, 0), 0)) (.leaf (41, (.ixor, 42, 0), 0)))))) (.branch 53 (.branch 46 (.branch 43 (.leaf (42, (.iand, 43, 0), 0)) (.leaf (43, (.invokevirtual 115, 46, 172), 1330))) (.branch 47 (.leaf (46, (.iastore, 47, 0), 0)) (.branch 50 (.leaf (47, (.iinc 4 1, 50, 0), 0)) (.leaf (50, (.iinc 5 1, 53, 0), 0))))) (.branch 59 (.branch 56 (.leaf (53, (.goto (-47), 56, 6), 0)) (.branch 57 (.leaf (56, (.aload_n 3, 57, 0), 0)) (.leaf (57, (.iload 4, 59, 0), 0)))) (.branch 62 (.leaf (59, (.invokestatic 212, 62, 200), 1347)) (.branch 64 (.leaf (62, (.iload 4, 64, 0), 0)) (.leaf (64, (.ireturn, 65, 0), 0))))))
/-- DeckBenchModel.laysLines(II[I)I -/
def mt_225 : Lean.RArray mLf :=
  .branch 30 (mt_225_0) (mt_225_1)
set_option maxRecDepth 100000 in
/-- DeckBenchModel.areRivals(III)Z -/
def mt_226 : Lean.RArray mLf :=
  .branch 30 (.branch 14 (.branch 8 (.branch 4 (.branch 1 (.leaf (0, (.iload_n 2, 1, 0), 0)) (.leaf (1, (.invokestatic 232, 4, 168), 1378))) (.branch 5 (.leaf (4, (.iload_n 3, 5, 0), 0)) (.leaf (5, (.invokestatic 232, 8, 168), 1378)))) (.branch 12 (.branch 11 (.leaf (8, (.if_icmp .eq 5, 11, 13), 0)) (.leaf (11, (.iconst 0, 12, 0), 0))) (.branch 13 (.leaf (12, (.ireturn, 13, 0), 0)) (.leaf (13, (.aload_n 0, 14, 0), 0))))) (.branch 20 (.branch 16 (.branch 15 (.leaf (14, (.iload_n 1, 15, 0), 0)) (.leaf (15, (.iload_n 3, 16, 0), 0))) (.branch 17 (.leaf (16, (.aload_n 0, 17, 0), 0)) (.leaf (17, (.getfield 51, 20, 1222), 1192)))) (.branch 25 (.branch 23 (.leaf (20, (.invokevirtual 287, 23, 225), 1511)) (.leaf (23, (.istore 4, 25, 0), 0))) (.branch 26 (.leaf (25, (.iconst 0, 26, 0), 0)) (.branch 28 (.leaf (26, (.istore 5, 28, 0), 0)) (.leaf (28, (.iload 5, 30, 0), 0))))))) (.branch 46 (.branch 39 (.branch 35 (.branch 32 (.leaf (30, (.iload 4, 32, 0), 0)) (.leaf (32, (.if_icmp .ge 28, 35, 60), 0))) (.branch 36 (.leaf (35, (.aload_n 0, 36, 0), 0)) (.leaf (36, (.getfield 48, 39, 1221), 1191)))) (.branch 42 (.branch 41 (.leaf (39, (.iload 5, 41, 0), 0)) (.leaf (41, (.iaload, 42, 0), 0))) (.branch 43 (.leaf (42, (.aload_n 0, 43, 0), 0)) (.leaf (43, (.getfield 51, 46, 1222), 1192))))) (.branch 53 (.branch 49 (.branch 48 (.leaf (46, (.iload 5, 48, 0), 0)) (.leaf (48, (.iaload, 49, 0), 0))) (.branch 52 (.leaf (49, (.if_icmp .eq 5, 52, 54), 0)) (.leaf (52, (.iconst 0, 53, 0), 0)))) (.branch 57 (.branch 54 (.leaf (53, (.ireturn, 54, 0), 0)) (.leaf (54, (.iinc 5 1, 57, 0), 0))) (.branch 60 (.leaf (57, (.goto (-29), 60, 28), 0)) (.branch 61 (.leaf (60, (.iconst 1, 61, 0), 0)) (.leaf (61, (.ireturn, 62, 0), 0)))))))
set_option maxRecDepth 100000 in
def mt_227_0 : Lean.RArray mLf :=
  .branch 29 (.branch 15 (.branch 6 (.branch 2 (.branch 1 (.leaf (0, (.aload_n 0, 1, 0), 0)) (.leaf (1, (.iconst 0, 2, 0), 0))) (.branch 5 (.leaf (2, (.putfield 76, 5, 1204), 1174)) (.leaf (5, (.iload_n 1, 6, 0), 0)))) (.branch 12 (.branch 9 (.leaf (6, (.invokestatic 222, 9, 191), 1358)) (.leaf (9, (.ifCond .ne 6, 12, 15), 0))) (.branch 14 (.leaf (12, (.bipush (-2), 14, 0), 0)) (.leaf (14, (.ireturn, 15, 0), 0))))) (.branch 21 (.branch 17 (.branch 16 (.leaf (15, (.aload_n 0, 16, 0), 0)) (.leaf (16, (.iload_n 1, 17, 0), 0))) (.branch 20 (.leaf (17, (.invokevirtual 201, 20, 192), 1366)) (.leaf (20, (.istore_n 2, 21, 0), 0)))) (.branch 23 (.branch 22 (.leaf (21, (.iload_n 2, 22, 0), 0)) (.leaf (22, (.i2l, 23, 0), 0))) (.branch 26 (.leaf (23, (.ldc2_w 207, 26, 2), 1415)) (.leaf (26, (.ldc2_w 199, 29, 5), 1361)))))) (.branch 44 (.branch 38 (.branch 35 (.branch 32 (.leaf (29, (.invokestatic 134, 32, 165), 1272)) (.leaf (32, (.ifCond .ne 6, 35, 38), 0))) (.branch 37 (.leaf (35, (.bipush (-5), 37, 0), 0)) (.leaf (37, (.ireturn, 38, 0), 0)))) (.branch 40 (.branch 39 (.leaf (38, (.aload_n 0, 39, 0), 0)) (.leaf (39, (.iload_n 1, 40, 0), 0))) (.branch 43 (.leaf (40, (.invokevirtual 238, 43, 194), 1407)) (.leaf (43, (.istore_n 3, 44, 0), 0))))) (.branch 50 (.branch 46 (.branch 45 (.leaf (44, (.aload_n 0, 45, 0), 0)) (.leaf (45, (.iload_n 2, 46, 0), 0))) (.branch 49 (.leaf (46, (.invokevirtual 281, 49, 221), 1495)) (.leaf (49, (.aload_n 0, 50, 0), 0)))) (.branch 52 (.branch 51 (.leaf (50, (.iload_n 2, 51, 0), 0)) (.leaf (51, (.iload_n 3, 52, 0), 0))) (.branch 53 (.leaf (52, (.aload_n 0, 53, 0), 0)) (.branch 56 (.leaf (53, (.getfield 48, 56, 1221), 1191)) (.leaf (56, (.invokevirtual 287, 59, 225), 1511)))))))
set_option maxRecDepth 100000 in
def mt_227_1 : Lean.RArray mLf :=
  .branch 89 (.branch 72 (.branch 64 (.branch 61 (.branch 60 (.leaf (59, (.pop, 60, 0), 0)) (.leaf (60, (.iconst 0, 61, 0), 0))) (.branch 63 (.leaf (61, (.istore 4, 63, 0), 0)) (.leaf (63, (.iconst 0, 64, 0), 0)))) (.branch 68 (.branch 66 (.leaf (64, (.istore 5, 66, 0), 0)) (.leaf (66, (.iload 5, 68, 0), 0))) (.branch 69 (.leaf (68, (.aload_n 0, 69, 0), 0)) (.leaf (69, (.getfield 275, 72, 1223), 1193))))) (.branch 81 (.branch 77 (.branch 75 (.leaf (72, (.if_icmp .ge 46, 75, 118), 0)) (.leaf (75, (.iload 4, 77, 0), 0))) (.branch 78 (.leaf (77, (.aload_n 0, 78, 0), 0)) (.leaf (78, (.getfield 42, 81, 1219), 1189)))) (.branch 84 (.branch 83 (.leaf (81, (.iload 5, 83, 0), 0)) (.leaf (83, (.iaload, 84, 0), 0))) (.branch 85 (.leaf (84, (.iload_n 3, 85, 0), 0)) (.branch 88 (.leaf (85, (.if_icmp .eq 23, 88, 108), 0)) (.leaf (88, (.aload_n 0, 89, 0), 0))))))) (.branch 104 (.branch 95 (.branch 91 (.branch 90 (.leaf (89, (.iload_n 2, 90, 0), 0)) (.leaf (90, (.iload_n 3, 91, 0), 0))) (.branch 92 (.leaf (91, (.aload_n 0, 92, 0), 0)) (.leaf (92, (.getfield 42, 95, 1219), 1189)))) (.branch 98 (.branch 97 (.leaf (95, (.iload 5, 97, 0), 0)) (.leaf (97, (.iaload, 98, 0), 0))) (.branch 101 (.leaf (98, (.invokevirtual 291, 101, 226), 1515)) (.leaf (101, (.ifCond .eq 7, 104, 108), 0))))) (.branch 110 (.branch 108 (.branch 105 (.leaf (104, (.iconst 1, 105, 0), 0)) (.leaf (105, (.goto 4, 108, 109), 0))) (.branch 109 (.leaf (108, (.iconst 0, 109, 0), 0)) (.leaf (109, (.iadd, 110, 0), 0)))) (.branch 115 (.branch 112 (.leaf (110, (.istore 4, 112, 0), 0)) (.leaf (112, (.iinc 5 1, 115, 0), 0))) (.branch 118 (.leaf (115, (.goto (-49), 118, 66), 0)) (.branch 120 (.leaf (118, (.iload 4, 120, 0), 0)) (.leaf (120, (.ireturn, 121, 0), 0)))))))
/-- DeckBenchModel.rivals(I)I -/
def mt_227 : Lean.RArray mLf :=
  .branch 59 (mt_227_0) (mt_227_1)
set_option maxRecDepth 100000 in
def mt_228_0 : Lean.RArray mLf :=
  .branch 17 (.branch 9 (.branch 2 (.branch 1 (.leaf (0, (.aload_n 0, 1, 0), 0)) (.leaf (1, (.iconst 0, 2, 0), 0))) (.branch 5 (.leaf (2, (.putfield 76, 5, 1204), 1174)) (.branch 6 (.leaf (5, (.iload_n 1, 6, 0), 0)) (.leaf (6, (.invokestatic 222, 9, 191), 1358))))) (.branch 14 (.branch 12 (.leaf (9, (.ifCond .ne 6, 12, 15), 0)) (.leaf (12, (.bipush (-2), 14, 0), 0))) (.branch 15 (.leaf (14, (.ireturn, 15, 0), 0)) (.branch 16 (.leaf (15, (.iload_n 2, 16, 0), 0)) (.leaf (16, (.iconst (-1), 17, 0), 0)))))) (.branch 25 (.branch 22 (.branch 20 (.leaf (17, (.if_icmp .ge 6, 20, 23), 0)) (.leaf (20, (.bipush (-3), 22, 0), 0))) (.branch 23 (.leaf (22, (.ireturn, 23, 0), 0)) (.branch 24 (.leaf (23, (.aload_n 0, 24, 0), 0)) (.leaf (24, (.aload_n 0, 25, 0), 0))))) (.branch 30 (.branch 26 (.leaf (25, (.iload_n 1, 26, 0), 0)) (.branch 29 (.leaf (26, (.invokevirtual 201, 29, 192), 1366)) (.leaf (29, (.aload_n 0, 30, 0), 0)))) (.branch 31 (.leaf (30, (.iload_n 1, 31, 0), 0)) (.branch 34 (.leaf (31, (.invokevirtual 204, 34, 193), 1374)) (.leaf (34, (.aload_n 0, 35, 0), 0))))))
set_option maxRecDepth 100000 in
def mt_228_1 : Lean.RArray mLf :=
  .branch 55 (.branch 44 (.branch 41 (.branch 38 (.leaf (35, (.getfield 48, 38, 1221), 1191)) (.leaf (38, (.invokevirtual 287, 41, 225), 1511))) (.branch 42 (.leaf (41, (.istore_n 3, 42, 0), 0)) (.branch 43 (.leaf (42, (.iload_n 2, 43, 0), 0)) (.leaf (43, (.iconst (-1), 44, 0), 0))))) (.branch 48 (.branch 47 (.leaf (44, (.if_icmp .ne 14, 47, 58), 0)) (.leaf (47, (.aload_n 0, 48, 0), 0))) (.branch 51 (.leaf (48, (.getfield 48, 51, 1221), 1191)) (.branch 52 (.leaf (51, (.iload_n 3, 52, 0), 0)) (.leaf (52, (.invokestatic 245, 55, 210), 1420)))))) (.branch 64 (.branch 59 (.branch 58 (.leaf (55, (.goto 18, 58, 73), 0)) (.leaf (58, (.iload_n 2, 59, 0), 0))) (.branch 60 (.leaf (59, (.iload_n 3, 60, 0), 0)) (.branch 63 (.leaf (60, (.if_icmp .ge 12, 63, 72), 0)) (.leaf (63, (.aload_n 0, 64, 0), 0))))) (.branch 69 (.branch 67 (.leaf (64, (.getfield 48, 67, 1221), 1191)) (.branch 68 (.leaf (67, (.iload_n 2, 68, 0), 0)) (.leaf (68, (.iaload, 69, 0), 0)))) (.branch 72 (.leaf (69, (.goto 4, 72, 73), 0)) (.branch 73 (.leaf (72, (.iconst (-1), 73, 0), 0)) (.leaf (73, (.ireturn, 74, 0), 0))))))
/-- DeckBenchModel.lineDeck(II)I -/
def mt_228 : Lean.RArray mLf :=
  .branch 35 (mt_228_0) (mt_228_1)
set_option maxRecDepth 100000 in
/-- DeckBenchModel.areDegreesLike(II)Z -/
def mt_229 : Lean.RArray mLf :=
  .branch 17 (.branch 7 (.branch 2 (.branch 1 (.leaf (0, (.iconst 1, 1, 0), 0)) (.leaf (1, (.istore_n 2, 2, 0), 0))) (.branch 3 (.leaf (2, (.iload_n 2, 3, 0), 0)) (.branch 4 (.leaf (3, (.iload_n 0, 4, 0), 0)) (.leaf (4, (.if_icmp .ge 32, 7, 36), 0))))) (.branch 10 (.branch 8 (.leaf (7, (.iload_n 0, 8, 0), 0)) (.branch 9 (.leaf (8, (.iload_n 1, 9, 0), 0)) (.leaf (9, (.iload_n 2, 10, 0), 0)))) (.branch 13 (.leaf (10, (.invokestatic 112, 13, 175), 1463)) (.branch 16 (.leaf (13, (.invokestatic 83, 16, 255), 1381)) (.leaf (16, (.iload_n 0, 17, 0), 0)))))) (.branch 28 (.branch 19 (.branch 18 (.leaf (17, (.iload_n 1, 18, 0), 0)) (.leaf (18, (.iconst 0, 19, 0), 0))) (.branch 22 (.leaf (19, (.invokestatic 112, 22, 175), 1463)) (.branch 25 (.leaf (22, (.invokestatic 83, 25, 255), 1381)) (.leaf (25, (.if_icmp .eq 5, 28, 30), 0))))) (.branch 33 (.branch 29 (.leaf (28, (.iconst 0, 29, 0), 0)) (.branch 30 (.leaf (29, (.ireturn, 30, 0), 0)) (.leaf (30, (.iinc 2 1, 33, 0), 0)))) (.branch 36 (.leaf (33, (.goto (-31), 36, 2), 0)) (.branch 37 (.leaf (36, (.iconst 1, 37, 0), 0)) (.leaf (37, (.ireturn, 38, 0), 0))))))
set_option maxRecDepth 100000 in
def mt_230_0 : Lean.RArray mLf :=
  .branch 17 (.branch 6 (.branch 3 (.branch 1 (.leaf (0, (.iconst 0, 1, 0), 0)) (.branch 2 (.leaf (1, (.istore_n 2, 2, 0), 0)) (.leaf (2, (.iload_n 2, 3, 0), 0)))) (.branch 4 (.leaf (3, (.iconst 1, 4, 0), 0)) (.branch 5 (.leaf (4, (.iload_n 0, 5, 0), 0)) (.leaf (5, (.ishl, 6, 0), 0))))) (.branch 11 (.branch 9 (.leaf (6, (.if_icmp .ge 81, 9, 87), 0)) (.branch 10 (.leaf (9, (.iconst 1, 10, 0), 0)) (.leaf (10, (.istore_n 3, 11, 0), 0)))) (.branch 14 (.branch 12 (.leaf (11, (.iconst 0, 12, 0), 0)) (.leaf (12, (.istore 4, 14, 0), 0))) (.branch 16 (.leaf (14, (.iload 4, 16, 0), 0)) (.leaf (16, (.iload_n 0, 17, 0), 0)))))) (.branch 29 (.branch 24 (.branch 20 (.leaf (17, (.if_icmp .ge 58, 20, 75), 0)) (.branch 21 (.leaf (20, (.iload_n 3, 21, 0), 0)) (.leaf (21, (.ifCond .eq 46, 24, 67), 0)))) (.branch 27 (.branch 25 (.leaf (24, (.iload_n 2, 25, 0), 0)) (.leaf (25, (.iload 4, 27, 0), 0))) (.branch 28 (.leaf (27, (.ishr, 28, 0), 0)) (.leaf (28, (.iconst 1, 29, 0), 0))))) (.branch 34 (.branch 30 (.leaf (29, (.iand, 30, 0), 0)) (.branch 31 (.leaf (30, (.iconst 1, 31, 0), 0)) (.leaf (31, (.if_icmp .ne 18, 34, 49), 0)))) (.branch 36 (.branch 35 (.leaf (34, (.iload_n 0, 35, 0), 0)) (.leaf (35, (.iload_n 1, 36, 0), 0))) (.branch 38 (.leaf (36, (.iload 4, 38, 0), 0)) (.leaf (38, (.invokestatic 112, 41, 175), 1463))))))
set_option maxRecDepth 100000 in
def mt_230_1 : Lean.RArray mLf :=
  .branch 63 (.branch 51 (.branch 46 (.branch 42 (.leaf (41, (.iload_n 2, 42, 0), 0)) (.branch 43 (.leaf (42, (.iand, 43, 0), 0)) (.leaf (43, (.ifCond .ne 24, 46, 67), 0)))) (.branch 49 (.leaf (46, (.goto 17, 49, 63), 0)) (.branch 50 (.leaf (49, (.iload_n 0, 50, 0), 0)) (.leaf (50, (.iload_n 1, 51, 0), 0))))) (.branch 57 (.branch 53 (.leaf (51, (.iload 4, 53, 0), 0)) (.branch 56 (.leaf (53, (.invokestatic 112, 56, 175), 1463)) (.leaf (56, (.iload_n 2, 57, 0), 0)))) (.branch 59 (.branch 58 (.leaf (57, (.iconst (-1), 58, 0), 0)) (.leaf (58, (.ixor, 59, 0), 0))) (.branch 60 (.leaf (59, (.iand, 60, 0), 0)) (.leaf (60, (.ifCond .ne 7, 63, 67), 0)))))) (.branch 76 (.branch 68 (.branch 64 (.leaf (63, (.iconst 1, 64, 0), 0)) (.branch 67 (.leaf (64, (.goto 4, 67, 68), 0)) (.leaf (67, (.iconst 0, 68, 0), 0)))) (.branch 72 (.branch 69 (.leaf (68, (.istore_n 3, 69, 0), 0)) (.leaf (69, (.iinc 4 1, 72, 0), 0))) (.branch 75 (.leaf (72, (.goto (-58), 75, 14), 0)) (.leaf (75, (.iload_n 3, 76, 0), 0))))) (.branch 81 (.branch 79 (.leaf (76, (.ifCond .eq 5, 79, 81), 0)) (.branch 80 (.leaf (79, (.iconst 1, 80, 0), 0)) (.leaf (80, (.ireturn, 81, 0), 0)))) (.branch 87 (.branch 84 (.leaf (81, (.iinc 2 1, 84, 0), 0)) (.leaf (84, (.goto (-82), 87, 2), 0))) (.branch 88 (.leaf (87, (.iconst 0, 88, 0), 0)) (.leaf (88, (.ireturn, 89, 0), 0))))))
/-- DeckBenchModel.haveSides(II)Z -/
def mt_230 : Lean.RArray mLf :=
  .branch 41 (mt_230_0) (mt_230_1)
set_option maxRecDepth 100000 in
def mt_231_0 : Lean.RArray mLf :=
  .branch 15 (.branch 5 (.branch 2 (.branch 1 (.leaf (0, (.iload_n 3, 1, 0), 0)) (.leaf (1, (.iconst 1, 2, 0), 0))) (.branch 3 (.leaf (2, (.iload_n 0, 3, 0), 0)) (.branch 4 (.leaf (3, (.ishl, 4, 0), 0)) (.leaf (4, (.iconst 1, 5, 0), 0))))) (.branch 10 (.branch 6 (.leaf (5, (.isub, 6, 0), 0)) (.branch 9 (.leaf (6, (.if_icmp .ne 10, 9, 16), 0)) (.leaf (9, (.iload_n 1, 10, 0), 0)))) (.branch 11 (.leaf (10, (.iload_n 2, 11, 0), 0)) (.branch 12 (.leaf (11, (.iconst 0, 12, 0), 0)) (.leaf (12, (.invokestatic 95, 15, 167), 1316)))))) (.branch 22 (.branch 17 (.branch 16 (.leaf (15, (.ireturn, 16, 0), 0)) (.leaf (16, (.iconst 1, 17, 0), 0))) (.branch 19 (.leaf (17, (.istore 4, 19, 0), 0)) (.branch 21 (.leaf (19, (.iload 4, 21, 0), 0)) (.leaf (21, (.iload_n 0, 22, 0), 0))))) (.branch 28 (.branch 25 (.leaf (22, (.if_icmp .ge 46, 25, 68), 0)) (.branch 26 (.leaf (25, (.iload_n 3, 26, 0), 0)) (.leaf (26, (.iload 4, 28, 0), 0)))) (.branch 29 (.leaf (28, (.ishr, 29, 0), 0)) (.branch 30 (.leaf (29, (.iconst 1, 30, 0), 0)) (.leaf (30, (.iand, 31, 0), 0))))))
set_option maxRecDepth 100000 in
def mt_231_1 : Lean.RArray mLf :=
  .branch 50 (.branch 41 (.branch 35 (.branch 34 (.leaf (31, (.ifCond .ne 31, 34, 62), 0)) (.leaf (34, (.iload_n 1, 35, 0), 0))) (.branch 36 (.leaf (35, (.iload_n 2, 36, 0), 0)) (.branch 38 (.leaf (36, (.iload 4, 38, 0), 0)) (.leaf (38, (.invokestatic 95, 41, 167), 1316))))) (.branch 46 (.branch 44 (.leaf (41, (.ifCond .eq 21, 44, 62), 0)) (.branch 45 (.leaf (44, (.iload_n 0, 45, 0), 0)) (.leaf (45, (.iload_n 1, 46, 0), 0)))) (.branch 48 (.leaf (46, (.iload 4, 48, 0), 0)) (.branch 49 (.leaf (48, (.iload_n 3, 49, 0), 0)) (.leaf (49, (.iconst 1, 50, 0), 0)))))) (.branch 60 (.branch 53 (.branch 52 (.leaf (50, (.iload 4, 52, 0), 0)) (.leaf (52, (.ishl, 53, 0), 0))) (.branch 54 (.leaf (53, (.ior, 54, 0), 0)) (.branch 57 (.leaf (54, (.invokestatic 294, 57, 231), 1540)) (.leaf (57, (.ifCond .eq 5, 60, 62), 0))))) (.branch 65 (.branch 61 (.leaf (60, (.iconst 1, 61, 0), 0)) (.branch 62 (.leaf (61, (.ireturn, 62, 0), 0)) (.leaf (62, (.iinc 4 1, 65, 0), 0)))) (.branch 68 (.leaf (65, (.goto (-46), 68, 19), 0)) (.branch 69 (.leaf (68, (.iconst 0, 69, 0), 0)) (.leaf (69, (.ireturn, 70, 0), 0))))))
/-- DeckBenchModel.goesRound(IIII)Z -/
def mt_231 : Lean.RArray mLf :=
  .branch 31 (mt_231_0) (mt_231_1)
set_option maxRecDepth 100000 in
def mt_232_0 : Lean.RArray mLf :=
  .branch 57 (.branch 42 (.branch 6 (.branch 4 (.branch 1 (.leaf (0, (.iload_n 1, 1, 0), 0)) (.leaf (1, (.ifCond .ne 5, 4, 6), 0))) (.branch 5 (.leaf (4, (.iconst 0, 5, 0), 0)) (.leaf (5, (.ireturn, 6, 0), 0)))) (.branch 40 (.branch 7 (.leaf (6, (.iload_n 3, 7, 0), 0)) (.leaf (7, (.tableswitch 106 0 4 #[33, 48, 54, 79, 85], 40, 0), 0))) (.branch 41 (.leaf (40, (.iload_n 1, 41, 0), 0)) (.leaf (41, (.iload_n 2, 42, 0), 0))))) (.branch 50 (.branch 46 (.branch 45 (.leaf (42, (.invokestatic 260, 45, 176), 1460)) (.leaf (45, (.iconst 1, 46, 0), 0))) (.branch 49 (.leaf (46, (.if_icmp .ne 7, 49, 53), 0)) (.leaf (49, (.iconst 1, 50, 0), 0)))) (.branch 54 (.branch 53 (.leaf (50, (.goto 4, 53, 54), 0)) (.leaf (53, (.iconst 0, 54, 0), 0))) (.branch 55 (.leaf (54, (.ireturn, 55, 0), 0)) (.branch 56 (.leaf (55, (.iload_n 1, 56, 0), 0)) (.leaf (56, (.iload_n 2, 57, 0), 0))))))) (.branch 71 (.branch 63 (.branch 61 (.branch 60 (.leaf (57, (.invokestatic 298, 60, 229), 1534)) (.leaf (60, (.ireturn, 61, 0), 0))) (.branch 62 (.leaf (61, (.iload_n 1, 62, 0), 0)) (.leaf (62, (.iload_n 2, 63, 0), 0)))) (.branch 67 (.branch 66 (.leaf (63, (.invokestatic 260, 66, 176), 1460)) (.leaf (66, (.iconst 1, 67, 0), 0))) (.branch 70 (.leaf (67, (.if_icmp .ne 17, 70, 84), 0)) (.leaf (70, (.iload_n 2, 71, 0), 0))))) (.branch 77 (.branch 75 (.branch 74 (.leaf (71, (.invokestatic 232, 74, 168), 1378)) (.leaf (74, (.iload_n 1, 75, 0), 0))) (.branch 76 (.leaf (75, (.iconst 1, 76, 0), 0)) (.leaf (76, (.isub, 77, 0), 0)))) (.branch 81 (.branch 80 (.leaf (77, (.if_icmp .ne 7, 80, 84), 0)) (.leaf (80, (.iconst 1, 81, 0), 0))) (.branch 84 (.leaf (81, (.goto 4, 84, 85), 0)) (.branch 85 (.leaf (84, (.iconst 0, 85, 0), 0)) (.leaf (85, (.ireturn, 86, 0), 0)))))))
set_option maxRecDepth 100000 in
def mt_232_1 : Lean.RArray mLf :=
  .branch 113 (.branch 98 (.branch 92 (.branch 88 (.branch 87 (.leaf (86, (.iload_n 1, 87, 0), 0)) (.leaf (87, (.iload_n 2, 88, 0), 0))) (.branch 91 (.leaf (88, (.invokestatic 301, 91, 230), 1537)) (.leaf (91, (.ireturn, 92, 0), 0)))) (.branch 94 (.branch 93 (.leaf (92, (.iload_n 1, 93, 0), 0)) (.leaf (93, (.iconst 2, 94, 0), 0))) (.branch 97 (.leaf (94, (.if_icmp .le 17, 97, 111), 0)) (.leaf (97, (.iload_n 1, 98, 0), 0))))) (.branch 104 (.branch 100 (.branch 99 (.leaf (98, (.iload_n 2, 99, 0), 0)) (.leaf (99, (.iconst 0, 100, 0), 0))) (.branch 101 (.leaf (100, (.iconst 1, 101, 0), 0)) (.leaf (101, (.invokestatic 294, 104, 231), 1540)))) (.branch 108 (.branch 107 (.leaf (104, (.ifCond .eq 7, 107, 111), 0)) (.leaf (107, (.iconst 1, 108, 0), 0))) (.branch 111 (.leaf (108, (.goto 4, 111, 112), 0)) (.branch 112 (.leaf (111, (.iconst 0, 112, 0), 0)) (.leaf (112, (.ireturn, 113, 0), 0))))))) (.branch 126 (.branch 119 (.branch 115 (.branch 114 (.leaf (113, (.aload_n 0, 114, 0), 0)) (.leaf (114, (.iload_n 1, 115, 0), 0))) (.branch 116 (.leaf (115, (.iload_n 2, 116, 0), 0)) (.leaf (116, (.invokevirtual 115, 119, 172), 1330)))) (.branch 121 (.branch 120 (.leaf (119, (.aload_n 0, 120, 0), 0)) (.leaf (120, (.iload_n 1, 121, 0), 0))) (.branch 122 (.leaf (121, (.iload_n 1, 122, 0), 0)) (.branch 125 (.leaf (122, (.invokestatic 235, 125, 169), 1400)) (.leaf (125, (.iload_n 2, 126, 0), 0)))))) (.branch 132 (.branch 128 (.branch 127 (.leaf (126, (.iconst (-1), 127, 0), 0)) (.leaf (127, (.ixor, 128, 0), 0))) (.branch 129 (.leaf (128, (.iand, 129, 0), 0)) (.leaf (129, (.invokevirtual 115, 132, 172), 1330)))) (.branch 136 (.branch 135 (.leaf (132, (.if_icmp .ne 7, 135, 139), 0)) (.leaf (135, (.iconst 1, 136, 0), 0))) (.branch 139 (.leaf (136, (.goto 4, 139, 140), 0)) (.branch 140 (.leaf (139, (.iconst 0, 140, 0), 0)) (.leaf (140, (.ireturn, 141, 0), 0)))))))
/-- DeckBenchModel.isOf(III)Z -/
def mt_232 : Lean.RArray mLf :=
  .branch 86 (mt_232_0) (mt_232_1)
set_option maxRecDepth 100000 in
/-- DeckBenchModel.isClass(I)Z -/
def mt_233 : Lean.RArray mLf :=
  .branch 3 (.branch 1 (.leaf (0, (.iload_n 0, 1, 0), 0)) (.branch 2 (.leaf (1, (.i2l, 2, 0), 0)) (.leaf (2, (.lconst 0, 3, 0), 0)))) (.branch 6 (.leaf (3, (.ldc2_w 199, 6, 5), 1361)) (.branch 9 (.leaf (6, (.invokestatic 134, 9, 165), 1272)) (.leaf (9, (.ireturn, 10, 0), 0))))
set_option maxRecDepth 100000 in
/-- DeckBenchModel.is(II)I -/
def mt_234 : Lean.RArray mLf :=
  .branch 23 (.branch 12 (.branch 5 (.branch 1 (.leaf (0, (.aload_n 0, 1, 0), 0)) (.branch 2 (.leaf (1, (.iconst 0, 2, 0), 0)) (.leaf (2, (.putfield 76, 5, 1204), 1174)))) (.branch 6 (.leaf (5, (.iload_n 1, 6, 0), 0)) (.branch 9 (.leaf (6, (.invokestatic 222, 9, 191), 1358)) (.leaf (9, (.ifCond .eq 10, 12, 19), 0))))) (.branch 19 (.branch 13 (.leaf (12, (.iload_n 2, 13, 0), 0)) (.branch 16 (.leaf (13, (.invokestatic 304, 16, 233), 1527)) (.leaf (16, (.ifCond .ne 6, 19, 22), 0)))) (.branch 21 (.leaf (19, (.bipush (-2), 21, 0), 0)) (.branch 22 (.leaf (21, (.ireturn, 22, 0), 0)) (.leaf (22, (.aload_n 0, 23, 0), 0)))))) (.branch 33 (.branch 28 (.branch 24 (.leaf (23, (.aload_n 0, 24, 0), 0)) (.branch 25 (.leaf (24, (.iload_n 1, 25, 0), 0)) (.leaf (25, (.invokevirtual 201, 28, 192), 1366)))) (.branch 29 (.leaf (28, (.aload_n 0, 29, 0), 0)) (.branch 30 (.leaf (29, (.iload_n 1, 30, 0), 0)) (.leaf (30, (.invokevirtual 204, 33, 193), 1374))))) (.branch 40 (.branch 34 (.leaf (33, (.iload_n 2, 34, 0), 0)) (.branch 37 (.leaf (34, (.invokevirtual 307, 37, 232), 1530)) (.leaf (37, (.ifCond .eq 7, 40, 44), 0)))) (.branch 44 (.branch 41 (.leaf (40, (.iconst 1, 41, 0), 0)) (.leaf (41, (.goto 4, 44, 45), 0))) (.branch 45 (.leaf (44, (.iconst 0, 45, 0), 0)) (.leaf (45, (.ireturn, 46, 0), 0))))))
set_option maxRecDepth 100000 in
def mt_235_0 : Lean.RArray mLf :=
  .branch 28 (.branch 13 (.branch 5 (.branch 1 (.leaf (0, (.aload_n 0, 1, 0), 0)) (.branch 2 (.leaf (1, (.iconst 0, 2, 0), 0)) (.leaf (2, (.putfield 76, 5, 1204), 1174)))) (.branch 7 (.branch 6 (.leaf (5, (.aload_n 0, 6, 0), 0)) (.leaf (6, (.iload_n 1, 7, 0), 0))) (.branch 10 (.leaf (7, (.invokevirtual 209, 10, 197), 1431)) (.leaf (10, (.ifCond .eq 10, 13, 20), 0))))) (.branch 22 (.branch 17 (.branch 14 (.leaf (13, (.iload_n 2, 14, 0), 0)) (.leaf (14, (.invokestatic 304, 17, 233), 1527))) (.branch 20 (.leaf (17, (.ifCond .ne 6, 20, 23), 0)) (.leaf (20, (.bipush (-2), 22, 0), 0)))) (.branch 24 (.branch 23 (.leaf (22, (.ireturn, 23, 0), 0)) (.leaf (23, (.aload_n 0, 24, 0), 0))) (.branch 25 (.leaf (24, (.iload_n 1, 25, 0), 0)) (.leaf (25, (.invokevirtual 252, 28, 202), 1435)))))) (.branch 41 (.branch 34 (.branch 30 (.branch 29 (.leaf (28, (.aload_n 0, 29, 0), 0)) (.leaf (29, (.aload_n 0, 30, 0), 0))) (.branch 31 (.leaf (30, (.iload_n 1, 31, 0), 0)) (.leaf (31, (.invokevirtual 209, 34, 197), 1431)))) (.branch 38 (.branch 37 (.leaf (34, (.invokevirtual 255, 37, 247), 1447)) (.leaf (37, (.istore_n 3, 38, 0), 0))) (.branch 39 (.leaf (38, (.iconst 0, 39, 0), 0)) (.leaf (39, (.istore 4, 41, 0), 0))))) (.branch 47 (.branch 44 (.branch 42 (.leaf (41, (.iconst 0, 42, 0), 0)) (.leaf (42, (.istore 5, 44, 0), 0))) (.branch 46 (.leaf (44, (.iload 5, 46, 0), 0)) (.leaf (46, (.iload_n 3, 47, 0), 0)))) (.branch 52 (.branch 50 (.leaf (47, (.if_icmp .ge 39, 50, 86), 0)) (.leaf (50, (.iload 4, 52, 0), 0))) (.branch 53 (.leaf (52, (.aload_n 0, 53, 0), 0)) (.leaf (53, (.aload_n 0, 54, 0), 0))))))
set_option maxRecDepth 100000 in
def mt_235_1 : Lean.RArray mLf :=
  .branch 83 (.branch 66 (.branch 59 (.branch 55 (.leaf (54, (.iload_n 1, 55, 0), 0)) (.branch 58 (.leaf (55, (.invokevirtual 209, 58, 197), 1431)) (.leaf (58, (.aload_n 0, 59, 0), 0)))) (.branch 64 (.branch 62 (.leaf (59, (.getfield 70, 62, 1229), 1199)) (.leaf (62, (.iload 5, 64, 0), 0))) (.branch 65 (.leaf (64, (.iaload, 65, 0), 0)) (.leaf (65, (.iload_n 2, 66, 0), 0))))) (.branch 76 (.branch 72 (.branch 69 (.leaf (66, (.invokevirtual 307, 69, 232), 1530)) (.leaf (69, (.ifCond .eq 7, 72, 76), 0))) (.branch 73 (.leaf (72, (.iconst 1, 73, 0), 0)) (.leaf (73, (.goto 4, 76, 77), 0)))) (.branch 78 (.branch 77 (.leaf (76, (.iconst 0, 77, 0), 0)) (.leaf (77, (.iadd, 78, 0), 0))) (.branch 80 (.leaf (78, (.istore 4, 80, 0), 0)) (.leaf (80, (.iinc 5 1, 83, 0), 0)))))) (.branch 101 (.branch 92 (.branch 87 (.branch 86 (.leaf (83, (.goto (-39), 86, 44), 0)) (.leaf (86, (.iload_n 3, 87, 0), 0))) (.branch 90 (.leaf (87, (.ifCond .eq 14, 90, 101), 0)) (.leaf (90, (.iload 4, 92, 0), 0)))) (.branch 97 (.branch 95 (.leaf (92, (.ifCond .le 13, 95, 105), 0)) (.leaf (95, (.iload 4, 97, 0), 0))) (.branch 98 (.leaf (97, (.iload_n 3, 98, 0), 0)) (.leaf (98, (.if_icmp .ge 7, 101, 105), 0))))) (.branch 110 (.branch 105 (.branch 102 (.leaf (101, (.iconst (-1), 102, 0), 0)) (.leaf (102, (.goto 13, 105, 115), 0))) (.branch 107 (.leaf (105, (.iload 4, 107, 0), 0)) (.leaf (107, (.ifCond .le 7, 110, 114), 0)))) (.branch 114 (.branch 111 (.leaf (110, (.iconst 1, 111, 0), 0)) (.leaf (111, (.goto 4, 114, 115), 0))) (.branch 115 (.leaf (114, (.iconst 0, 115, 0), 0)) (.leaf (115, (.ireturn, 116, 0), 0))))))
/-- DeckBenchModel.proved(II)I -/
def mt_235 : Lean.RArray mLf :=
  .branch 54 (mt_235_0) (mt_235_1)
set_option maxRecDepth 100000 in
def mt_236_0 : Lean.RArray mLf :=
  .branch 27 (.branch 12 (.branch 6 (.branch 4 (.branch 1 (.leaf (0, (.iload_n 3, 1, 0), 0)) (.leaf (1, (.invokestatic 232, 4, 168), 1378))) (.branch 5 (.leaf (4, (.iload_n 0, 5, 0), 0)) (.leaf (5, (.iconst 1, 6, 0), 0)))) (.branch 10 (.branch 7 (.leaf (6, (.isub, 7, 0), 0)) (.leaf (7, (.if_icmp .ne 18, 10, 25), 0))) (.branch 11 (.leaf (10, (.iload_n 0, 11, 0), 0)) (.leaf (11, (.iload_n 3, 12, 0), 0))))) (.branch 20 (.branch 16 (.branch 15 (.leaf (12, (.invokestatic 260, 15, 176), 1460)) (.leaf (15, (.iconst 1, 16, 0), 0))) (.branch 19 (.leaf (16, (.if_icmp .ne 7, 19, 23), 0)) (.leaf (19, (.iconst 1, 20, 0), 0)))) (.branch 24 (.branch 23 (.leaf (20, (.goto 4, 23, 24), 0)) (.leaf (23, (.iconst 0, 24, 0), 0))) (.branch 25 (.leaf (24, (.ireturn, 25, 0), 0)) (.branch 26 (.leaf (25, (.iload_n 2, 26, 0), 0)) (.leaf (26, (.iload_n 0, 27, 0), 0))))))) (.branch 37 (.branch 31 (.branch 29 (.branch 28 (.leaf (27, (.iload_n 0, 28, 0), 0)) (.leaf (28, (.iconst 1, 29, 0), 0))) (.branch 30 (.leaf (29, (.isub, 30, 0), 0)) (.leaf (30, (.imul, 31, 0), 0)))) (.branch 33 (.branch 32 (.leaf (31, (.iconst 2, 32, 0), 0)) (.leaf (32, (.idiv, 33, 0), 0))) (.branch 36 (.leaf (33, (.if_icmp .ne 5, 36, 38), 0)) (.leaf (36, (.iconst 0, 37, 0), 0))))) (.branch 41 (.branch 39 (.branch 38 (.leaf (37, (.ireturn, 38, 0), 0)) (.leaf (38, (.iload_n 0, 39, 0), 0))) (.branch 40 (.leaf (39, (.iload_n 1, 40, 0), 0)) (.leaf (40, (.iload_n 2, 41, 0), 0)))) (.branch 43 (.branch 42 (.leaf (41, (.iconst 1, 42, 0), 0)) (.leaf (42, (.iadd, 43, 0), 0))) (.branch 44 (.leaf (43, (.iload_n 3, 44, 0), 0)) (.branch 47 (.leaf (44, (.invokestatic 310, 47, 236), 1551)) (.leaf (47, (.istore 4, 49, 0), 0)))))))
set_option maxRecDepth 100000 in
def mt_236_1 : Lean.RArray mLf :=
  .branch 72 (.branch 59 (.branch 53 (.branch 51 (.branch 50 (.leaf (49, (.iload_n 1, 50, 0), 0)) (.leaf (50, (.iload_n 2, 51, 0), 0))) (.branch 52 (.leaf (51, (.ishr, 52, 0), 0)) (.leaf (52, (.iconst 1, 53, 0), 0)))) (.branch 55 (.branch 54 (.leaf (53, (.iand, 54, 0), 0)) (.leaf (54, (.iconst 1, 55, 0), 0))) (.branch 58 (.leaf (55, (.if_icmp .ne 38, 58, 93), 0)) (.leaf (58, (.iload_n 0, 59, 0), 0))))) (.branch 63 (.branch 61 (.branch 60 (.leaf (59, (.iload_n 3, 60, 0), 0)) (.leaf (60, (.iconst 1, 61, 0), 0))) (.branch 62 (.leaf (61, (.iload_n 2, 62, 0), 0)) (.leaf (62, (.ishl, 63, 0), 0)))) (.branch 67 (.branch 64 (.leaf (63, (.ior, 64, 0), 0)) (.leaf (64, (.invokestatic 260, 67, 176), 1460))) (.branch 68 (.leaf (67, (.iload_n 0, 68, 0), 0)) (.branch 69 (.leaf (68, (.iload_n 3, 69, 0), 0)) (.leaf (69, (.invokestatic 260, 72, 176), 1460))))))) (.branch 83 (.branch 79 (.branch 77 (.branch 75 (.leaf (72, (.if_icmp .ge 21, 75, 93), 0)) (.leaf (75, (.iload 4, 77, 0), 0))) (.branch 78 (.leaf (77, (.iload_n 0, 78, 0), 0)) (.leaf (78, (.iload_n 1, 79, 0), 0)))) (.branch 81 (.branch 80 (.leaf (79, (.iload_n 2, 80, 0), 0)) (.leaf (80, (.iconst 1, 81, 0), 0))) (.branch 82 (.leaf (81, (.iadd, 82, 0), 0)) (.leaf (82, (.iload_n 3, 83, 0), 0))))) (.branch 87 (.branch 85 (.branch 84 (.leaf (83, (.iconst 1, 84, 0), 0)) (.leaf (84, (.iload_n 2, 85, 0), 0))) (.branch 86 (.leaf (85, (.ishl, 86, 0), 0)) (.leaf (86, (.ior, 87, 0), 0)))) (.branch 91 (.branch 90 (.leaf (87, (.invokestatic 310, 90, 236), 1551)) (.leaf (90, (.iadd, 91, 0), 0))) (.branch 93 (.leaf (91, (.istore 4, 93, 0), 0)) (.branch 95 (.leaf (93, (.iload 4, 95, 0), 0)) (.leaf (95, (.ireturn, 96, 0), 0)))))))
/-- DeckBenchModel.treesFrom(IIII)I -/
def mt_236 : Lean.RArray mLf :=
  .branch 49 (mt_236_0) (mt_236_1)
set_option maxRecDepth 100000 in
/-- DeckBenchModel.trees(I)I -/
def mt_237 : Lean.RArray mLf :=
  .branch 26 (.branch 14 (.branch 5 (.branch 1 (.leaf (0, (.aload_n 0, 1, 0), 0)) (.branch 2 (.leaf (1, (.iconst 0, 2, 0), 0)) (.leaf (2, (.putfield 76, 5, 1204), 1174)))) (.branch 9 (.branch 6 (.leaf (5, (.iload_n 1, 6, 0), 0)) (.leaf (6, (.invokestatic 222, 9, 191), 1358))) (.branch 12 (.leaf (9, (.ifCond .ne 6, 12, 15), 0)) (.leaf (12, (.bipush (-2), 14, 0), 0))))) (.branch 20 (.branch 16 (.branch 15 (.leaf (14, (.ireturn, 15, 0), 0)) (.leaf (15, (.aload_n 0, 16, 0), 0))) (.branch 17 (.leaf (16, (.iload_n 1, 17, 0), 0)) (.leaf (17, (.invokevirtual 201, 20, 192), 1366)))) (.branch 22 (.branch 21 (.leaf (20, (.istore_n 2, 21, 0), 0)) (.leaf (21, (.iload_n 2, 22, 0), 0))) (.branch 25 (.leaf (22, (.ifCond .eq 16, 25, 38), 0)) (.leaf (25, (.iload_n 2, 26, 0), 0)))))) (.branch 42 (.branch 34 (.branch 28 (.branch 27 (.leaf (26, (.aload_n 0, 27, 0), 0)) (.leaf (27, (.iload_n 1, 28, 0), 0))) (.branch 31 (.leaf (28, (.invokevirtual 204, 31, 193), 1374)) (.leaf (31, (.invokestatic 260, 34, 176), 1460)))) (.branch 38 (.branch 35 (.leaf (34, (.iconst 1, 35, 0), 0)) (.leaf (35, (.if_icmp .le 7, 38, 42), 0))) (.branch 39 (.leaf (38, (.iconst 0, 39, 0), 0)) (.leaf (39, (.goto 14, 42, 53), 0))))) (.branch 48 (.branch 44 (.branch 43 (.leaf (42, (.iload_n 2, 43, 0), 0)) (.leaf (43, (.aload_n 0, 44, 0), 0))) (.branch 45 (.leaf (44, (.iload_n 1, 45, 0), 0)) (.leaf (45, (.invokevirtual 204, 48, 193), 1374)))) (.branch 50 (.branch 49 (.leaf (48, (.iconst 0, 49, 0), 0)) (.leaf (49, (.iconst 0, 50, 0), 0))) (.branch 53 (.leaf (50, (.invokestatic 310, 53, 236), 1551)) (.leaf (53, (.ireturn, 54, 0), 0))))))
set_option maxRecDepth 100000 in
def mt_238_0 : Lean.RArray mLf :=
  .branch 27 (.branch 13 (.branch 5 (.branch 2 (.branch 1 (.leaf (0, (.iconst 0, 1, 0), 0)) (.leaf (1, (.istore_n 3, 2, 0), 0))) (.branch 3 (.leaf (2, (.iload_n 3, 3, 0), 0)) (.leaf (3, (.bipush 49, 5, 0), 0)))) (.branch 9 (.branch 8 (.leaf (5, (.if_icmp .ge 16, 8, 21), 0)) (.leaf (8, (.aload_n 0, 9, 0), 0))) (.branch 12 (.leaf (9, (.getfield 64, 12, 1227), 1197)) (.leaf (12, (.iload_n 3, 13, 0), 0))))) (.branch 21 (.branch 15 (.branch 14 (.leaf (13, (.lconst 0, 14, 0), 0)) (.leaf (14, (.lastore, 15, 0), 0))) (.branch 18 (.leaf (15, (.iinc 3 1, 18, 0), 0)) (.leaf (18, (.goto (-16), 21, 2), 0)))) (.branch 25 (.branch 22 (.leaf (21, (.aload_n 0, 22, 0), 0)) (.leaf (22, (.getfield 60, 25, 1226), 1196))) (.branch 26 (.leaf (25, (.iconst 0, 26, 0), 0)) (.leaf (26, (.lconst 1, 27, 0), 0)))))) (.branch 38 (.branch 31 (.branch 29 (.branch 28 (.leaf (27, (.lastore, 28, 0), 0)) (.leaf (28, (.iconst 1, 29, 0), 0))) (.branch 30 (.leaf (29, (.istore_n 3, 30, 0), 0)) (.leaf (30, (.iload_n 3, 31, 0), 0)))) (.branch 35 (.branch 32 (.leaf (31, (.iload_n 1, 32, 0), 0)) (.leaf (32, (.if_icmp .gt 207, 35, 239), 0))) (.branch 36 (.leaf (35, (.iconst 0, 36, 0), 0)) (.leaf (36, (.istore 4, 38, 0), 0))))) (.branch 45 (.branch 41 (.branch 40 (.leaf (38, (.iload 4, 40, 0), 0)) (.leaf (40, (.iload_n 1, 41, 0), 0))) (.branch 44 (.leaf (41, (.if_icmp .ge 33, 44, 74), 0)) (.leaf (44, (.aload_n 0, 45, 0), 0)))) (.branch 50 (.branch 48 (.leaf (45, (.getfield 64, 48, 1227), 1197)) (.leaf (48, (.bipush 7, 50, 0), 0))) (.branch 52 (.leaf (50, (.iload 4, 52, 0), 0)) (.branch 53 (.leaf (52, (.imul, 53, 0), 0)) (.leaf (53, (.iload 4, 55, 0), 0)))))))
set_option maxRecDepth 100000 in
def mt_238_1 : Lean.RArray mLf :=
  .branch 80 (.branch 65 (.branch 59 (.branch 57 (.branch 56 (.leaf (55, (.iadd, 56, 0), 0)) (.leaf (56, (.dup2, 57, 0), 0))) (.branch 58 (.leaf (57, (.laload, 58, 0), 0)) (.leaf (58, (.aload_n 0, 59, 0), 0)))) (.branch 63 (.branch 62 (.leaf (59, (.getfield 60, 62, 1226), 1196)) (.leaf (62, (.iload_n 3, 63, 0), 0))) (.branch 64 (.leaf (63, (.iconst 1, 64, 0), 0)) (.leaf (64, (.isub, 65, 0), 0))))) (.branch 71 (.branch 67 (.branch 66 (.leaf (65, (.laload, 66, 0), 0)) (.leaf (66, (.ladd, 67, 0), 0))) (.branch 68 (.leaf (67, (.lastore, 68, 0), 0)) (.leaf (68, (.iinc 4 1, 71, 0), 0)))) (.branch 75 (.branch 74 (.leaf (71, (.goto (-33), 74, 38), 0)) (.leaf (74, (.lconst 0, 75, 0), 0))) (.branch 77 (.leaf (75, (.lstore 4, 77, 0), 0)) (.branch 78 (.leaf (77, (.iconst 0, 78, 0), 0)) (.leaf (78, (.istore 6, 80, 0), 0))))))) (.branch 95 (.branch 87 (.branch 83 (.branch 82 (.leaf (80, (.iload 6, 82, 0), 0)) (.leaf (82, (.iload_n 1, 83, 0), 0))) (.branch 86 (.leaf (83, (.if_icmp .ge 108, 86, 191), 0)) (.leaf (86, (.iconst 0, 87, 0), 0)))) (.branch 91 (.branch 89 (.leaf (87, (.istore 7, 89, 0), 0)) (.leaf (89, (.iload 7, 91, 0), 0))) (.branch 92 (.leaf (91, (.iload_n 1, 92, 0), 0)) (.leaf (92, (.if_icmp .ge 93, 95, 185), 0))))) (.branch 101 (.branch 98 (.branch 96 (.leaf (95, (.lconst 0, 96, 0), 0)) (.leaf (96, (.lstore 8, 98, 0), 0))) (.branch 99 (.leaf (98, (.iconst 0, 99, 0), 0)) (.leaf (99, (.istore 10, 101, 0), 0)))) (.branch 104 (.branch 103 (.leaf (101, (.iload 10, 103, 0), 0)) (.leaf (103, (.iload_n 1, 104, 0), 0))) (.branch 107 (.leaf (104, (.if_icmp .ge 42, 107, 146), 0)) (.branch 109 (.leaf (107, (.lload 8, 109, 0), 0)) (.leaf (109, (.iload_n 2, 110, 0), 0)))))))
set_option maxRecDepth 100000 in
def mt_238_2 : Lean.RArray mLf :=
  .branch 140 (.branch 128 (.branch 120 (.branch 114 (.branch 112 (.leaf (110, (.iload 6, 112, 0), 0)) (.leaf (112, (.iload 10, 114, 0), 0))) (.branch 117 (.leaf (114, (.invokestatic 95, 117, 167), 1316)) (.leaf (117, (.ifCond .eq 19, 120, 136), 0)))) (.branch 124 (.branch 121 (.leaf (120, (.aload_n 0, 121, 0), 0)) (.leaf (121, (.getfield 64, 124, 1227), 1197))) (.branch 126 (.leaf (124, (.bipush 7, 126, 0), 0)) (.leaf (126, (.iload 10, 128, 0), 0))))) (.branch 133 (.branch 131 (.branch 129 (.leaf (128, (.imul, 129, 0), 0)) (.leaf (129, (.iload 7, 131, 0), 0))) (.branch 132 (.leaf (131, (.iadd, 132, 0), 0)) (.leaf (132, (.laload, 133, 0), 0)))) (.branch 137 (.branch 136 (.leaf (133, (.goto 4, 136, 137), 0)) (.leaf (136, (.lconst 0, 137, 0), 0))) (.branch 138 (.leaf (137, (.ladd, 138, 0), 0)) (.leaf (138, (.lstore 8, 140, 0), 0)))))) (.branch 157 (.branch 150 (.branch 146 (.branch 143 (.leaf (140, (.iinc 10 1, 143, 0), 0)) (.leaf (143, (.goto (-42), 146, 101), 0))) (.branch 147 (.leaf (146, (.aload_n 0, 147, 0), 0)) (.leaf (147, (.getfield 67, 150, 1228), 1198)))) (.branch 154 (.branch 152 (.leaf (150, (.bipush 7, 152, 0), 0)) (.leaf (152, (.iload 6, 154, 0), 0))) (.branch 155 (.leaf (154, (.imul, 155, 0), 0)) (.leaf (155, (.iload 7, 157, 0), 0))))) (.branch 163 (.branch 160 (.branch 158 (.leaf (157, (.iadd, 158, 0), 0)) (.leaf (158, (.lload 8, 160, 0), 0))) (.branch 161 (.leaf (160, (.lastore, 161, 0), 0)) (.leaf (161, (.lload 4, 163, 0), 0)))) (.branch 167 (.branch 165 (.leaf (163, (.iload 6, 165, 0), 0)) (.leaf (165, (.iload 7, 167, 0), 0))) (.branch 170 (.leaf (167, (.if_icmp .ne 8, 170, 175), 0)) (.branch 172 (.leaf (170, (.lload 8, 172, 0), 0)) (.leaf (172, (.goto 4, 175, 176), 0)))))))
set_option maxRecDepth 100000 in
def mt_238_3 : Lean.RArray mLf :=
  .branch 211 (.branch 192 (.branch 182 (.branch 177 (.branch 176 (.leaf (175, (.lconst 0, 176, 0), 0)) (.leaf (176, (.ladd, 177, 0), 0))) (.branch 179 (.leaf (177, (.lstore 4, 179, 0), 0)) (.leaf (179, (.iinc 7 1, 182, 0), 0)))) (.branch 188 (.branch 185 (.leaf (182, (.goto (-93), 185, 89), 0)) (.leaf (185, (.iinc 6 1, 188, 0), 0))) (.branch 191 (.leaf (188, (.goto (-108), 191, 80), 0)) (.leaf (191, (.iconst 0, 192, 0), 0))))) (.branch 201 (.branch 196 (.branch 194 (.leaf (192, (.istore 6, 194, 0), 0)) (.leaf (194, (.iload 6, 196, 0), 0))) (.branch 198 (.leaf (196, (.bipush 49, 198, 0), 0)) (.leaf (198, (.if_icmp .ge 23, 201, 221), 0)))) (.branch 205 (.branch 202 (.leaf (201, (.aload_n 0, 202, 0), 0)) (.leaf (202, (.getfield 64, 205, 1227), 1197))) (.branch 207 (.leaf (205, (.iload 6, 207, 0), 0)) (.branch 208 (.leaf (207, (.aload_n 0, 208, 0), 0)) (.leaf (208, (.getfield 67, 211, 1228), 1198))))))) (.branch 226 (.branch 218 (.branch 214 (.branch 213 (.leaf (211, (.iload 6, 213, 0), 0)) (.leaf (213, (.laload, 214, 0), 0))) (.branch 215 (.leaf (214, (.lastore, 215, 0), 0)) (.leaf (215, (.iinc 6 1, 218, 0), 0)))) (.branch 222 (.branch 221 (.leaf (218, (.goto (-24), 221, 194), 0)) (.leaf (221, (.aload_n 0, 222, 0), 0))) (.branch 225 (.leaf (222, (.getfield 60, 225, 1226), 1196)) (.leaf (225, (.iload_n 3, 226, 0), 0))))) (.branch 231 (.branch 229 (.branch 228 (.leaf (226, (.lload 4, 228, 0), 0)) (.leaf (228, (.lneg, 229, 0), 0))) (.branch 230 (.leaf (229, (.iload_n 3, 230, 0), 0)) (.leaf (230, (.i2l, 231, 0), 0)))) (.branch 233 (.branch 232 (.leaf (231, (.ldiv, 232, 0), 0)) (.leaf (232, (.lastore, 233, 0), 0))) (.branch 236 (.leaf (233, (.iinc 3 1, 236, 0), 0)) (.branch 239 (.leaf (236, (.goto (-206), 239, 30), 0)) (.leaf (239, (.return_, 240, 0), 0)))))))
/-- DeckBenchModel.laysTerms(II)V -/
def mt_238 : Lean.RArray mLf :=
  .branch 110 (.branch 55 (mt_238_0) (mt_238_1)) (.branch 175 (mt_238_2) (mt_238_3))
set_option maxRecDepth 100000 in
/-- DeckBenchModel.term(II)I -/
def mt_239 : Lean.RArray mLf :=
  .branch 30 (.branch 15 (.branch 6 (.branch 2 (.branch 1 (.leaf (0, (.aload_n 0, 1, 0), 0)) (.leaf (1, (.iconst 0, 2, 0), 0))) (.branch 5 (.leaf (2, (.putfield 76, 5, 1204), 1174)) (.leaf (5, (.iload_n 1, 6, 0), 0)))) (.branch 12 (.branch 9 (.leaf (6, (.invokestatic 222, 9, 191), 1358)) (.leaf (9, (.ifCond .ne 6, 12, 15), 0))) (.branch 14 (.leaf (12, (.bipush (-2), 14, 0), 0)) (.leaf (14, (.ireturn, 15, 0), 0))))) (.branch 19 (.branch 17 (.branch 16 (.leaf (15, (.iload_n 2, 16, 0), 0)) (.leaf (16, (.i2l, 17, 0), 0))) (.branch 18 (.leaf (17, (.lconst 0, 18, 0), 0)) (.leaf (18, (.aload_n 0, 19, 0), 0)))) (.branch 23 (.branch 20 (.leaf (19, (.iload_n 1, 20, 0), 0)) (.leaf (20, (.invokevirtual 201, 23, 192), 1366))) (.branch 24 (.leaf (23, (.i2l, 24, 0), 0)) (.branch 27 (.leaf (24, (.invokestatic 134, 27, 165), 1272)) (.leaf (27, (.ifCond .ne 6, 30, 33), 0))))))) (.branch 44 (.branch 35 (.branch 33 (.branch 32 (.leaf (30, (.bipush (-3), 32, 0), 0)) (.leaf (32, (.ireturn, 33, 0), 0))) (.branch 34 (.leaf (33, (.aload_n 0, 34, 0), 0)) (.leaf (34, (.aload_n 0, 35, 0), 0)))) (.branch 39 (.branch 36 (.leaf (35, (.iload_n 1, 36, 0), 0)) (.leaf (36, (.invokevirtual 201, 39, 192), 1366))) (.branch 40 (.leaf (39, (.aload_n 0, 40, 0), 0)) (.branch 41 (.leaf (40, (.iload_n 1, 41, 0), 0)) (.leaf (41, (.invokevirtual 204, 44, 193), 1374)))))) (.branch 54 (.branch 50 (.branch 47 (.leaf (44, (.invokevirtual 313, 47, 238), 1558)) (.leaf (47, (.sipush 10000, 50, 0), 0))) (.branch 51 (.leaf (50, (.aload_n 0, 51, 0), 0)) (.leaf (51, (.getfield 60, 54, 1226), 1196)))) (.branch 56 (.branch 55 (.leaf (54, (.iload_n 2, 55, 0), 0)) (.leaf (55, (.laload, 56, 0), 0))) (.branch 57 (.leaf (56, (.l2i, 57, 0), 0)) (.branch 58 (.leaf (57, (.iadd, 58, 0), 0)) (.leaf (58, (.ireturn, 59, 0), 0)))))))
set_option maxRecDepth 100000 in
def mt_240_0 : Lean.RArray mLf :=
  .branch 24 (.branch 12 (.branch 6 (.branch 2 (.branch 1 (.leaf (0, (.aload_n 0, 1, 0), 0)) (.leaf (1, (.iconst 0, 2, 0), 0))) (.branch 5 (.leaf (2, (.putfield 76, 5, 1204), 1174)) (.leaf (5, (.aload_n 0, 6, 0), 0)))) (.branch 10 (.branch 7 (.leaf (6, (.iload_n 1, 7, 0), 0)) (.leaf (7, (.invokevirtual 209, 10, 197), 1431))) (.branch 11 (.leaf (10, (.istore_n 3, 11, 0), 0)) (.leaf (11, (.iload_n 3, 12, 0), 0))))) (.branch 19 (.branch 17 (.branch 15 (.leaf (12, (.ifCond .ne 6, 15, 18), 0)) (.leaf (15, (.bipush (-2), 17, 0), 0))) (.branch 18 (.leaf (17, (.ireturn, 18, 0), 0)) (.leaf (18, (.iload_n 2, 19, 0), 0)))) (.branch 21 (.branch 20 (.leaf (19, (.i2l, 20, 0), 0)) (.leaf (20, (.lconst 0, 21, 0), 0))) (.branch 22 (.leaf (21, (.iload_n 3, 22, 0), 0)) (.branch 23 (.leaf (22, (.iconst 1, 23, 0), 0)) (.leaf (23, (.isub, 24, 0), 0))))))) (.branch 38 (.branch 33 (.branch 28 (.branch 25 (.leaf (24, (.i2l, 25, 0), 0)) (.leaf (25, (.invokestatic 134, 28, 165), 1272))) (.branch 31 (.leaf (28, (.ifCond .ne 6, 31, 34), 0)) (.leaf (31, (.bipush (-3), 33, 0), 0)))) (.branch 35 (.branch 34 (.leaf (33, (.ireturn, 34, 0), 0)) (.leaf (34, (.lconst 0, 35, 0), 0))) (.branch 37 (.leaf (35, (.lstore 4, 37, 0), 0)) (.leaf (37, (.iconst 0, 38, 0), 0))))) (.branch 46 (.branch 42 (.branch 40 (.leaf (38, (.istore 6, 40, 0), 0)) (.leaf (40, (.iload 6, 42, 0), 0))) (.branch 43 (.leaf (42, (.iload_n 3, 43, 0), 0)) (.leaf (43, (.if_icmp .ge 34, 46, 77), 0)))) (.branch 48 (.branch 47 (.leaf (46, (.aload_n 0, 47, 0), 0)) (.leaf (47, (.iload_n 3, 48, 0), 0))) (.branch 49 (.leaf (48, (.iconst 1, 49, 0), 0)) (.branch 50 (.leaf (49, (.isub, 50, 0), 0)) (.leaf (50, (.aload_n 0, 51, 0), 0)))))))
set_option maxRecDepth 100000 in
def mt_240_1 : Lean.RArray mLf :=
  .branch 82 (.branch 67 (.branch 60 (.branch 54 (.branch 52 (.leaf (51, (.iload_n 1, 52, 0), 0)) (.leaf (52, (.iload 6, 54, 0), 0))) (.branch 57 (.leaf (54, (.invokevirtual 216, 57, 198), 1439)) (.leaf (57, (.invokevirtual 313, 60, 238), 1558)))) (.branch 63 (.branch 62 (.leaf (60, (.lload 4, 62, 0), 0)) (.leaf (62, (.aload_n 0, 63, 0), 0))) (.branch 66 (.leaf (63, (.getfield 60, 66, 1226), 1196)) (.leaf (66, (.iload_n 2, 67, 0), 0))))) (.branch 74 (.branch 69 (.branch 68 (.leaf (67, (.laload, 68, 0), 0)) (.leaf (68, (.ladd, 69, 0), 0))) (.branch 71 (.leaf (69, (.lstore 4, 71, 0), 0)) (.leaf (71, (.iinc 6 1, 74, 0), 0)))) (.branch 79 (.branch 77 (.leaf (74, (.goto (-34), 77, 40), 0)) (.leaf (77, (.lload 4, 79, 0), 0))) (.branch 80 (.leaf (79, (.iload_n 3, 80, 0), 0)) (.branch 81 (.leaf (80, (.iload_n 2, 81, 0), 0)) (.leaf (81, (.isub, 82, 0), 0))))))) (.branch 96 (.branch 86 (.branch 84 (.branch 83 (.leaf (82, (.i2l, 83, 0), 0)) (.leaf (83, (.lrem, 84, 0), 0))) (.branch 85 (.leaf (84, (.lconst 0, 85, 0), 0)) (.leaf (85, (.lcmp, 86, 0), 0)))) (.branch 90 (.branch 89 (.leaf (86, (.ifCond .eq 7, 89, 93), 0)) (.leaf (89, (.iconst (-1), 90, 0), 0))) (.branch 93 (.leaf (90, (.goto 15, 93, 105), 0)) (.leaf (93, (.sipush 10000, 96, 0), 0))))) (.branch 101 (.branch 99 (.branch 98 (.leaf (96, (.lload 4, 98, 0), 0)) (.leaf (98, (.iload_n 3, 99, 0), 0))) (.branch 100 (.leaf (99, (.iload_n 2, 100, 0), 0)) (.leaf (100, (.isub, 101, 0), 0)))) (.branch 103 (.branch 102 (.leaf (101, (.i2l, 102, 0), 0)) (.leaf (102, (.ldiv, 103, 0), 0))) (.branch 104 (.leaf (103, (.l2i, 104, 0), 0)) (.branch 105 (.leaf (104, (.iadd, 105, 0), 0)) (.leaf (105, (.ireturn, 106, 0), 0)))))))
/-- DeckBenchModel.toldTerm(II)I -/
def mt_240 : Lean.RArray mLf :=
  .branch 51 (mt_240_0) (mt_240_1)
set_option maxRecDepth 100000 in
def mt_241_0 : Lean.RArray mLf :=
  .branch 32 (.branch 14 (.branch 6 (.branch 2 (.branch 1 (.leaf (0, (.aload_n 0, 1, 0), 0)) (.leaf (1, (.iconst 0, 2, 0), 0))) (.branch 5 (.leaf (2, (.putfield 76, 5, 1204), 1174)) (.leaf (5, (.iload_n 1, 6, 0), 0)))) (.branch 12 (.branch 9 (.leaf (6, (.invokestatic 222, 9, 191), 1358)) (.leaf (9, (.ifCond .eq 21, 12, 30), 0))) (.branch 13 (.leaf (12, (.aload_n 0, 13, 0), 0)) (.leaf (13, (.iload_n 1, 14, 0), 0))))) (.branch 22 (.branch 18 (.branch 15 (.leaf (14, (.iload_n 2, 15, 0), 0)) (.leaf (15, (.invokevirtual 225, 18, 195), 1362))) (.branch 21 (.leaf (18, (.ifCond .eq 12, 21, 30), 0)) (.leaf (21, (.aload_n 0, 22, 0), 0)))) (.branch 24 (.branch 23 (.leaf (22, (.iload_n 1, 23, 0), 0)) (.leaf (23, (.iload_n 3, 24, 0), 0))) (.branch 27 (.leaf (24, (.invokevirtual 225, 27, 195), 1362)) (.branch 30 (.leaf (27, (.ifCond .ne 6, 30, 33), 0)) (.leaf (30, (.bipush (-2), 32, 0), 0))))))) (.branch 45 (.branch 38 (.branch 34 (.branch 33 (.leaf (32, (.ireturn, 33, 0), 0)) (.leaf (33, (.aload_n 0, 34, 0), 0))) (.branch 35 (.leaf (34, (.iload_n 1, 35, 0), 0)) (.leaf (35, (.invokevirtual 201, 38, 192), 1366)))) (.branch 41 (.branch 40 (.leaf (38, (.istore 4, 40, 0), 0)) (.leaf (40, (.iconst 1, 41, 0), 0))) (.branch 42 (.leaf (41, (.iload_n 2, 42, 0), 0)) (.branch 43 (.leaf (42, (.ishl, 43, 0), 0)) (.leaf (43, (.istore 5, 45, 0), 0)))))) (.branch 52 (.branch 48 (.branch 46 (.leaf (45, (.iconst 0, 46, 0), 0)) (.leaf (46, (.istore 6, 48, 0), 0))) (.branch 50 (.leaf (48, (.iload 6, 50, 0), 0)) (.leaf (50, (.iload 4, 52, 0), 0)))) (.branch 57 (.branch 55 (.leaf (52, (.if_icmp .ge 74, 55, 126), 0)) (.leaf (55, (.iload 5, 57, 0), 0))) (.branch 58 (.leaf (57, (.iload_n 3, 58, 0), 0)) (.branch 59 (.leaf (58, (.ishr, 59, 0), 0)) (.leaf (59, (.iconst 1, 60, 0), 0)))))))
set_option maxRecDepth 100000 in
def mt_241_1 : Lean.RArray mLf :=
  .branch 90 (.branch 75 (.branch 67 (.branch 62 (.branch 61 (.leaf (60, (.iand, 61, 0), 0)) (.leaf (61, (.iconst 1, 62, 0), 0))) (.branch 65 (.leaf (62, (.if_icmp .ne 6, 65, 68), 0)) (.leaf (65, (.iload 6, 67, 0), 0)))) (.branch 70 (.branch 68 (.leaf (67, (.ireturn, 68, 0), 0)) (.leaf (68, (.iload 5, 70, 0), 0))) (.branch 72 (.leaf (70, (.istore 7, 72, 0), 0)) (.branch 73 (.leaf (72, (.iconst 0, 73, 0), 0)) (.leaf (73, (.istore 8, 75, 0), 0)))))) (.branch 84 (.branch 79 (.branch 77 (.leaf (75, (.iload 8, 77, 0), 0)) (.leaf (77, (.iload 4, 79, 0), 0))) (.branch 82 (.leaf (79, (.if_icmp .ge 37, 82, 116), 0)) (.leaf (82, (.iload 5, 84, 0), 0)))) (.branch 87 (.branch 86 (.leaf (84, (.iload 8, 86, 0), 0)) (.leaf (86, (.ishr, 87, 0), 0))) (.branch 88 (.leaf (87, (.iconst 1, 88, 0), 0)) (.branch 89 (.leaf (88, (.iand, 89, 0), 0)) (.leaf (89, (.iconst 1, 90, 0), 0))))))) (.branch 108 (.branch 98 (.branch 95 (.branch 93 (.leaf (90, (.if_icmp .ne 20, 93, 110), 0)) (.leaf (93, (.iload 7, 95, 0), 0))) (.branch 97 (.leaf (95, (.iload 4, 97, 0), 0)) (.leaf (97, (.aload_n 0, 98, 0), 0)))) (.branch 102 (.branch 99 (.leaf (98, (.iload_n 1, 99, 0), 0)) (.leaf (99, (.invokevirtual 204, 102, 193), 1374))) (.branch 104 (.leaf (102, (.iload 8, 104, 0), 0)) (.branch 107 (.leaf (104, (.invokestatic 112, 107, 175), 1463)) (.leaf (107, (.ior, 108, 0), 0)))))) (.branch 118 (.branch 113 (.branch 110 (.leaf (108, (.istore 7, 110, 0), 0)) (.leaf (110, (.iinc 8 1, 113, 0), 0))) (.branch 116 (.leaf (113, (.goto (-38), 116, 75), 0)) (.leaf (116, (.iload 7, 118, 0), 0)))) (.branch 123 (.branch 120 (.leaf (118, (.istore 5, 120, 0), 0)) (.leaf (120, (.iinc 6 1, 123, 0), 0))) (.branch 126 (.leaf (123, (.goto (-75), 126, 48), 0)) (.branch 127 (.leaf (126, (.iconst (-1), 127, 0), 0)) (.leaf (127, (.ireturn, 128, 0), 0)))))))
/-- DeckBenchModel.far(III)I -/
def mt_241 : Lean.RArray mLf :=
  .branch 60 (mt_241_0) (mt_241_1)
set_option maxRecDepth 100000 in
/-- DeckBenchModel.card(II)I -/
def mt_242 : Lean.RArray mLf :=
  .branch 33 (.branch 17 (.branch 6 (.branch 2 (.branch 1 (.leaf (0, (.aload_n 0, 1, 0), 0)) (.leaf (1, (.iconst 0, 2, 0), 0))) (.branch 5 (.leaf (2, (.putfield 76, 5, 1204), 1174)) (.leaf (5, (.iload_n 1, 6, 0), 0)))) (.branch 8 (.branch 7 (.leaf (6, (.i2l, 7, 0), 0)) (.leaf (7, (.lconst 0, 8, 0), 0))) (.branch 11 (.leaf (8, (.ldc2_w 207, 11, 2), 1415)) (.branch 14 (.leaf (11, (.invokestatic 134, 14, 165), 1272)) (.leaf (14, (.ifCond .ne 6, 17, 20), 0)))))) (.branch 22 (.branch 20 (.branch 19 (.leaf (17, (.bipush (-2), 19, 0), 0)) (.leaf (19, (.ireturn, 20, 0), 0))) (.branch 21 (.leaf (20, (.iload_n 2, 21, 0), 0)) (.leaf (21, (.iconst (-1), 22, 0), 0)))) (.branch 26 (.branch 25 (.leaf (22, (.if_icmp .ne 21, 25, 43), 0)) (.leaf (25, (.aload_n 0, 26, 0), 0))) (.branch 27 (.leaf (26, (.iload_n 1, 27, 0), 0)) (.branch 30 (.leaf (27, (.invokevirtual 209, 30, 197), 1431)) (.leaf (30, (.ifCond .ne 7, 33, 37), 0))))))) (.branch 46 (.branch 39 (.branch 37 (.branch 34 (.leaf (33, (.iconst (-1), 34, 0), 0)) (.leaf (34, (.goto 8, 37, 42), 0))) (.branch 38 (.leaf (37, (.aload_n 0, 38, 0), 0)) (.leaf (38, (.iload_n 1, 39, 0), 0)))) (.branch 43 (.branch 42 (.leaf (39, (.invokevirtual 209, 42, 197), 1431)) (.leaf (42, (.ireturn, 43, 0), 0))) (.branch 44 (.leaf (43, (.aload_n 0, 44, 0), 0)) (.branch 45 (.leaf (44, (.iload_n 1, 45, 0), 0)) (.leaf (45, (.iload_n 2, 46, 0), 0)))))) (.branch 54 (.branch 52 (.branch 49 (.leaf (46, (.invokevirtual 249, 49, 199), 1427)) (.leaf (49, (.ifCond .eq 12, 52, 61), 0))) (.branch 53 (.leaf (52, (.aload_n 0, 53, 0), 0)) (.leaf (53, (.iload_n 1, 54, 0), 0)))) (.branch 58 (.branch 55 (.leaf (54, (.iload_n 2, 55, 0), 0)) (.leaf (55, (.invokevirtual 216, 58, 198), 1439))) (.branch 61 (.leaf (58, (.goto 5, 61, 63), 0)) (.branch 63 (.leaf (61, (.bipush (-2), 63, 0), 0)) (.leaf (63, (.ireturn, 64, 0), 0)))))))
set_option maxRecDepth 100000 in
def mt_243_0 : Lean.RArray mLf :=
  .branch 34 (.branch 15 (.branch 6 (.branch 2 (.branch 1 (.leaf (0, (.aload_n 0, 1, 0), 0)) (.leaf (1, (.iconst 0, 2, 0), 0))) (.branch 5 (.leaf (2, (.putfield 76, 5, 1204), 1174)) (.leaf (5, (.aload_n 0, 6, 0), 0)))) (.branch 10 (.branch 7 (.leaf (6, (.iload_n 1, 7, 0), 0)) (.leaf (7, (.invokevirtual 209, 10, 197), 1431))) (.branch 13 (.leaf (10, (.ifCond .eq 11, 13, 21), 0)) (.branch 14 (.leaf (13, (.aload_n 0, 14, 0), 0)) (.leaf (14, (.iload_n 2, 15, 0), 0)))))) (.branch 25 (.branch 21 (.branch 18 (.leaf (15, (.invokevirtual 209, 18, 197), 1431)) (.leaf (18, (.ifCond .ne 6, 21, 24), 0))) (.branch 23 (.leaf (21, (.bipush (-2), 23, 0), 0)) (.branch 24 (.leaf (23, (.ireturn, 24, 0), 0)) (.leaf (24, (.aload_n 0, 25, 0), 0))))) (.branch 29 (.branch 26 (.leaf (25, (.iload_n 1, 26, 0), 0)) (.leaf (26, (.invokevirtual 209, 29, 197), 1431))) (.branch 30 (.leaf (29, (.aload_n 0, 30, 0), 0)) (.branch 31 (.leaf (30, (.iload_n 2, 31, 0), 0)) (.leaf (31, (.invokevirtual 209, 34, 197), 1431))))))) (.branch 49 (.branch 41 (.branch 38 (.branch 37 (.leaf (34, (.if_icmp .eq 5, 37, 39), 0)) (.leaf (37, (.iconst 0, 38, 0), 0))) (.branch 39 (.leaf (38, (.ireturn, 39, 0), 0)) (.branch 40 (.leaf (39, (.iconst 0, 40, 0), 0)) (.leaf (40, (.istore_n 3, 41, 0), 0))))) (.branch 44 (.branch 42 (.leaf (41, (.iconst 0, 42, 0), 0)) (.leaf (42, (.istore 4, 44, 0), 0))) (.branch 45 (.leaf (44, (.iconst 0, 45, 0), 0)) (.branch 47 (.leaf (45, (.istore 5, 47, 0), 0)) (.leaf (47, (.iload 4, 49, 0), 0)))))) (.branch 59 (.branch 51 (.branch 50 (.leaf (49, (.aload_n 0, 50, 0), 0)) (.leaf (50, (.iload_n 1, 51, 0), 0))) (.branch 54 (.leaf (51, (.invokevirtual 209, 54, 197), 1431)) (.branch 57 (.leaf (54, (.if_icmp .ge 83, 57, 137), 0)) (.leaf (57, (.iload 5, 59, 0), 0))))) (.branch 61 (.branch 60 (.leaf (59, (.aload_n 0, 60, 0), 0)) (.leaf (60, (.iload_n 1, 61, 0), 0))) (.branch 64 (.leaf (61, (.invokevirtual 209, 64, 197), 1431)) (.branch 67 (.leaf (64, (.if_icmp .ge 73, 67, 137), 0)) (.leaf (67, (.aload_n 0, 68, 0), 0)))))))
set_option maxRecDepth 100000 in
def mt_243_1 : Lean.RArray mLf :=
  .branch 102 (.branch 85 (.branch 76 (.branch 71 (.branch 69 (.leaf (68, (.iload_n 1, 69, 0), 0)) (.leaf (69, (.iload 4, 71, 0), 0))) (.branch 74 (.leaf (71, (.invokevirtual 216, 74, 198), 1439)) (.leaf (74, (.istore 6, 76, 0), 0)))) (.branch 78 (.branch 77 (.leaf (76, (.aload_n 0, 77, 0), 0)) (.leaf (77, (.iload_n 2, 78, 0), 0))) (.branch 80 (.leaf (78, (.iload 5, 80, 0), 0)) (.branch 83 (.leaf (80, (.invokevirtual 216, 83, 198), 1439)) (.leaf (83, (.istore 7, 85, 0), 0)))))) (.branch 94 (.branch 88 (.branch 86 (.leaf (85, (.iload_n 3, 86, 0), 0)) (.leaf (86, (.iload 6, 88, 0), 0))) (.branch 90 (.leaf (88, (.iload 7, 90, 0), 0)) (.branch 93 (.leaf (90, (.if_icmp .ne 7, 93, 97), 0)) (.leaf (93, (.iconst 1, 94, 0), 0))))) (.branch 98 (.branch 97 (.leaf (94, (.goto 4, 97, 98), 0)) (.leaf (97, (.iconst 0, 98, 0), 0))) (.branch 99 (.leaf (98, (.iadd, 99, 0), 0)) (.branch 100 (.leaf (99, (.istore_n 3, 100, 0), 0)) (.leaf (100, (.iload 4, 102, 0), 0))))))) (.branch 121 (.branch 113 (.branch 106 (.branch 104 (.leaf (102, (.iload 6, 104, 0), 0)) (.leaf (104, (.iload 7, 106, 0), 0))) (.branch 109 (.leaf (106, (.if_icmp .gt 7, 109, 113), 0)) (.branch 110 (.leaf (109, (.iconst 1, 110, 0), 0)) (.leaf (110, (.goto 4, 113, 114), 0))))) (.branch 115 (.branch 114 (.leaf (113, (.iconst 0, 114, 0), 0)) (.leaf (114, (.iadd, 115, 0), 0))) (.branch 117 (.leaf (115, (.istore 4, 117, 0), 0)) (.branch 119 (.leaf (117, (.iload 5, 119, 0), 0)) (.leaf (119, (.iload 7, 121, 0), 0)))))) (.branch 131 (.branch 126 (.branch 123 (.leaf (121, (.iload 6, 123, 0), 0)) (.leaf (123, (.if_icmp .gt 7, 126, 130), 0))) (.branch 127 (.leaf (126, (.iconst 1, 127, 0), 0)) (.branch 130 (.leaf (127, (.goto 4, 130, 131), 0)) (.leaf (130, (.iconst 0, 131, 0), 0))))) (.branch 134 (.branch 132 (.leaf (131, (.iadd, 132, 0), 0)) (.leaf (132, (.istore 5, 134, 0), 0))) (.branch 137 (.leaf (134, (.goto (-87), 137, 47), 0)) (.branch 138 (.leaf (137, (.iload_n 3, 138, 0), 0)) (.leaf (138, (.ireturn, 139, 0), 0)))))))
/-- DeckBenchModel.common(II)I -/
def mt_243 : Lean.RArray mLf :=
  .branch 68 (mt_243_0) (mt_243_1)
set_option maxRecDepth 100000 in
/-- DeckBenchModel.toldLines(I)I -/
def mt_244 : Lean.RArray mLf :=
  .branch 27 (.branch 10 (.branch 4 (.branch 2 (.branch 1 (.leaf (0, (.iconst 0, 1, 0), 0)) (.leaf (1, (.istore_n 2, 2, 0), 0))) (.branch 3 (.leaf (2, (.iconst 0, 3, 0), 0)) (.leaf (3, (.istore_n 3, 4, 0), 0)))) (.branch 6 (.branch 5 (.leaf (4, (.iload_n 3, 5, 0), 0)) (.leaf (5, (.iload_n 1, 6, 0), 0))) (.branch 9 (.leaf (6, (.if_icmp .ge 21, 9, 27), 0)) (.leaf (9, (.iload_n 2, 10, 0), 0))))) (.branch 16 (.branch 14 (.branch 11 (.leaf (10, (.aload_n 0, 11, 0), 0)) (.leaf (11, (.getfield 33, 14, 1216), 1186))) (.branch 15 (.leaf (14, (.iload_n 3, 15, 0), 0)) (.leaf (15, (.iaload, 16, 0), 0)))) (.branch 20 (.branch 19 (.leaf (16, (.invokestatic 232, 19, 168), 1378)) (.leaf (19, (.iadd, 20, 0), 0))) (.branch 21 (.leaf (20, (.istore_n 2, 21, 0), 0)) (.branch 24 (.leaf (21, (.iinc 3 1, 24, 0), 0)) (.leaf (24, (.goto (-20), 27, 4), 0))))))) (.branch 37 (.branch 33 (.branch 29 (.branch 28 (.leaf (27, (.iload_n 1, 28, 0), 0)) (.leaf (28, (.iconst 2, 29, 0), 0))) (.branch 32 (.leaf (29, (.if_icmp .eq 11, 32, 40), 0)) (.leaf (32, (.iload_n 2, 33, 0), 0)))) (.branch 35 (.branch 34 (.leaf (33, (.iload_n 1, 34, 0), 0)) (.leaf (34, (.iconst 2, 35, 0), 0))) (.branch 36 (.leaf (35, (.isub, 36, 0), 0)) (.leaf (36, (.irem, 37, 0), 0))))) (.branch 45 (.branch 41 (.branch 40 (.leaf (37, (.ifCond .eq 7, 40, 44), 0)) (.leaf (40, (.iconst (-1), 41, 0), 0))) (.branch 44 (.leaf (41, (.goto 8, 44, 49), 0)) (.leaf (44, (.iload_n 2, 45, 0), 0)))) (.branch 47 (.branch 46 (.leaf (45, (.iload_n 1, 46, 0), 0)) (.leaf (46, (.iconst 2, 47, 0), 0))) (.branch 48 (.leaf (47, (.isub, 48, 0), 0)) (.branch 49 (.leaf (48, (.idiv, 49, 0), 0)) (.leaf (49, (.ireturn, 50, 0), 0)))))))
set_option maxRecDepth 100000 in
/-- DeckBenchModel.toldOf(III)I -/
def mt_245 : Lean.RArray mLf :=
  .branch 27 (.branch 15 (.branch 6 (.branch 3 (.branch 1 (.leaf (0, (.iconst 0, 1, 0), 0)) (.leaf (1, (.istore 4, 3, 0), 0))) (.branch 4 (.leaf (3, (.iconst 0, 4, 0), 0)) (.leaf (4, (.istore 5, 6, 0), 0)))) (.branch 9 (.branch 8 (.leaf (6, (.iload 5, 8, 0), 0)) (.leaf (8, (.iload_n 1, 9, 0), 0))) (.branch 12 (.leaf (9, (.if_icmp .ge 30, 12, 39), 0)) (.branch 14 (.leaf (12, (.iload 4, 14, 0), 0)) (.leaf (14, (.aload_n 0, 15, 0), 0)))))) (.branch 19 (.branch 17 (.branch 16 (.leaf (15, (.iload_n 2, 16, 0), 0)) (.leaf (16, (.iload_n 3, 17, 0), 0))) (.branch 18 (.leaf (17, (.iload_n 1, 18, 0), 0)) (.leaf (18, (.iconst 1, 19, 0), 0)))) (.branch 21 (.branch 20 (.leaf (19, (.isub, 20, 0), 0)) (.leaf (20, (.aload_n 0, 21, 0), 0))) (.branch 24 (.leaf (21, (.getfield 33, 24, 1216), 1186)) (.branch 26 (.leaf (24, (.iload 5, 26, 0), 0)) (.leaf (26, (.iaload, 27, 0), 0))))))) (.branch 44 (.branch 36 (.branch 31 (.branch 30 (.leaf (27, (.invokevirtual 271, 30, 177), 1487)) (.leaf (30, (.iadd, 31, 0), 0))) (.branch 33 (.leaf (31, (.istore 4, 33, 0), 0)) (.leaf (33, (.iinc 5 1, 36, 0), 0)))) (.branch 41 (.branch 39 (.leaf (36, (.goto (-30), 39, 6), 0)) (.leaf (39, (.iload 4, 41, 0), 0))) (.branch 42 (.leaf (41, (.iload_n 1, 42, 0), 0)) (.branch 43 (.leaf (42, (.iload_n 2, 43, 0), 0)) (.leaf (43, (.isub, 44, 0), 0)))))) (.branch 54 (.branch 48 (.branch 45 (.leaf (44, (.irem, 45, 0), 0)) (.leaf (45, (.ifCond .eq 7, 48, 52), 0))) (.branch 49 (.leaf (48, (.iconst (-1), 49, 0), 0)) (.branch 52 (.leaf (49, (.goto 9, 52, 58), 0)) (.leaf (52, (.iload 4, 54, 0), 0))))) (.branch 56 (.branch 55 (.leaf (54, (.iload_n 1, 55, 0), 0)) (.leaf (55, (.iload_n 2, 56, 0), 0))) (.branch 57 (.leaf (56, (.isub, 57, 0), 0)) (.branch 58 (.leaf (57, (.idiv, 58, 0), 0)) (.leaf (58, (.ireturn, 59, 0), 0)))))))
set_option maxRecDepth 100000 in
def mt_246_0 : Lean.RArray mLf :=
  .branch 25 (.branch 12 (.branch 6 (.branch 2 (.branch 1 (.leaf (0, (.iload_n 1, 1, 0), 0)) (.leaf (1, (.iconst 2, 2, 0), 0))) (.branch 5 (.leaf (2, (.if_icmp .le 54, 5, 56), 0)) (.leaf (5, (.aload_n 0, 6, 0), 0)))) (.branch 10 (.branch 7 (.leaf (6, (.iload_n 1, 7, 0), 0)) (.leaf (7, (.invokevirtual 316, 10, 244), 1583))) (.branch 11 (.leaf (10, (.istore_n 2, 11, 0), 0)) (.leaf (11, (.iload_n 2, 12, 0), 0))))) (.branch 18 (.branch 16 (.branch 13 (.leaf (12, (.iconst (-1), 13, 0), 0)) (.leaf (13, (.if_icmp .ne 5, 16, 18), 0))) (.branch 17 (.leaf (16, (.iconst 1, 17, 0), 0)) (.leaf (17, (.ireturn, 18, 0), 0)))) (.branch 20 (.branch 19 (.leaf (18, (.iconst 0, 19, 0), 0)) (.leaf (19, (.istore_n 3, 20, 0), 0))) (.branch 21 (.leaf (20, (.iload_n 3, 21, 0), 0)) (.branch 22 (.leaf (21, (.iload_n 1, 22, 0), 0)) (.leaf (22, (.if_icmp .ge 34, 25, 56), 0))))))) (.branch 37 (.branch 31 (.branch 27 (.branch 26 (.leaf (25, (.iload_n 2, 26, 0), 0)) (.leaf (26, (.aload_n 0, 27, 0), 0))) (.branch 30 (.leaf (27, (.getfield 33, 30, 1216), 1186)) (.leaf (30, (.iload_n 3, 31, 0), 0)))) (.branch 35 (.branch 32 (.leaf (31, (.iaload, 32, 0), 0)) (.leaf (32, (.invokestatic 232, 35, 168), 1378))) (.branch 36 (.leaf (35, (.isub, 36, 0), 0)) (.leaf (36, (.i2l, 37, 0), 0))))) (.branch 41 (.branch 39 (.branch 38 (.leaf (37, (.lconst 0, 38, 0), 0)) (.leaf (38, (.iload_n 1, 39, 0), 0))) (.branch 40 (.leaf (39, (.iconst 1, 40, 0), 0)) (.leaf (40, (.isub, 41, 0), 0)))) (.branch 45 (.branch 42 (.leaf (41, (.i2l, 42, 0), 0)) (.leaf (42, (.invokestatic 134, 45, 165), 1272))) (.branch 48 (.leaf (45, (.ifCond .ne 5, 48, 50), 0)) (.branch 49 (.leaf (48, (.iconst 2, 49, 0), 0)) (.leaf (49, (.ireturn, 50, 0), 0)))))))
set_option maxRecDepth 100000 in
def mt_246_1 : Lean.RArray mLf :=
  .branch 80 (.branch 65 (.branch 58 (.branch 56 (.branch 53 (.leaf (50, (.iinc 3 1, 53, 0), 0)) (.leaf (53, (.goto (-33), 56, 20), 0))) (.branch 57 (.leaf (56, (.iconst 0, 57, 0), 0)) (.leaf (57, (.istore_n 2, 58, 0), 0)))) (.branch 61 (.branch 59 (.leaf (58, (.iload_n 2, 59, 0), 0)) (.leaf (59, (.bipush 8, 61, 0), 0))) (.branch 64 (.leaf (61, (.if_icmp .ge 37, 64, 98), 0)) (.leaf (64, (.iload_n 1, 65, 0), 0))))) (.branch 71 (.branch 69 (.branch 66 (.leaf (65, (.iconst 3, 66, 0), 0)) (.leaf (66, (.if_icmp .le 32, 69, 98), 0))) (.branch 70 (.leaf (69, (.aload_n 0, 70, 0), 0)) (.leaf (70, (.iconst 3, 71, 0), 0)))) (.branch 75 (.branch 72 (.leaf (71, (.iload_n 2, 72, 0), 0)) (.leaf (72, (.invokevirtual 115, 75, 172), 1330))) (.branch 76 (.leaf (75, (.iload_n 2, 76, 0), 0)) (.branch 79 (.leaf (76, (.if_icmp .ne 16, 79, 92), 0)) (.leaf (79, (.aload_n 0, 80, 0), 0))))))) (.branch 95 (.branch 86 (.branch 82 (.branch 81 (.leaf (80, (.iload_n 1, 81, 0), 0)) (.leaf (81, (.iconst 3, 82, 0), 0))) (.branch 83 (.leaf (82, (.iload_n 2, 83, 0), 0)) (.leaf (83, (.invokevirtual 319, 86, 245), 1595)))) (.branch 90 (.branch 87 (.leaf (86, (.iconst (-1), 87, 0), 0)) (.leaf (87, (.if_icmp .ne 5, 90, 92), 0))) (.branch 91 (.leaf (90, (.iconst 3, 91, 0), 0)) (.branch 92 (.leaf (91, (.ireturn, 92, 0), 0)) (.leaf (92, (.iinc 2 1, 95, 0), 0)))))) (.branch 103 (.branch 99 (.branch 98 (.leaf (95, (.goto (-37), 98, 58), 0)) (.leaf (98, (.aload_n 0, 99, 0), 0))) (.branch 100 (.leaf (99, (.iload_n 1, 100, 0), 0)) (.leaf (100, (.invokevirtual 255, 103, 247), 1447)))) (.branch 107 (.branch 106 (.leaf (103, (.ifCond .ne 7, 106, 110), 0)) (.leaf (106, (.iconst 4, 107, 0), 0))) (.branch 110 (.leaf (107, (.goto 4, 110, 111), 0)) (.branch 111 (.leaf (110, (.iconst 0, 111, 0), 0)) (.leaf (111, (.ireturn, 112, 0), 0)))))))
/-- DeckBenchModel.why(I)I -/
def mt_246 : Lean.RArray mLf :=
  .branch 50 (mt_246_0) (mt_246_1)
set_option maxRecDepth 100000 in
def mt_247_0 : Lean.RArray mLf :=
  .branch 21 (.branch 8 (.branch 4 (.branch 2 (.branch 1 (.leaf (0, (.iconst 0, 1, 0), 0)) (.leaf (1, (.istore_n 2, 2, 0), 0))) (.branch 3 (.leaf (2, (.iconst 0, 3, 0), 0)) (.leaf (3, (.istore_n 3, 4, 0), 0)))) (.branch 6 (.branch 5 (.leaf (4, (.iload_n 3, 5, 0), 0)) (.leaf (5, (.iconst 1, 6, 0), 0))) (.branch 7 (.leaf (6, (.iload_n 1, 7, 0), 0)) (.leaf (7, (.iconst 1, 8, 0), 0))))) (.branch 14 (.branch 10 (.branch 9 (.leaf (8, (.isub, 9, 0), 0)) (.leaf (9, (.ishl, 10, 0), 0))) (.branch 13 (.leaf (10, (.if_icmp .ge 165, 13, 175), 0)) (.leaf (13, (.aload_n 0, 14, 0), 0)))) (.branch 18 (.branch 17 (.leaf (14, (.getfield 33, 17, 1216), 1186)) (.leaf (17, (.iconst 0, 18, 0), 0))) (.branch 19 (.leaf (18, (.iaload, 19, 0), 0)) (.branch 20 (.leaf (19, (.iload_n 3, 20, 0), 0)) (.leaf (20, (.iload_n 1, 21, 0), 0))))))) (.branch 29 (.branch 25 (.branch 23 (.branch 22 (.leaf (21, (.iconst 1, 22, 0), 0)) (.leaf (22, (.isub, 23, 0), 0))) (.branch 24 (.leaf (23, (.iload_n 1, 24, 0), 0)) (.leaf (24, (.iconst 2, 25, 0), 0)))) (.branch 27 (.branch 26 (.leaf (25, (.isub, 26, 0), 0)) (.leaf (26, (.imul, 27, 0), 0))) (.branch 28 (.leaf (27, (.iconst 2, 28, 0), 0)) (.leaf (28, (.idiv, 29, 0), 0))))) (.branch 34 (.branch 31 (.branch 30 (.leaf (29, (.ishl, 30, 0), 0)) (.leaf (30, (.ior, 31, 0), 0))) (.branch 33 (.leaf (31, (.istore 4, 33, 0), 0)) (.leaf (33, (.aload_n 0, 34, 0), 0)))) (.branch 37 (.branch 35 (.leaf (34, (.iload_n 1, 35, 0), 0)) (.leaf (35, (.iload 4, 37, 0), 0))) (.branch 38 (.leaf (37, (.aload_n 0, 38, 0), 0)) (.branch 41 (.leaf (38, (.getfield 73, 41, 1230), 1200)) (.leaf (41, (.invokevirtual 241, 44, 203), 1416)))))))
set_option maxRecDepth 100000 in
def mt_247_1 : Lean.RArray mLf :=
  .branch 75 (.branch 58 (.branch 50 (.branch 47 (.branch 45 (.leaf (44, (.iconst 1, 45, 0), 0)) (.leaf (45, (.istore 5, 47, 0), 0))) (.branch 48 (.leaf (47, (.iconst 0, 48, 0), 0)) (.leaf (48, (.istore 6, 50, 0), 0)))) (.branch 53 (.branch 52 (.leaf (50, (.iload 6, 52, 0), 0)) (.leaf (52, (.iload_n 1, 53, 0), 0))) (.branch 56 (.leaf (53, (.if_icmp .ge 38, 56, 91), 0)) (.leaf (56, (.iload 5, 58, 0), 0))))) (.branch 67 (.branch 62 (.branch 61 (.leaf (58, (.ifCond .eq 24, 61, 82), 0)) (.leaf (61, (.aload_n 0, 62, 0), 0))) (.branch 65 (.leaf (62, (.getfield 73, 65, 1230), 1200)) (.leaf (65, (.iload 6, 67, 0), 0)))) (.branch 69 (.branch 68 (.leaf (67, (.iaload, 68, 0), 0)) (.leaf (68, (.aload_n 0, 69, 0), 0))) (.branch 72 (.leaf (69, (.getfield 33, 72, 1216), 1186)) (.branch 74 (.leaf (72, (.iload 6, 74, 0), 0)) (.leaf (74, (.iaload, 75, 0), 0))))))) (.branch 96 (.branch 83 (.branch 79 (.branch 78 (.leaf (75, (.if_icmp .ne 7, 78, 82), 0)) (.leaf (78, (.iconst 1, 79, 0), 0))) (.branch 82 (.leaf (79, (.goto 4, 82, 83), 0)) (.leaf (82, (.iconst 0, 83, 0), 0)))) (.branch 88 (.branch 85 (.leaf (83, (.istore 5, 85, 0), 0)) (.leaf (85, (.iinc 6 1, 88, 0), 0))) (.branch 91 (.leaf (88, (.goto (-38), 91, 50), 0)) (.branch 93 (.leaf (91, (.iload 5, 93, 0), 0)) (.leaf (93, (.ifCond .ne 6, 96, 99), 0)))))) (.branch 103 (.branch 100 (.branch 99 (.leaf (96, (.goto 73, 99, 169), 0)) (.leaf (99, (.aload_n 0, 100, 0), 0))) (.branch 101 (.leaf (100, (.iload_n 1, 101, 0), 0)) (.leaf (101, (.iload 4, 103, 0), 0)))) (.branch 108 (.branch 106 (.leaf (103, (.invokevirtual 115, 106, 172), 1330)) (.leaf (106, (.istore 6, 108, 0), 0))) (.branch 109 (.leaf (108, (.iconst 1, 109, 0), 0)) (.branch 111 (.leaf (109, (.istore 7, 111, 0), 0)) (.leaf (111, (.iconst 0, 112, 0), 0)))))))
set_option maxRecDepth 100000 in
def mt_247_2 : Lean.RArray mLf :=
  .branch 147 (.branch 129 (.branch 120 (.branch 116 (.branch 114 (.leaf (112, (.istore 8, 114, 0), 0)) (.leaf (114, (.iload 8, 116, 0), 0))) (.branch 117 (.leaf (116, (.iload_n 2, 117, 0), 0)) (.leaf (117, (.if_icmp .ge 33, 120, 150), 0)))) (.branch 125 (.branch 122 (.leaf (120, (.iload 7, 122, 0), 0)) (.leaf (122, (.ifCond .eq 19, 125, 141), 0))) (.branch 126 (.leaf (125, (.aload_n 0, 126, 0), 0)) (.leaf (126, (.getfield 70, 129, 1229), 1199))))) (.branch 137 (.branch 132 (.branch 131 (.leaf (129, (.iload 8, 131, 0), 0)) (.leaf (131, (.iaload, 132, 0), 0))) (.branch 134 (.leaf (132, (.iload 6, 134, 0), 0)) (.leaf (134, (.if_icmp .eq 7, 137, 141), 0)))) (.branch 141 (.branch 138 (.leaf (137, (.iconst 1, 138, 0), 0)) (.leaf (138, (.goto 4, 141, 142), 0))) (.branch 142 (.leaf (141, (.iconst 0, 142, 0), 0)) (.branch 144 (.leaf (142, (.istore 7, 144, 0), 0)) (.leaf (144, (.iinc 8 1, 147, 0), 0))))))) (.branch 166 (.branch 158 (.branch 152 (.branch 150 (.leaf (147, (.goto (-33), 150, 114), 0)) (.leaf (150, (.iload 7, 152, 0), 0))) (.branch 155 (.leaf (152, (.ifCond .ne 6, 155, 158), 0)) (.leaf (155, (.goto 14, 158, 169), 0)))) (.branch 162 (.branch 159 (.leaf (158, (.aload_n 0, 159, 0), 0)) (.leaf (159, (.getfield 70, 162, 1229), 1199))) (.branch 163 (.leaf (162, (.iload_n 2, 163, 0), 0)) (.branch 165 (.leaf (163, (.iload 6, 165, 0), 0)) (.leaf (165, (.iastore, 166, 0), 0)))))) (.branch 176 (.branch 172 (.branch 169 (.leaf (166, (.iinc 2 1, 169, 0), 0)) (.leaf (169, (.iinc 3 1, 172, 0), 0))) (.branch 175 (.leaf (172, (.goto (-168), 175, 4), 0)) (.leaf (175, (.aload_n 0, 176, 0), 0)))) (.branch 180 (.branch 179 (.leaf (176, (.getfield 70, 179, 1229), 1199)) (.leaf (179, (.iload_n 2, 180, 0), 0))) (.branch 183 (.leaf (180, (.invokestatic 212, 183, 200), 1347)) (.branch 184 (.leaf (183, (.iload_n 2, 184, 0), 0)) (.leaf (184, (.ireturn, 185, 0), 0)))))))
/-- DeckBenchModel.answersOf(I)I -/
def mt_247 : Lean.RArray mLf :=
  .branch 44 (mt_247_0) (.branch 112 (mt_247_1) (mt_247_2))
set_option maxRecDepth 100000 in
def mt_248_0 : Lean.RArray mLf :=
  .branch 27 (.branch 11 (.branch 5 (.branch 1 (.leaf (0, (.aload_n 0, 1, 0), 0)) (.branch 2 (.leaf (1, (.iconst 0, 2, 0), 0)) (.leaf (2, (.putfield 76, 5, 1204), 1174)))) (.branch 7 (.branch 6 (.leaf (5, (.aload_n 0, 6, 0), 0)) (.leaf (6, (.iload_n 1, 7, 0), 0))) (.branch 10 (.leaf (7, (.invokevirtual 209, 10, 197), 1431)) (.leaf (10, (.istore_n 3, 11, 0), 0))))) (.branch 17 (.branch 15 (.branch 12 (.leaf (11, (.iload_n 3, 12, 0), 0)) (.leaf (12, (.ifCond .eq 15, 15, 27), 0))) (.branch 16 (.leaf (15, (.iload_n 2, 16, 0), 0)) (.leaf (16, (.i2l, 17, 0), 0)))) (.branch 21 (.branch 18 (.leaf (17, (.lconst 0, 18, 0), 0)) (.leaf (18, (.ldc2_w 322, 21, 4), 1582))) (.branch 24 (.leaf (21, (.invokestatic 134, 24, 165), 1272)) (.leaf (24, (.ifCond .ne 6, 27, 30), 0)))))) (.branch 38 (.branch 31 (.branch 29 (.leaf (27, (.bipush (-2), 29, 0), 0)) (.branch 30 (.leaf (29, (.ireturn, 30, 0), 0)) (.leaf (30, (.aload_n 0, 31, 0), 0)))) (.branch 35 (.branch 32 (.leaf (31, (.iload_n 1, 32, 0), 0)) (.leaf (32, (.invokevirtual 252, 35, 202), 1435))) (.branch 36 (.leaf (35, (.iconst 0, 36, 0), 0)) (.leaf (36, (.istore 4, 38, 0), 0))))) (.branch 44 (.branch 40 (.branch 39 (.leaf (38, (.iload_n 2, 39, 0), 0)) (.leaf (39, (.iconst 4, 40, 0), 0))) (.branch 43 (.leaf (40, (.if_icmp .ne 45, 43, 85), 0)) (.leaf (43, (.iconst 0, 44, 0), 0)))) (.branch 48 (.branch 46 (.leaf (44, (.istore 5, 46, 0), 0)) (.leaf (46, (.iload 5, 48, 0), 0))) (.branch 49 (.leaf (48, (.iload_n 3, 49, 0), 0)) (.leaf (49, (.if_icmp .ge 36, 52, 85), 0))))))
set_option maxRecDepth 100000 in
def mt_248_1 : Lean.RArray mLf :=
  .branch 77 (.branch 63 (.branch 56 (.branch 54 (.leaf (52, (.iload 4, 54, 0), 0)) (.branch 55 (.leaf (54, (.iload_n 3, 55, 0), 0)) (.leaf (55, (.iconst 1, 56, 0), 0)))) (.branch 58 (.branch 57 (.leaf (56, (.isub, 57, 0), 0)) (.leaf (57, (.aload_n 0, 58, 0), 0))) (.branch 61 (.leaf (58, (.getfield 33, 61, 1216), 1186)) (.leaf (61, (.iload 5, 63, 0), 0))))) (.branch 71 (.branch 67 (.branch 64 (.leaf (63, (.iaload, 64, 0), 0)) (.leaf (64, (.invokestatic 260, 67, 176), 1460))) (.branch 68 (.leaf (67, (.iconst 1, 68, 0), 0)) (.leaf (68, (.if_icmp .ne 7, 71, 75), 0)))) (.branch 75 (.branch 72 (.leaf (71, (.iconst 1, 72, 0), 0)) (.leaf (72, (.goto 4, 75, 76), 0))) (.branch 76 (.leaf (75, (.iconst 0, 76, 0), 0)) (.leaf (76, (.iadd, 77, 0), 0)))))) (.branch 93 (.branch 86 (.branch 82 (.branch 79 (.leaf (77, (.istore 4, 79, 0), 0)) (.leaf (79, (.iinc 5 1, 82, 0), 0))) (.branch 85 (.leaf (82, (.goto (-36), 85, 46), 0)) (.leaf (85, (.iload_n 2, 86, 0), 0)))) (.branch 90 (.branch 87 (.leaf (86, (.iconst 4, 87, 0), 0)) (.leaf (87, (.if_icmp .ne 6, 90, 93), 0))) (.branch 92 (.leaf (90, (.iload 4, 92, 0), 0)) (.leaf (92, (.ireturn, 93, 0), 0))))) (.branch 100 (.branch 95 (.branch 94 (.leaf (93, (.aload_n 0, 94, 0), 0)) (.leaf (94, (.iload_n 3, 95, 0), 0))) (.branch 98 (.leaf (95, (.invokevirtual 316, 98, 244), 1583)) (.leaf (98, (.istore 5, 100, 0), 0)))) (.branch 103 (.branch 102 (.leaf (100, (.iload 5, 102, 0), 0)) (.leaf (102, (.iconst (-1), 103, 0), 0))) (.branch 106 (.leaf (103, (.if_icmp .eq 7, 106, 110), 0)) (.leaf (106, (.iload_n 2, 107, 0), 0))))))
set_option maxRecDepth 100000 in
def mt_248_2 : Lean.RArray mLf :=
  .branch 134 (.branch 120 (.branch 113 (.branch 110 (.leaf (107, (.ifCond .ne 6, 110, 113), 0)) (.branch 112 (.leaf (110, (.iload 5, 112, 0), 0)) (.leaf (112, (.ireturn, 113, 0), 0)))) (.branch 116 (.branch 115 (.leaf (113, (.iload 5, 115, 0), 0)) (.leaf (115, (.aload_n 0, 116, 0), 0))) (.branch 119 (.leaf (116, (.getfield 33, 119, 1216), 1186)) (.leaf (119, (.iconst 0, 120, 0), 0))))) (.branch 127 (.branch 124 (.branch 121 (.leaf (120, (.iaload, 121, 0), 0)) (.leaf (121, (.invokestatic 232, 124, 168), 1378))) (.branch 125 (.leaf (124, (.isub, 125, 0), 0)) (.leaf (125, (.istore 6, 127, 0), 0)))) (.branch 131 (.branch 129 (.leaf (127, (.iload 6, 129, 0), 0)) (.leaf (129, (.istore 7, 131, 0), 0))) (.branch 132 (.leaf (131, (.iconst 1, 132, 0), 0)) (.leaf (132, (.istore 8, 134, 0), 0)))))) (.branch 148 (.branch 140 (.branch 136 (.leaf (134, (.iload 8, 136, 0), 0)) (.branch 137 (.leaf (136, (.iload_n 3, 137, 0), 0)) (.leaf (137, (.if_icmp .ge 56, 140, 193), 0)))) (.branch 143 (.branch 142 (.leaf (140, (.iload 5, 142, 0), 0)) (.leaf (142, (.aload_n 0, 143, 0), 0))) (.branch 146 (.leaf (143, (.getfield 33, 146, 1216), 1186)) (.leaf (146, (.iload 8, 148, 0), 0))))) (.branch 155 (.branch 152 (.branch 149 (.leaf (148, (.iaload, 149, 0), 0)) (.leaf (149, (.invokestatic 232, 152, 168), 1378))) (.branch 153 (.leaf (152, (.isub, 153, 0), 0)) (.leaf (153, (.istore 9, 155, 0), 0)))) (.branch 159 (.branch 157 (.leaf (155, (.iload 9, 157, 0), 0)) (.leaf (157, (.iload 6, 159, 0), 0))) (.branch 162 (.leaf (159, (.if_icmp .ge 8, 162, 167), 0)) (.leaf (162, (.iload 9, 164, 0), 0))))))
set_option maxRecDepth 100000 in
def mt_248_3 : Lean.RArray mLf :=
  .branch 198 (.branch 180 (.branch 171 (.branch 167 (.leaf (164, (.goto 5, 167, 169), 0)) (.branch 169 (.leaf (167, (.iload 6, 169, 0), 0)) (.leaf (169, (.istore 6, 171, 0), 0)))) (.branch 175 (.branch 173 (.leaf (171, (.iload 9, 173, 0), 0)) (.leaf (173, (.iload 7, 175, 0), 0))) (.branch 178 (.leaf (175, (.if_icmp .le 8, 178, 183), 0)) (.leaf (178, (.iload 9, 180, 0), 0))))) (.branch 190 (.branch 185 (.branch 183 (.leaf (180, (.goto 5, 183, 185), 0)) (.leaf (183, (.iload 7, 185, 0), 0))) (.branch 187 (.leaf (185, (.istore 7, 187, 0), 0)) (.leaf (187, (.iinc 8 1, 190, 0), 0)))) (.branch 194 (.branch 193 (.leaf (190, (.goto (-56), 193, 134), 0)) (.leaf (193, (.iload_n 2, 194, 0), 0))) (.branch 195 (.leaf (194, (.iconst 3, 195, 0), 0)) (.leaf (195, (.if_icmp .ne 18, 198, 213), 0)))))) (.branch 215 (.branch 206 (.branch 202 (.branch 200 (.leaf (198, (.iload 7, 200, 0), 0)) (.leaf (200, (.iload 6, 202, 0), 0))) (.branch 205 (.leaf (202, (.if_icmp .ne 7, 205, 209), 0)) (.leaf (205, (.iconst 1, 206, 0), 0)))) (.branch 210 (.branch 209 (.leaf (206, (.goto 22, 209, 228), 0)) (.leaf (209, (.iconst 0, 210, 0), 0))) (.branch 213 (.leaf (210, (.goto 18, 213, 228), 0)) (.leaf (213, (.bipush 100, 215, 0), 0))))) (.branch 222 (.branch 217 (.branch 216 (.leaf (215, (.iload_n 2, 216, 0), 0)) (.leaf (216, (.iconst 1, 217, 0), 0))) (.branch 220 (.leaf (217, (.if_icmp .ne 8, 220, 225), 0)) (.leaf (220, (.iload 7, 222, 0), 0)))) (.branch 227 (.branch 225 (.leaf (222, (.goto 5, 225, 227), 0)) (.leaf (225, (.iload 6, 227, 0), 0))) (.branch 228 (.leaf (227, (.iadd, 228, 0), 0)) (.leaf (228, (.ireturn, 229, 0), 0))))))
/-- DeckBenchModel.told(II)I -/
def mt_248 : Lean.RArray mLf :=
  .branch 107 (.branch 52 (mt_248_0) (mt_248_1)) (.branch 164 (mt_248_2) (mt_248_3))
set_option maxRecDepth 100000 in
/-- DeckBenchModel.degree(II)I -/
def mt_249 : Lean.RArray mLf :=
  .branch 28 (.branch 14 (.branch 6 (.branch 2 (.branch 1 (.leaf (0, (.aload_n 0, 1, 0), 0)) (.leaf (1, (.iconst 0, 2, 0), 0))) (.branch 5 (.leaf (2, (.putfield 76, 5, 1204), 1174)) (.leaf (5, (.aload_n 0, 6, 0), 0)))) (.branch 8 (.branch 7 (.leaf (6, (.iload_n 1, 7, 0), 0)) (.leaf (7, (.iload_n 2, 8, 0), 0))) (.branch 11 (.leaf (8, (.invokevirtual 249, 11, 199), 1427)) (.leaf (11, (.ifCond .ne 6, 14, 17), 0))))) (.branch 19 (.branch 17 (.branch 16 (.leaf (14, (.bipush (-2), 16, 0), 0)) (.leaf (16, (.ireturn, 17, 0), 0))) (.branch 18 (.leaf (17, (.aload_n 0, 18, 0), 0)) (.leaf (18, (.iload_n 1, 19, 0), 0)))) (.branch 23 (.branch 22 (.leaf (19, (.invokevirtual 252, 22, 202), 1435)) (.leaf (22, (.aload_n 0, 23, 0), 0))) (.branch 24 (.leaf (23, (.aload_n 0, 24, 0), 0)) (.branch 25 (.leaf (24, (.iload_n 1, 25, 0), 0)) (.leaf (25, (.invokevirtual 209, 28, 197), 1431))))))) (.branch 43 (.branch 34 (.branch 32 (.branch 31 (.leaf (28, (.invokevirtual 316, 31, 244), 1583)) (.leaf (31, (.istore_n 3, 32, 0), 0))) (.branch 33 (.leaf (32, (.iload_n 3, 33, 0), 0)) (.leaf (33, (.iconst (-1), 34, 0), 0)))) (.branch 38 (.branch 37 (.leaf (34, (.if_icmp .ne 7, 37, 41), 0)) (.leaf (37, (.iconst (-1), 38, 0), 0))) (.branch 41 (.leaf (38, (.goto 17, 41, 55), 0)) (.leaf (41, (.bipush 100, 43, 0), 0))))) (.branch 49 (.branch 45 (.branch 44 (.leaf (43, (.iload_n 3, 44, 0), 0)) (.leaf (44, (.iadd, 45, 0), 0))) (.branch 46 (.leaf (45, (.aload_n 0, 46, 0), 0)) (.leaf (46, (.getfield 33, 49, 1216), 1186)))) (.branch 51 (.branch 50 (.leaf (49, (.iload_n 2, 50, 0), 0)) (.leaf (50, (.iaload, 51, 0), 0))) (.branch 54 (.leaf (51, (.invokestatic 232, 54, 168), 1378)) (.branch 55 (.leaf (54, (.isub, 55, 0), 0)) (.leaf (55, (.ireturn, 56, 0), 0)))))))
set_option maxRecDepth 100000 in
def mt_250_0 : Lean.RArray mLf :=
  .branch 16 (.branch 7 (.branch 2 (.branch 1 (.leaf (0, (.aload_n 0, 1, 0), 0)) (.leaf (1, (.iconst 0, 2, 0), 0))) (.branch 5 (.leaf (2, (.putfield 76, 5, 1204), 1174)) (.branch 6 (.leaf (5, (.aload_n 0, 6, 0), 0)) (.leaf (6, (.iload_n 1, 7, 0), 0))))) (.branch 11 (.branch 10 (.leaf (7, (.invokevirtual 209, 10, 197), 1431)) (.leaf (10, (.istore_n 3, 11, 0), 0))) (.branch 12 (.leaf (11, (.iload_n 3, 12, 0), 0)) (.branch 15 (.leaf (12, (.ifCond .eq 10, 15, 22), 0)) (.leaf (15, (.iload_n 2, 16, 0), 0)))))) (.branch 26 (.branch 22 (.branch 19 (.leaf (16, (.invokestatic 222, 19, 191), 1358)) (.leaf (19, (.ifCond .ne 6, 22, 25), 0))) (.branch 24 (.leaf (22, (.bipush (-2), 24, 0), 0)) (.branch 25 (.leaf (24, (.ireturn, 25, 0), 0)) (.leaf (25, (.iload_n 3, 26, 0), 0))))) (.branch 31 (.branch 27 (.leaf (26, (.iconst 2, 27, 0), 0)) (.branch 30 (.leaf (27, (.if_icmp .eq 20, 30, 47), 0)) (.leaf (30, (.aload_n 0, 31, 0), 0)))) (.branch 32 (.leaf (31, (.iload_n 2, 32, 0), 0)) (.branch 35 (.leaf (32, (.invokevirtual 201, 35, 192), 1366)) (.leaf (35, (.i2l, 36, 0), 0))))))
set_option maxRecDepth 100000 in
def mt_250_1 : Lean.RArray mLf :=
  .branch 52 (.branch 41 (.branch 38 (.branch 37 (.leaf (36, (.lconst 1, 37, 0), 0)) (.leaf (37, (.iload_n 3, 38, 0), 0))) (.branch 39 (.leaf (38, (.iconst 1, 39, 0), 0)) (.branch 40 (.leaf (39, (.isub, 40, 0), 0)) (.leaf (40, (.i2l, 41, 0), 0))))) (.branch 49 (.branch 44 (.leaf (41, (.invokestatic 134, 44, 165), 1272)) (.branch 47 (.leaf (44, (.ifCond .ne 6, 47, 50), 0)) (.leaf (47, (.bipush (-5), 49, 0), 0)))) (.branch 50 (.leaf (49, (.ireturn, 50, 0), 0)) (.branch 51 (.leaf (50, (.aload_n 0, 51, 0), 0)) (.leaf (51, (.iload_n 1, 52, 0), 0)))))) (.branch 59 (.branch 56 (.branch 55 (.leaf (52, (.invokevirtual 252, 55, 202), 1435)) (.leaf (55, (.aload_n 0, 56, 0), 0))) (.branch 57 (.leaf (56, (.iload_n 3, 57, 0), 0)) (.branch 58 (.leaf (57, (.aload_n 0, 58, 0), 0)) (.leaf (58, (.iload_n 2, 59, 0), 0))))) (.branch 64 (.branch 62 (.leaf (59, (.invokevirtual 201, 62, 192), 1366)) (.branch 63 (.leaf (62, (.aload_n 0, 63, 0), 0)) (.leaf (63, (.iload_n 2, 64, 0), 0)))) (.branch 67 (.leaf (64, (.invokevirtual 238, 67, 194), 1407)) (.branch 70 (.leaf (67, (.invokevirtual 319, 70, 245), 1595)) (.leaf (70, (.ireturn, 71, 0), 0))))))
/-- DeckBenchModel.toldParts(II)I -/
def mt_250 : Lean.RArray mLf :=
  .branch 36 (mt_250_0) (mt_250_1)
set_option maxRecDepth 100000 in
/-- DeckBenchModel.reason(I)I -/
def mt_251 : Lean.RArray mLf :=
  .branch 16 (.branch 6 (.branch 2 (.branch 1 (.leaf (0, (.aload_n 0, 1, 0), 0)) (.leaf (1, (.iconst 0, 2, 0), 0))) (.branch 5 (.leaf (2, (.putfield 76, 5, 1204), 1174)) (.leaf (5, (.aload_n 0, 6, 0), 0)))) (.branch 10 (.branch 7 (.leaf (6, (.iload_n 1, 7, 0), 0)) (.leaf (7, (.invokevirtual 209, 10, 197), 1431))) (.branch 13 (.leaf (10, (.ifCond .ne 6, 13, 16), 0)) (.branch 15 (.leaf (13, (.bipush (-2), 15, 0), 0)) (.leaf (15, (.ireturn, 16, 0), 0)))))) (.branch 22 (.branch 18 (.branch 17 (.leaf (16, (.aload_n 0, 17, 0), 0)) (.leaf (17, (.iload_n 1, 18, 0), 0))) (.branch 21 (.leaf (18, (.invokevirtual 252, 21, 202), 1435)) (.leaf (21, (.aload_n 0, 22, 0), 0)))) (.branch 24 (.branch 23 (.leaf (22, (.aload_n 0, 23, 0), 0)) (.leaf (23, (.iload_n 1, 24, 0), 0))) (.branch 27 (.leaf (24, (.invokevirtual 209, 27, 197), 1431)) (.branch 30 (.leaf (27, (.invokevirtual 324, 30, 246), 1603)) (.leaf (30, (.ireturn, 31, 0), 0))))))
set_option maxRecDepth 100000 in
/-- DeckBenchModel.answers(II)I -/
def mt_252 : Lean.RArray mLf :=
  .branch 31 (.branch 16 (.branch 6 (.branch 2 (.branch 1 (.leaf (0, (.aload_n 0, 1, 0), 0)) (.leaf (1, (.iconst 0, 2, 0), 0))) (.branch 5 (.leaf (2, (.putfield 76, 5, 1204), 1174)) (.leaf (5, (.aload_n 0, 6, 0), 0)))) (.branch 10 (.branch 7 (.leaf (6, (.iload_n 1, 7, 0), 0)) (.leaf (7, (.invokevirtual 209, 10, 197), 1431))) (.branch 13 (.leaf (10, (.ifCond .ne 6, 13, 16), 0)) (.branch 15 (.leaf (13, (.bipush (-2), 15, 0), 0)) (.leaf (15, (.ireturn, 16, 0), 0)))))) (.branch 24 (.branch 18 (.branch 17 (.leaf (16, (.iload_n 2, 17, 0), 0)) (.leaf (17, (.iconst (-1), 18, 0), 0))) (.branch 21 (.leaf (18, (.if_icmp .ge 6, 21, 24), 0)) (.branch 23 (.leaf (21, (.bipush (-3), 23, 0), 0)) (.leaf (23, (.ireturn, 24, 0), 0))))) (.branch 26 (.branch 25 (.leaf (24, (.aload_n 0, 25, 0), 0)) (.leaf (25, (.iload_n 1, 26, 0), 0))) (.branch 29 (.leaf (26, (.invokevirtual 252, 29, 202), 1435)) (.branch 30 (.leaf (29, (.aload_n 0, 30, 0), 0)) (.leaf (30, (.aload_n 0, 31, 0), 0))))))) (.branch 48 (.branch 39 (.branch 35 (.branch 32 (.leaf (31, (.iload_n 1, 32, 0), 0)) (.leaf (32, (.invokevirtual 209, 35, 197), 1431))) (.branch 38 (.leaf (35, (.invokevirtual 255, 38, 247), 1447)) (.leaf (38, (.istore_n 3, 39, 0), 0)))) (.branch 41 (.branch 40 (.leaf (39, (.iload_n 2, 40, 0), 0)) (.leaf (40, (.iconst (-1), 41, 0), 0))) (.branch 44 (.leaf (41, (.if_icmp .ne 7, 44, 48), 0)) (.branch 45 (.leaf (44, (.iload_n 3, 45, 0), 0)) (.leaf (45, (.goto 18, 48, 63), 0)))))) (.branch 57 (.branch 50 (.branch 49 (.leaf (48, (.iload_n 2, 49, 0), 0)) (.leaf (49, (.iload_n 3, 50, 0), 0))) (.branch 53 (.leaf (50, (.if_icmp .ge 12, 53, 62), 0)) (.branch 54 (.leaf (53, (.aload_n 0, 54, 0), 0)) (.leaf (54, (.getfield 70, 57, 1229), 1199))))) (.branch 59 (.branch 58 (.leaf (57, (.iload_n 2, 58, 0), 0)) (.leaf (58, (.iaload, 59, 0), 0))) (.branch 62 (.leaf (59, (.goto 4, 62, 63), 0)) (.branch 63 (.leaf (62, (.iconst (-1), 63, 0), 0)) (.leaf (63, (.ireturn, 64, 0), 0)))))))
set_option maxRecDepth 100000 in
def mt_253_0 : Lean.RArray mLf :=
  .branch 25 (.branch 12 (.branch 6 (.branch 2 (.branch 1 (.leaf (0, (.aload_n 0, 1, 0), 0)) (.leaf (1, (.iconst 0, 2, 0), 0))) (.branch 5 (.leaf (2, (.putfield 76, 5, 1204), 1174)) (.leaf (5, (.aload_n 0, 6, 0), 0)))) (.branch 10 (.branch 7 (.leaf (6, (.iload_n 1, 7, 0), 0)) (.leaf (7, (.invokevirtual 209, 10, 197), 1431))) (.branch 11 (.leaf (10, (.istore_n 3, 11, 0), 0)) (.leaf (11, (.aload_n 0, 12, 0), 0))))) (.branch 20 (.branch 14 (.branch 13 (.leaf (12, (.iload_n 1, 13, 0), 0)) (.leaf (13, (.iload_n 2, 14, 0), 0))) (.branch 17 (.leaf (14, (.invokevirtual 249, 17, 199), 1427)) (.leaf (17, (.ifCond .ne 6, 20, 23), 0)))) (.branch 23 (.branch 22 (.leaf (20, (.bipush (-2), 22, 0), 0)) (.leaf (22, (.ireturn, 23, 0), 0))) (.branch 24 (.leaf (23, (.iload_n 3, 24, 0), 0)) (.leaf (24, (.i2l, 25, 0), 0)))))) (.branch 43 (.branch 37 (.branch 31 (.branch 28 (.leaf (25, (.ldc2_w 269, 28, 3), 1478)) (.leaf (28, (.ldc2_w 199, 31, 5), 1361))) (.branch 34 (.leaf (31, (.invokestatic 134, 34, 165), 1272)) (.leaf (34, (.ifCond .ne 6, 37, 40), 0)))) (.branch 40 (.branch 39 (.leaf (37, (.bipush (-5), 39, 0), 0)) (.leaf (39, (.ireturn, 40, 0), 0))) (.branch 41 (.leaf (40, (.iconst 0, 41, 0), 0)) (.leaf (41, (.istore 4, 43, 0), 0))))) (.branch 49 (.branch 46 (.branch 44 (.leaf (43, (.iconst 0, 44, 0), 0)) (.leaf (44, (.istore 5, 46, 0), 0))) (.branch 48 (.leaf (46, (.iload 5, 48, 0), 0)) (.leaf (48, (.iload_n 3, 49, 0), 0)))) (.branch 51 (.branch 50 (.leaf (49, (.iconst 1, 50, 0), 0)) (.leaf (50, (.isub, 51, 0), 0))) (.branch 54 (.leaf (51, (.invokestatic 235, 54, 169), 1400)) (.branch 57 (.leaf (54, (.if_icmp .gt 65, 57, 119), 0)) (.leaf (57, (.aload_n 0, 58, 0), 0)))))))
set_option maxRecDepth 100000 in
def mt_253_1 : Lean.RArray mLf :=
  .branch 88 (.branch 74 (.branch 63 (.branch 60 (.branch 59 (.leaf (58, (.iload_n 3, 59, 0), 0)) (.leaf (59, (.iconst 1, 60, 0), 0))) (.branch 61 (.leaf (60, (.isub, 61, 0), 0)) (.leaf (61, (.iload 5, 63, 0), 0)))) (.branch 68 (.branch 66 (.leaf (63, (.invokevirtual 115, 66, 172), 1330)) (.leaf (66, (.iload 5, 68, 0), 0))) (.branch 71 (.leaf (68, (.if_icmp .eq 6, 71, 74), 0)) (.leaf (71, (.goto 42, 74, 113), 0))))) (.branch 80 (.branch 76 (.branch 75 (.leaf (74, (.aload_n 0, 75, 0), 0)) (.leaf (75, (.iload_n 1, 76, 0), 0))) (.branch 79 (.leaf (76, (.invokevirtual 252, 79, 202), 1435)) (.leaf (79, (.aload_n 0, 80, 0), 0)))) (.branch 84 (.branch 83 (.leaf (80, (.getfield 33, 83, 1216), 1186)) (.leaf (83, (.iload_n 2, 84, 0), 0))) (.branch 86 (.leaf (84, (.iload 5, 86, 0), 0)) (.branch 87 (.leaf (86, (.iastore, 87, 0), 0)) (.leaf (87, (.aload_n 0, 88, 0), 0))))))) (.branch 105 (.branch 97 (.branch 92 (.branch 91 (.leaf (88, (.getfield 33, 91, 1216), 1186)) (.leaf (91, (.iload_n 3, 92, 0), 0))) (.branch 95 (.leaf (92, (.invokestatic 212, 95, 200), 1347)) (.leaf (95, (.iload 4, 97, 0), 0)))) (.branch 99 (.branch 98 (.leaf (97, (.aload_n 0, 98, 0), 0)) (.leaf (98, (.iload_n 3, 99, 0), 0))) (.branch 102 (.leaf (99, (.invokevirtual 255, 102, 247), 1447)) (.leaf (102, (.ifCond .le 7, 105, 109), 0))))) (.branch 111 (.branch 109 (.branch 106 (.leaf (105, (.iconst 1, 106, 0), 0)) (.leaf (106, (.goto 4, 109, 110), 0))) (.branch 110 (.leaf (109, (.iconst 0, 110, 0), 0)) (.leaf (110, (.iadd, 111, 0), 0)))) (.branch 116 (.branch 113 (.leaf (111, (.istore 4, 113, 0), 0)) (.leaf (113, (.iinc 5 1, 116, 0), 0))) (.branch 119 (.leaf (116, (.goto (-70), 119, 46), 0)) (.branch 121 (.leaf (119, (.iload 4, 121, 0), 0)) (.leaf (121, (.ireturn, 122, 0), 0)))))))
/-- DeckBenchModel.mends(II)I -/
def mt_253 : Lean.RArray mLf :=
  .branch 58 (mt_253_0) (mt_253_1)
set_option maxRecDepth 100000 in
def mt_254_0 : Lean.RArray mLf :=
  .branch 53 (.branch 41 (.branch 6 (.branch 2 (.branch 1 (.leaf (0, (.aload_n 0, 1, 0), 0)) (.leaf (1, (.iconst 0, 2, 0), 0))) (.branch 5 (.leaf (2, (.putfield 76, 5, 1204), 1174)) (.leaf (5, (.iconst 0, 6, 0), 0)))) (.branch 8 (.branch 7 (.leaf (6, (.istore_n 2, 7, 0), 0)) (.leaf (7, (.iload_n 1, 8, 0), 0))) (.branch 40 (.leaf (8, (.tableswitch 105 0 3 #[32, 37, 42, 74], 40, 0), 0)) (.leaf (40, (.aload_n 0, 41, 0), 0))))) (.branch 49 (.branch 45 (.branch 44 (.leaf (41, (.getfield 196, 44, 1203), 1173)) (.leaf (44, (.ireturn, 45, 0), 0))) (.branch 46 (.leaf (45, (.aload_n 0, 46, 0), 0)) (.leaf (46, (.getfield 118, 49, 1210), 1180)))) (.branch 51 (.branch 50 (.leaf (49, (.ireturn, 50, 0), 0)) (.leaf (50, (.iconst 0, 51, 0), 0))) (.branch 52 (.leaf (51, (.istore_n 3, 52, 0), 0)) (.leaf (52, (.iload_n 3, 53, 0), 0)))))) (.branch 68 (.branch 60 (.branch 58 (.branch 55 (.leaf (53, (.bipush 6, 55, 0), 0)) (.leaf (55, (.if_icmp .ge 25, 58, 80), 0))) (.branch 59 (.leaf (58, (.iload_n 2, 59, 0), 0)) (.leaf (59, (.aload_n 0, 60, 0), 0)))) (.branch 64 (.branch 61 (.leaf (60, (.iload_n 3, 61, 0), 0)) (.leaf (61, (.invokevirtual 201, 64, 192), 1366))) (.branch 67 (.leaf (64, (.ifCond .le 7, 67, 71), 0)) (.leaf (67, (.iconst 1, 68, 0), 0))))) (.branch 74 (.branch 72 (.branch 71 (.leaf (68, (.goto 4, 71, 72), 0)) (.leaf (71, (.iconst 0, 72, 0), 0))) (.branch 73 (.leaf (72, (.iadd, 73, 0), 0)) (.leaf (73, (.istore_n 2, 74, 0), 0)))) (.branch 80 (.branch 77 (.leaf (74, (.iinc 3 1, 77, 0), 0)) (.leaf (77, (.goto (-25), 80, 52), 0))) (.branch 81 (.leaf (80, (.iload_n 2, 81, 0), 0)) (.branch 82 (.leaf (81, (.ireturn, 82, 0), 0)) (.leaf (82, (.iconst 0, 83, 0), 0)))))))
set_option maxRecDepth 100000 in
def mt_254_1 : Lean.RArray mLf :=
  .branch 112 (.branch 95 (.branch 89 (.branch 85 (.branch 84 (.leaf (83, (.istore_n 3, 84, 0), 0)) (.leaf (84, (.iload_n 3, 85, 0), 0))) (.branch 86 (.leaf (85, (.iconst 3, 86, 0), 0)) (.leaf (86, (.if_icmp .ge 25, 89, 111), 0)))) (.branch 91 (.branch 90 (.leaf (89, (.iload_n 2, 90, 0), 0)) (.leaf (90, (.aload_n 0, 91, 0), 0))) (.branch 92 (.leaf (91, (.iload_n 3, 92, 0), 0)) (.leaf (92, (.invokevirtual 209, 95, 197), 1431))))) (.branch 103 (.branch 99 (.branch 98 (.leaf (95, (.ifCond .le 7, 98, 102), 0)) (.leaf (98, (.iconst 1, 99, 0), 0))) (.branch 102 (.leaf (99, (.goto 4, 102, 103), 0)) (.leaf (102, (.iconst 0, 103, 0), 0)))) (.branch 105 (.branch 104 (.leaf (103, (.iadd, 104, 0), 0)) (.leaf (104, (.istore_n 2, 105, 0), 0))) (.branch 108 (.leaf (105, (.iinc 3 1, 108, 0), 0)) (.branch 111 (.leaf (108, (.goto (-24), 111, 84), 0)) (.leaf (111, (.iload_n 2, 112, 0), 0))))))) (.branch 128 (.branch 118 (.branch 114 (.branch 113 (.leaf (112, (.ireturn, 113, 0), 0)) (.leaf (113, (.iload_n 1, 114, 0), 0))) (.branch 115 (.leaf (114, (.i2l, 115, 0), 0)) (.leaf (115, (.ldc2_w 327, 118, 10), 1619)))) (.branch 124 (.branch 121 (.leaf (118, (.ldc2_w 329, 121, 15), 1620)) (.leaf (121, (.invokestatic 134, 124, 165), 1272))) (.branch 127 (.leaf (124, (.ifCond .ne 5, 127, 129), 0)) (.leaf (127, (.iconst (-1), 128, 0), 0))))) (.branch 133 (.branch 130 (.branch 129 (.leaf (128, (.ireturn, 129, 0), 0)) (.leaf (129, (.aload_n 0, 130, 0), 0))) (.branch 131 (.leaf (130, (.iload_n 1, 131, 0), 0)) (.leaf (131, (.bipush 10, 133, 0), 0)))) (.branch 137 (.branch 134 (.leaf (133, (.isub, 134, 0), 0)) (.leaf (134, (.invokevirtual 281, 137, 221), 1495))) (.branch 138 (.leaf (137, (.aload_n 0, 138, 0), 0)) (.branch 141 (.leaf (138, (.getfield 275, 141, 1223), 1193)) (.leaf (141, (.ireturn, 142, 0), 0)))))))
/-- DeckBenchModel.count(I)I -/
def mt_254 : Lean.RArray mLf :=
  .branch 83 (mt_254_0) (mt_254_1)
set_option maxRecDepth 100000 in
def mt_255_0 : Lean.RArray mLf :=
  .branch 14 (.branch 7 (.branch 2 (.branch 1 (.leaf (0, (.iload_n 0, 1, 0), 0)) (.leaf (1, (.iload_n 0, 2, 0), 0))) (.branch 3 (.leaf (2, (.iconst 1, 3, 0), 0)) (.branch 4 (.leaf (3, (.iushr, 4, 0), 0)) (.leaf (4, (.ldc_w 265, 7, 1431655765), 614))))) (.branch 9 (.branch 8 (.leaf (7, (.iand, 8, 0), 0)) (.leaf (8, (.isub, 9, 0), 0))) (.branch 10 (.leaf (9, (.istore_n 0, 10, 0), 0)) (.branch 11 (.leaf (10, (.iload_n 0, 11, 0), 0)) (.leaf (11, (.ldc_w 266, 14, 858993459), 615)))))) (.branch 21 (.branch 16 (.branch 15 (.leaf (14, (.iand, 15, 0), 0)) (.leaf (15, (.iload_n 0, 16, 0), 0))) (.branch 17 (.leaf (16, (.iconst 2, 17, 0), 0)) (.branch 18 (.leaf (17, (.iushr, 18, 0), 0)) (.leaf (18, (.ldc_w 266, 21, 858993459), 615))))) (.branch 24 (.branch 22 (.leaf (21, (.iand, 22, 0), 0)) (.branch 23 (.leaf (22, (.iadd, 23, 0), 0)) (.leaf (23, (.istore_n 0, 24, 0), 0)))) (.branch 25 (.leaf (24, (.iload_n 0, 25, 0), 0)) (.branch 26 (.leaf (25, (.iload_n 0, 26, 0), 0)) (.leaf (26, (.iconst 4, 27, 0), 0))))))
set_option maxRecDepth 100000 in
def mt_255_1 : Lean.RArray mLf :=
  .branch 40 (.branch 34 (.branch 29 (.branch 28 (.leaf (27, (.iushr, 28, 0), 0)) (.leaf (28, (.iadd, 29, 0), 0))) (.branch 32 (.leaf (29, (.ldc_w 267, 32, 252645135), 616)) (.branch 33 (.leaf (32, (.iand, 33, 0), 0)) (.leaf (33, (.istore_n 0, 34, 0), 0))))) (.branch 36 (.branch 35 (.leaf (34, (.iload_n 0, 35, 0), 0)) (.leaf (35, (.iload_n 0, 36, 0), 0))) (.branch 38 (.leaf (36, (.bipush 8, 38, 0), 0)) (.branch 39 (.leaf (38, (.iushr, 39, 0), 0)) (.leaf (39, (.iadd, 40, 0), 0)))))) (.branch 46 (.branch 42 (.branch 41 (.leaf (40, (.istore_n 0, 41, 0), 0)) (.leaf (41, (.iload_n 0, 42, 0), 0))) (.branch 43 (.leaf (42, (.iload_n 0, 43, 0), 0)) (.branch 45 (.leaf (43, (.bipush 16, 45, 0), 0)) (.leaf (45, (.iushr, 46, 0), 0))))) (.branch 49 (.branch 47 (.leaf (46, (.iadd, 47, 0), 0)) (.branch 48 (.leaf (47, (.istore_n 0, 48, 0), 0)) (.leaf (48, (.iload_n 0, 49, 0), 0)))) (.branch 51 (.leaf (49, (.bipush 63, 51, 0), 0)) (.branch 52 (.leaf (51, (.iand, 52, 0), 0)) (.leaf (52, (.ireturn, 53, 0), 0))))))
/-- java/lang/Integer.bitCount(I)I -/
def mt_255 : Lean.RArray mLf :=
  .branch 27 (mt_255_0) (mt_255_1)
set_option maxRecDepth 100000 in
/-- java/lang/String.charAt(I)C -/
def mt_256 : Lean.RArray mLf :=
  .branch 12 (.branch 7 (.branch 1 (.leaf (0, (.aload_n 0, 1, 0), 0)) (.branch 4 (.leaf (1, (.invokevirtual 492, 4, 259), 492)) (.leaf (4, (.ifCond .eq 12, 7, 16), 0)))) (.branch 8 (.leaf (7, (.aload_n 0, 8, 0), 0)) (.branch 11 (.leaf (8, (.getfield 9, 11, 5000), 1621)) (.leaf (11, (.iload_n 1, 12, 0), 0))))) (.branch 17 (.branch 15 (.leaf (12, (.invokestatic 495, 15, 261), 496)) (.branch 16 (.leaf (15, (.ireturn, 16, 0), 0)) (.leaf (16, (.aload_n 0, 17, 0), 0)))) (.branch 20 (.leaf (17, (.getfield 9, 20, 5000), 1621)) (.branch 24 (.leaf (20, (.iload_n 1, 21, 0), 0)) (.leaf (24, (.ireturn, 25, 0), 0)))))
set_option maxRecDepth 100000 in
/-- java/lang/String.checkIndex(II)V -/
def mt_257 : Lean.RArray mLf :=
  .branch 5 (.branch 1 (.leaf (0, (.iload_n 0, 1, 0), 0)) (.branch 2 (.leaf (1, (.iload_n 1, 2, 0), 0)) (.leaf (2, (.getstatic 1053, 5, 3), 502)))) (.branch 8 (.leaf (5, (.invokestatic 1059, 8, 262), 504)) (.branch 9 (.leaf (8, (.pop, 9, 0), 0)) (.leaf (9, (.return_, 10, 0), 0))))
set_option maxRecDepth 100000 in
/-- java/lang/String.coder()B -/
def mt_258 : Lean.RArray mLf :=
  .branch 7 (.branch 3 (.leaf (0, (.getstatic 38, 3, 2), 486)) (.branch 6 (.leaf (3, (.ifCond .eq 10, 6, 13), 0)) (.leaf (6, (.aload_n 0, 7, 0), 0)))) (.branch 13 (.branch 10 (.leaf (7, (.getfield 15, 10, 5001), 1622)) (.leaf (10, (.goto 4, 13, 14), 0))) (.branch 14 (.leaf (13, (.iconst 1, 14, 0), 0)) (.leaf (14, (.ireturn, 15, 0), 0))))
set_option maxRecDepth 100000 in
/-- java/lang/String.isLatin1()Z -/
def mt_259 : Lean.RArray mLf :=
  .branch 10 (.branch 6 (.branch 3 (.leaf (0, (.getstatic 38, 3, 2), 486)) (.leaf (3, (.ifCond .eq 14, 6, 17), 0))) (.branch 7 (.leaf (6, (.aload_n 0, 7, 0), 0)) (.leaf (7, (.getfield 15, 10, 5001), 1622)))) (.branch 14 (.branch 13 (.leaf (10, (.ifCond .ne 7, 13, 17), 0)) (.leaf (13, (.iconst 1, 14, 0), 0))) (.branch 17 (.leaf (14, (.goto 4, 17, 18), 0)) (.branch 18 (.leaf (17, (.iconst 0, 18, 0), 0)) (.leaf (18, (.ireturn, 19, 0), 0)))))
set_option maxRecDepth 100000 in
/-- java/lang/String.length()I -/
def mt_260 : Lean.RArray mLf :=
  .branch 5 (.branch 1 (.leaf (0, (.aload_n 0, 1, 0), 0)) (.branch 4 (.leaf (1, (.getfield 9, 4, 5000), 1621)) (.leaf (4, (.arraylength, 5, 0), 0)))) (.branch 9 (.branch 6 (.leaf (5, (.aload_n 0, 6, 0), 0)) (.leaf (6, (.invokevirtual 335, 9, 258), 482))) (.branch 10 (.leaf (9, (.ishr, 10, 0), 0)) (.leaf (10, (.ireturn, 11, 0), 0))))
set_option maxRecDepth 100000 in
/-- java/lang/StringLatin1.charAt([BI)C -/
def mt_261 : Lean.RArray mLf :=
  .branch 7 (.branch 2 (.branch 1 (.leaf (0, (.iload_n 1, 1, 0), 0)) (.leaf (1, (.aload_n 0, 2, 0), 0))) (.branch 3 (.leaf (2, (.arraylength, 3, 0), 0)) (.branch 6 (.leaf (3, (.invokestatic 9, 6, 257), 499)) (.leaf (6, (.aload_n 0, 7, 0), 0))))) (.branch 12 (.branch 8 (.leaf (7, (.iload_n 1, 8, 0), 0)) (.branch 9 (.leaf (8, (.baload, 9, 0), 0)) (.leaf (9, (.sipush 255, 12, 0), 0)))) (.branch 13 (.leaf (12, (.iand, 13, 0), 0)) (.branch 14 (.leaf (13, (.i2c, 14, 0), 0)) (.leaf (14, (.ireturn, 15, 0), 0)))))
set_option maxRecDepth 100000 in
/-- jdk/internal/util/Preconditions.checkIndex(IILjava/util/function/BiFunction;)I -/
def mt_262 : Lean.RArray mLf :=
  .branch 9 (.branch 4 (.branch 1 (.leaf (0, (.iload_n 0, 1, 0), 0)) (.leaf (1, (.ifCond .lt 8, 4, 9), 0))) (.branch 5 (.leaf (4, (.iload_n 0, 5, 0), 0)) (.branch 6 (.leaf (5, (.iload_n 1, 6, 0), 0)) (.leaf (6, (.if_icmp .lt 10, 9, 16), 0))))) (.branch 11 (.branch 10 (.leaf (9, (.aload_n 2, 10, 0), 0)) (.leaf (10, (.iload_n 0, 11, 0), 0))) (.branch 16 (.leaf (11, (.iload_n 1, 12, 0), 0)) (.branch 17 (.leaf (16, (.iload_n 0, 17, 0), 0)) (.leaf (17, (.ireturn, 18, 0), 0)))))
set_option maxRecDepth 100000 in
def mT : Lean.RArray (Nat × Lean.RArray mLf) :=
  .branch 131 (.branch 65 (.branch 32 (.branch 16 (.branch 8 (.branch 4 (.branch 2 (.branch 1 (.leaf (0, mt_0)) (.leaf (1, mt_1))) (.branch 3 (.leaf (2, mt_2)) (.leaf (3, mt_3)))) (.branch 6 (.branch 5 (.leaf (4, mt_4)) (.leaf (5, mt_5))) (.branch 7 (.leaf (6, mt_6)) (.leaf (7, mt_7))))) (.branch 12 (.branch 10 (.branch 9 (.leaf (8, mt_8)) (.leaf (9, mt_9))) (.branch 11 (.leaf (10, mt_10)) (.leaf (11, mt_11)))) (.branch 14 (.branch 13 (.leaf (12, mt_12)) (.leaf (13, mt_13))) (.branch 15 (.leaf (14, mt_14)) (.leaf (15, mt_15)))))) (.branch 24 (.branch 20 (.branch 18 (.branch 17 (.leaf (16, mt_16)) (.leaf (17, mt_17))) (.branch 19 (.leaf (18, mt_18)) (.leaf (19, mt_19)))) (.branch 22 (.branch 21 (.leaf (20, mt_20)) (.leaf (21, mt_21))) (.branch 23 (.leaf (22, mt_22)) (.leaf (23, mt_23))))) (.branch 28 (.branch 26 (.branch 25 (.leaf (24, mt_24)) (.leaf (25, mt_25))) (.branch 27 (.leaf (26, mt_26)) (.leaf (27, mt_27)))) (.branch 30 (.branch 29 (.leaf (28, mt_28)) (.leaf (29, mt_29))) (.branch 31 (.leaf (30, mt_30)) (.leaf (31, mt_31))))))) (.branch 48 (.branch 40 (.branch 36 (.branch 34 (.branch 33 (.leaf (32, mt_32)) (.leaf (33, mt_33))) (.branch 35 (.leaf (34, mt_34)) (.leaf (35, mt_35)))) (.branch 38 (.branch 37 (.leaf (36, mt_36)) (.leaf (37, mt_37))) (.branch 39 (.leaf (38, mt_38)) (.leaf (39, mt_39))))) (.branch 44 (.branch 42 (.branch 41 (.leaf (40, mt_40)) (.leaf (41, mt_41))) (.branch 43 (.leaf (42, mt_42)) (.leaf (43, mt_43)))) (.branch 46 (.branch 45 (.leaf (44, mt_44)) (.leaf (45, mt_45))) (.branch 47 (.leaf (46, mt_46)) (.leaf (47, mt_47)))))) (.branch 56 (.branch 52 (.branch 50 (.branch 49 (.leaf (48, mt_48)) (.leaf (49, mt_49))) (.branch 51 (.leaf (50, mt_50)) (.leaf (51, mt_51)))) (.branch 54 (.branch 53 (.leaf (52, mt_52)) (.leaf (53, mt_53))) (.branch 55 (.leaf (54, mt_54)) (.leaf (55, mt_55))))) (.branch 60 (.branch 58 (.branch 57 (.leaf (56, mt_56)) (.leaf (57, mt_57))) (.branch 59 (.leaf (58, mt_58)) (.leaf (59, mt_59)))) (.branch 62 (.branch 61 (.leaf (60, mt_60)) (.leaf (61, mt_61))) (.branch 63 (.leaf (62, mt_62)) (.branch 64 (.leaf (63, mt_63)) (.leaf (64, mt_64))))))))) (.branch 98 (.branch 81 (.branch 73 (.branch 69 (.branch 67 (.branch 66 (.leaf (65, mt_65)) (.leaf (66, mt_66))) (.branch 68 (.leaf (67, mt_67)) (.leaf (68, mt_68)))) (.branch 71 (.branch 70 (.leaf (69, mt_69)) (.leaf (70, mt_70))) (.branch 72 (.leaf (71, mt_71)) (.leaf (72, mt_72))))) (.branch 77 (.branch 75 (.branch 74 (.leaf (73, mt_73)) (.leaf (74, mt_74))) (.branch 76 (.leaf (75, mt_75)) (.leaf (76, mt_76)))) (.branch 79 (.branch 78 (.leaf (77, mt_77)) (.leaf (78, mt_78))) (.branch 80 (.leaf (79, mt_79)) (.leaf (80, mt_80)))))) (.branch 89 (.branch 85 (.branch 83 (.branch 82 (.leaf (81, mt_81)) (.leaf (82, mt_82))) (.branch 84 (.leaf (83, mt_83)) (.leaf (84, mt_84)))) (.branch 87 (.branch 86 (.leaf (85, mt_85)) (.leaf (86, mt_86))) (.branch 88 (.leaf (87, mt_87)) (.leaf (88, mt_88))))) (.branch 93 (.branch 91 (.branch 90 (.leaf (89, mt_89)) (.leaf (90, mt_90))) (.branch 92 (.leaf (91, mt_91)) (.leaf (92, mt_92)))) (.branch 95 (.branch 94 (.leaf (93, mt_93)) (.leaf (94, mt_94))) (.branch 96 (.leaf (95, mt_95)) (.branch 97 (.leaf (96, mt_96)) (.leaf (97, mt_97)))))))) (.branch 114 (.branch 106 (.branch 102 (.branch 100 (.branch 99 (.leaf (98, mt_98)) (.leaf (99, mt_99))) (.branch 101 (.leaf (100, mt_100)) (.leaf (101, mt_101)))) (.branch 104 (.branch 103 (.leaf (102, mt_102)) (.leaf (103, mt_103))) (.branch 105 (.leaf (104, mt_104)) (.leaf (105, mt_105))))) (.branch 110 (.branch 108 (.branch 107 (.leaf (106, mt_106)) (.leaf (107, mt_107))) (.branch 109 (.leaf (108, mt_108)) (.leaf (109, mt_109)))) (.branch 112 (.branch 111 (.leaf (110, mt_110)) (.leaf (111, mt_111))) (.branch 113 (.leaf (112, mt_112)) (.leaf (113, mt_113)))))) (.branch 122 (.branch 118 (.branch 116 (.branch 115 (.leaf (114, mt_114)) (.leaf (115, mt_115))) (.branch 117 (.leaf (116, mt_116)) (.leaf (117, mt_117)))) (.branch 120 (.branch 119 (.leaf (118, mt_118)) (.leaf (119, mt_119))) (.branch 121 (.leaf (120, mt_120)) (.leaf (121, mt_121))))) (.branch 126 (.branch 124 (.branch 123 (.leaf (122, mt_122)) (.leaf (123, mt_123))) (.branch 125 (.leaf (124, mt_124)) (.leaf (125, mt_125)))) (.branch 128 (.branch 127 (.leaf (126, mt_126)) (.leaf (127, mt_127))) (.branch 129 (.leaf (128, mt_128)) (.branch 130 (.leaf (129, mt_129)) (.leaf (130, mt_130)))))))))) (.branch 197 (.branch 164 (.branch 147 (.branch 139 (.branch 135 (.branch 133 (.branch 132 (.leaf (131, mt_131)) (.leaf (132, mt_132))) (.branch 134 (.leaf (133, mt_133)) (.leaf (134, mt_134)))) (.branch 137 (.branch 136 (.leaf (135, mt_135)) (.leaf (136, mt_136))) (.branch 138 (.leaf (137, mt_137)) (.leaf (138, mt_138))))) (.branch 143 (.branch 141 (.branch 140 (.leaf (139, mt_139)) (.leaf (140, mt_140))) (.branch 142 (.leaf (141, mt_141)) (.leaf (142, mt_142)))) (.branch 145 (.branch 144 (.leaf (143, mt_143)) (.leaf (144, mt_144))) (.branch 146 (.leaf (145, mt_145)) (.leaf (146, mt_146)))))) (.branch 155 (.branch 151 (.branch 149 (.branch 148 (.leaf (147, mt_147)) (.leaf (148, mt_148))) (.branch 150 (.leaf (149, mt_149)) (.leaf (150, mt_150)))) (.branch 153 (.branch 152 (.leaf (151, mt_151)) (.leaf (152, mt_152))) (.branch 154 (.leaf (153, mt_153)) (.leaf (154, mt_154))))) (.branch 159 (.branch 157 (.branch 156 (.leaf (155, mt_155)) (.leaf (156, mt_156))) (.branch 158 (.leaf (157, mt_157)) (.leaf (158, mt_158)))) (.branch 161 (.branch 160 (.leaf (159, mt_159)) (.leaf (160, mt_160))) (.branch 162 (.leaf (161, mt_161)) (.branch 163 (.leaf (162, mt_162)) (.leaf (163, mt_163)))))))) (.branch 180 (.branch 172 (.branch 168 (.branch 166 (.branch 165 (.leaf (164, mt_164)) (.leaf (165, mt_165))) (.branch 167 (.leaf (166, mt_166)) (.leaf (167, mt_167)))) (.branch 170 (.branch 169 (.leaf (168, mt_168)) (.leaf (169, mt_169))) (.branch 171 (.leaf (170, mt_170)) (.leaf (171, mt_171))))) (.branch 176 (.branch 174 (.branch 173 (.leaf (172, mt_172)) (.leaf (173, mt_173))) (.branch 175 (.leaf (174, mt_174)) (.leaf (175, mt_175)))) (.branch 178 (.branch 177 (.leaf (176, mt_176)) (.leaf (177, mt_177))) (.branch 179 (.leaf (178, mt_178)) (.leaf (179, mt_179)))))) (.branch 188 (.branch 184 (.branch 182 (.branch 181 (.leaf (180, mt_180)) (.leaf (181, mt_181))) (.branch 183 (.leaf (182, mt_182)) (.leaf (183, mt_183)))) (.branch 186 (.branch 185 (.leaf (184, mt_184)) (.leaf (185, mt_185))) (.branch 187 (.leaf (186, mt_186)) (.leaf (187, mt_187))))) (.branch 192 (.branch 190 (.branch 189 (.leaf (188, mt_188)) (.leaf (189, mt_189))) (.branch 191 (.leaf (190, mt_190)) (.leaf (191, mt_191)))) (.branch 194 (.branch 193 (.leaf (192, mt_192)) (.leaf (193, mt_193))) (.branch 195 (.leaf (194, mt_194)) (.branch 196 (.leaf (195, mt_195)) (.leaf (196, mt_196))))))))) (.branch 230 (.branch 213 (.branch 205 (.branch 201 (.branch 199 (.branch 198 (.leaf (197, mt_197)) (.leaf (198, mt_198))) (.branch 200 (.leaf (199, mt_199)) (.leaf (200, mt_200)))) (.branch 203 (.branch 202 (.leaf (201, mt_201)) (.leaf (202, mt_202))) (.branch 204 (.leaf (203, mt_203)) (.leaf (204, mt_204))))) (.branch 209 (.branch 207 (.branch 206 (.leaf (205, mt_205)) (.leaf (206, mt_206))) (.branch 208 (.leaf (207, mt_207)) (.leaf (208, mt_208)))) (.branch 211 (.branch 210 (.leaf (209, mt_209)) (.leaf (210, mt_210))) (.branch 212 (.leaf (211, mt_211)) (.leaf (212, mt_212)))))) (.branch 221 (.branch 217 (.branch 215 (.branch 214 (.leaf (213, mt_213)) (.leaf (214, mt_214))) (.branch 216 (.leaf (215, mt_215)) (.leaf (216, mt_216)))) (.branch 219 (.branch 218 (.leaf (217, mt_217)) (.leaf (218, mt_218))) (.branch 220 (.leaf (219, mt_219)) (.leaf (220, mt_220))))) (.branch 225 (.branch 223 (.branch 222 (.leaf (221, mt_221)) (.leaf (222, mt_222))) (.branch 224 (.leaf (223, mt_223)) (.leaf (224, mt_224)))) (.branch 227 (.branch 226 (.leaf (225, mt_225)) (.leaf (226, mt_226))) (.branch 228 (.leaf (227, mt_227)) (.branch 229 (.leaf (228, mt_228)) (.leaf (229, mt_229)))))))) (.branch 246 (.branch 238 (.branch 234 (.branch 232 (.branch 231 (.leaf (230, mt_230)) (.leaf (231, mt_231))) (.branch 233 (.leaf (232, mt_232)) (.leaf (233, mt_233)))) (.branch 236 (.branch 235 (.leaf (234, mt_234)) (.leaf (235, mt_235))) (.branch 237 (.leaf (236, mt_236)) (.leaf (237, mt_237))))) (.branch 242 (.branch 240 (.branch 239 (.leaf (238, mt_238)) (.leaf (239, mt_239))) (.branch 241 (.leaf (240, mt_240)) (.leaf (241, mt_241)))) (.branch 244 (.branch 243 (.leaf (242, mt_242)) (.leaf (243, mt_243))) (.branch 245 (.leaf (244, mt_244)) (.leaf (245, mt_245)))))) (.branch 254 (.branch 250 (.branch 248 (.branch 247 (.leaf (246, mt_246)) (.leaf (247, mt_247))) (.branch 249 (.leaf (248, mt_248)) (.leaf (249, mt_249)))) (.branch 252 (.branch 251 (.leaf (250, mt_250)) (.leaf (251, mt_251))) (.branch 253 (.leaf (252, mt_252)) (.leaf (253, mt_253))))) (.branch 258 (.branch 256 (.branch 255 (.leaf (254, mt_254)) (.leaf (255, mt_255))) (.branch 257 (.leaf (256, mt_256)) (.leaf (257, mt_257)))) (.branch 260 (.branch 259 (.leaf (258, mt_258)) (.leaf (259, mt_259))) (.branch 261 (.leaf (260, mt_260)) (.branch 262 (.leaf (261, mt_261)) (.leaf (262, mt_262))))))))))
def mtOf (k : Nat) (q : Nat × Lean.RArray mLf) (pc : Nat) : Option mI := bif Nat.beq k q.1 then (bif Nat.beq pc (q.2.get pc).1 then some (q.2.get pc).2.1 else none) else none
/-- the instruction of method k at pc -/
def prog (k pc : Nat) : Option mI := mtOf k (mT.get k) pc
end
section
def fldT (aux : Nat) : Option (String × String × String × Bool) := (vwCl[aux / 100]?).bind fun q => bif Nat.blt (aux % 100) q.2.2 then some (q.2.1 (aux % 100)) else none
/-- a word of the tables, by its place -/
def hasW (h : Nat) (w : Cond) : Bool := decide (lw_tbl[h]? = some w)
theorem hasW_mem {h : Nat} {w : Cond} (q : hasW h w = true) : w ∈ lw_tbl := List.mem_of_getElem? (of_decide_eq_true q)
def iln : Instr → Nat
  | .bipush _ | .ldc _ | .iload _ | .lload _ | .aload _ | .istore _ | .lstore _ | .astore _ | .newarray _ => 2
  | .sipush _ | .ldc_w _ | .ldc2_w _ | .iinc _ _ | .ifCond _ _ | .if_icmp _ _ | .goto _ | .getfield _ | .putfield _ | .getstatic _ | .new _ | .anewarray _ | .invokevirtual _ | .invokespecial _ | .invokestatic _ => 3
  | _ => 1
def lnOk (i : Instr) (n : Nat) : Bool := match i with
  | .tableswitch _ _ _ _ => true
  | j => Nat.beq n (iln j)
def strOk (c : String) (i j : Nat) : Bool := (decide (c = "DeckBench$TextReader") && ((Nat.beq i 63 && Nat.beq j 0) || (Nat.beq i 72 && Nat.beq j 1) || (Nat.beq i 130 && Nat.beq j 2))) || (decide (c = "DeckBenchModel") && Nat.beq i 153 && Nat.beq j 3)
def clsPos : Lean.RArray (Nat × Nat) := .branch 6 (.branch 3 (.branch 1 (.leaf (212, 83)) (.branch 2 (.leaf (288, 87)) (.leaf (161, 81)))) (.branch 4 (.leaf (129, 79)) (.branch 5 (.leaf (110, 78)) (.leaf (220, 84))))) (.branch 9 (.branch 7 (.leaf (167, 82)) (.branch 8 (.leaf (280, 86)) (.leaf (246, 85)))) (.branch 11 (.branch 10 (.leaf (148, 80)) (.leaf (334, 88))) (.branch 12 (.leaf (98, 77)) (.leaf (1165, 89)))))
def chkX (k pc : Nat) (e : mI) (h : Nat) : Bool := match e.1 with
  | .ifCond _ off => decide ((pc : Int) + off = (e.2.2 : Int))
  | .if_icmp _ off => decide ((pc : Int) + off = (e.2.2 : Int))
  | .goto off => decide ((pc : Int) + off = (e.2.2 : Int))
  | .tableswitch d lo hi offs => decide (0 ≤ (pc : Int) + d) && Nat.beq offs.size (hi - lo + 1).toNat && decide (lo ≤ hi) && offs.all (fun o => decide (0 ≤ (pc : Int) + o))
  | .ldc i => bif Nat.blt e.2.2 4294967296 then hasW h (.constant (mName k).cls i (Int32.ofNat e.2.2)) else strOk (mName k).cls i (e.2.2 - 4294967306)
  | .ldc_w i => hasW h (.constant (mName k).cls i (Int32.ofNat e.2.2))
  | .ldc2_w i => hasW h (.constantLong (mName k).cls i (Int64.ofNat e.2.2))
  | .getfield i => bif Nat.ble 5000 e.2.2 then (bif Nat.beq e.2.2 5000 then hasW h (.fieldLink (mName k).cls i "java/lang/String" "value" "[B") else hasW h (.fieldLink (mName k).cls i "java/lang/String" "coder" "B")) else (match fldT e.2.2 with
    | some (c, n, d, _) => hasW h (.fieldLink (mName k).cls i c n d)
    | none => false)
  | .putfield i => (match fldT e.2.2 with
    | some (c, n, d, _) => hasW h (.fieldLink (mName k).cls i c n d)
    | none => false)
  | .getstatic i => (match e.2.2 with
    | 0 => hasW h (.fieldLink (mName k).cls i "DeckBench$SmallNets" "FIRSTS" "[I")
    | 1 => hasW h (.fieldLink (mName k).cls i "DeckBench$SmallNets" "FORMS" "[I")
    | 2 => hasW h (.fieldLink (mName k).cls i "java/lang/String" "COMPACT_STRINGS" "Z")
    | 3 => hasW h (.fieldLink (mName k).cls i "jdk/internal/util/Preconditions" "SIOOBE_FORMATTER" "Ljava/util/function/BiFunction;")
    | _ => true)
  | .new i => (match vwCl[e.2.2]? with
    | some q => hasW h (.classLink (mName k).cls i q.1) && hasW (clsPos.get e.2.2).1 (.instantiable q.1 q.2.2) && hasW (clsPos.get e.2.2).2 (.initialized q.1)
    | none => false)
  | .newarray t => (match e.2.2 with
    | 0 => decide (t = .int)
    | 1 => decide (t = .byte)
    | 2 => decide (t = .long)
    | _ => true)
  | .anewarray i => bif Nat.beq e.2.2 3 then hasW h (.classLink (mName k).cls i "DeckBench$Net") else hasW h (.classLink (mName k).cls i "DeckBench$Deck")
  | .invokevirtual i => hasW h (.methodLink (mName k).cls i (mName e.2.2)) && Nat.blt e.2.2 263
  | .invokestatic i => bif Nat.beq e.2.2 901 then hasW h (.methodLink (mName k).cls i arraycopyName) else bif Nat.beq e.2.2 902 then hasW h (.methodLink (mName k).cls i Lib.Math.max.name) else bif Nat.beq e.2.2 903 then hasW h (.methodLink (mName k).cls i Lib.Math.min.name) else (hasW h (.methodLink (mName k).cls i (mName e.2.2)) && Nat.blt e.2.2 263)
  | .invokespecial i => bif Nat.beq e.2.2 900 then hasW h (.methodLink (mName k).cls i objectInit) else ((hasW h (.methodLink (mName k).cls i (mName e.2.2)) || hasW h (.methodLinkNest (mName k).cls i (mName e.2.2) "DeckBench")) && Nat.blt e.2.2 263)
  | _ => true
def chkE (k : Nat) (q : mLf) : Bool := (match decode (mCode k) q.1 with
  | .ok (i, n) => decide (i = q.2.1.1) && Nat.beq q.2.1.2.1 (q.1 + n) && lnOk q.2.1.1 n
  | .error _ => false) && chkX k q.1 q.2.1 q.2.2
def lfAll {α : Type} (f : α → Bool) : Lean.RArray α → Bool
  | .leaf x => f x
  | .branch _ l r => lfAll f l && lfAll f r
theorem lfAll_get {α : Type} {f : α → Bool} {t : Lean.RArray α} (h : lfAll f t = true) (n : Nat) : f (t.get n) = true := by
  induction t with
  | leaf x => exact h
  | branch p l r ihl ihr =>
    simp only [lfAll, Bool.and_eq_true] at h
    show f ((Nat.ble p n).rec (l.get n) (r.get n)) = true
    cases Nat.ble p n
    · exact ihl h.1
    · exact ihr h.2
/-- a method's own words -/
def chkM (k : Nat) : Bool := hasW (mPos.get k).1 (.code (mName k) (mCode k) (mMax k) (mRet k)) && hasW (mPos.get k).2.1 (.initialized (mName k).cls)
  && decide ((mName k).cls ≠ "java/lang/invoke/MethodHandle") && decide ((mName k).cls ≠ "java/lang/invoke/VarHandle") && Nat.ble (mMax k) 40 && Jvm.plainName (mName k).cls
  && (match mKind k with
    | 0 => hasW (mPos.get k).2.2.1 (.static (mName k)) && decide ((parseMethodDescriptor (mName k).desc).map (fun d => d.parameters.length) = some (mArgs k))
    | 1 => hasW (mPos.get k).2.2.1 (.instanceMethod (mName k)) && hasW (mPos.get k).2.2.2 (.selects (mName k).cls (mName k) (mName k)) && decide ((parseMethodDescriptor (mName k).desc).map (fun d => d.parameters.length + 1) = some (mArgs k))
      && (bif Nat.beq (mCls k) 50 then decide ((mName k).cls = "java/lang/String") else decide ((vwCl[mCls k]?).map (fun q => q.1) = some (mName k).cls))
    | _ => hasW (mPos.get k).2.2.1 (.instanceMethod (mName k)) && decide ((mName k).name = "<init>") && decide (mRet k = none) && decide ((parseMethodDescriptor (mName k).desc).map (fun d => d.parameters.length + 1) = some (mArgs k)))
end
section
set_option maxRecDepth 100000 in
theorem ck_0_0 : lfAll (chkE 0) mt_0_0 = true := by decide +kernel
set_option maxRecDepth 100000 in
theorem ck_0_1 : lfAll (chkE 0) mt_0_1 = true := by decide +kernel
set_option maxRecDepth 100000 in
theorem ck_0_2 : lfAll (chkE 0) mt_0_2 = true := by decide +kernel
set_option maxRecDepth 100000 in
theorem ck_0_3 : lfAll (chkE 0) mt_0_3 = true := by decide +kernel
set_option maxRecDepth 100000 in
theorem ck_0_4 : lfAll (chkE 0) mt_0_4 = true := by decide +kernel
set_option maxRecDepth 100000 in
theorem ck_0_5 : lfAll (chkE 0) mt_0_5 = true := by decide +kernel
set_option maxRecDepth 100000 in
theorem ck_0_6 : lfAll (chkE 0) mt_0_6 = true := by decide +kernel
set_option maxRecDepth 100000 in
theorem ck_0_7 : lfAll (chkE 0) mt_0_7 = true := by decide +kernel
set_option maxRecDepth 100000 in
theorem ck_0_8 : lfAll (chkE 0) mt_0_8 = true := by decide +kernel
set_option maxRecDepth 100000 in
theorem ck_0_9 : lfAll (chkE 0) mt_0_9 = true := by decide +kernel
set_option maxRecDepth 100000 in
theorem ck_0_10 : lfAll (chkE 0) mt_0_10 = true := by decide +kernel
set_option maxRecDepth 100000 in
theorem ck_0_11 : lfAll (chkE 0) mt_0_11 = true := by decide +kernel
set_option maxRecDepth 100000 in
theorem ck_0_12 : lfAll (chkE 0) mt_0_12 = true := by decide +kernel
set_option maxRecDepth 100000 in
theorem ck_0_13 : lfAll (chkE 0) mt_0_13 = true := by decide +kernel
set_option maxRecDepth 100000 in
theorem ck_0_14 : lfAll (chkE 0) mt_0_14 = true := by decide +kernel
set_option maxRecDepth 100000 in
theorem ck_0_15 : lfAll (chkE 0) mt_0_15 = true := by decide +kernel
set_option maxRecDepth 100000 in
theorem ck_0_16 : lfAll (chkE 0) mt_0_16 = true := by decide +kernel
set_option maxRecDepth 100000 in
theorem ck_0_17 : lfAll (chkE 0) mt_0_17 = true := by decide +kernel
set_option maxRecDepth 100000 in
theorem ck_0_18 : lfAll (chkE 0) mt_0_18 = true := by decide +kernel
set_option maxRecDepth 100000 in
theorem ck_0_19 : lfAll (chkE 0) mt_0_19 = true := by decide +kernel
set_option maxRecDepth 100000 in
theorem ck_0_20 : lfAll (chkE 0) mt_0_20 = true := by decide +kernel
set_option maxRecDepth 100000 in
theorem ck_0_21 : lfAll (chkE 0) mt_0_21 = true := by decide +kernel
set_option maxRecDepth 100000 in
theorem ck_0_22 : lfAll (chkE 0) mt_0_22 = true := by decide +kernel
set_option maxRecDepth 100000 in
theorem ck_0_23 : lfAll (chkE 0) mt_0_23 = true := by decide +kernel
theorem ck_0 : lfAll (chkE 0) mt_0 = true := by simp only [mt_0, lfAll, ck_0_0, ck_0_1, ck_0_2, ck_0_3, ck_0_4, ck_0_5, ck_0_6, ck_0_7, ck_0_8, ck_0_9, ck_0_10, ck_0_11, ck_0_12, ck_0_13, ck_0_14, ck_0_15, ck_0_16, ck_0_17, ck_0_18, ck_0_19, ck_0_20, ck_0_21, ck_0_22, ck_0_23, Bool.and_self]
set_option maxRecDepth 100000 in
theorem ck_1 : lfAll (chkE 1) mt_1 = true := by decide +kernel
set_option maxRecDepth 100000 in
theorem ck_2 : lfAll (chkE 2) mt_2 = true := by decide +kernel
set_option maxRecDepth 100000 in
theorem ck_3 : lfAll (chkE 3) mt_3 = true := by decide +kernel
set_option maxRecDepth 100000 in
theorem ck_4 : lfAll (chkE 4) mt_4 = true := by decide +kernel
set_option maxRecDepth 100000 in
theorem ck_5_0 : lfAll (chkE 5) mt_5_0 = true := by decide +kernel
set_option maxRecDepth 100000 in
theorem ck_5_1 : lfAll (chkE 5) mt_5_1 = true := by decide +kernel
theorem ck_5 : lfAll (chkE 5) mt_5 = true := by simp only [mt_5, lfAll, ck_5_0, ck_5_1, Bool.and_self]
set_option maxRecDepth 100000 in
theorem ck_6_0 : lfAll (chkE 6) mt_6_0 = true := by decide +kernel
set_option maxRecDepth 100000 in
theorem ck_6_1 : lfAll (chkE 6) mt_6_1 = true := by decide +kernel
theorem ck_6 : lfAll (chkE 6) mt_6 = true := by simp only [mt_6, lfAll, ck_6_0, ck_6_1, Bool.and_self]
set_option maxRecDepth 100000 in
theorem ck_7 : lfAll (chkE 7) mt_7 = true := by decide +kernel
set_option maxRecDepth 100000 in
theorem ck_8 : lfAll (chkE 8) mt_8 = true := by decide +kernel
set_option maxRecDepth 100000 in
theorem ck_9 : lfAll (chkE 9) mt_9 = true := by decide +kernel
set_option maxRecDepth 100000 in
theorem ck_10 : lfAll (chkE 10) mt_10 = true := by decide +kernel
set_option maxRecDepth 100000 in
theorem ck_11_0 : lfAll (chkE 11) mt_11_0 = true := by decide +kernel
set_option maxRecDepth 100000 in
theorem ck_11_1 : lfAll (chkE 11) mt_11_1 = true := by decide +kernel
theorem ck_11 : lfAll (chkE 11) mt_11 = true := by simp only [mt_11, lfAll, ck_11_0, ck_11_1, Bool.and_self]
set_option maxRecDepth 100000 in
theorem ck_12 : lfAll (chkE 12) mt_12 = true := by decide +kernel
set_option maxRecDepth 100000 in
theorem ck_13 : lfAll (chkE 13) mt_13 = true := by decide +kernel
set_option maxRecDepth 100000 in
theorem ck_14 : lfAll (chkE 14) mt_14 = true := by decide +kernel
set_option maxRecDepth 100000 in
theorem ck_15_0 : lfAll (chkE 15) mt_15_0 = true := by decide +kernel
set_option maxRecDepth 100000 in
theorem ck_15_1 : lfAll (chkE 15) mt_15_1 = true := by decide +kernel
theorem ck_15 : lfAll (chkE 15) mt_15 = true := by simp only [mt_15, lfAll, ck_15_0, ck_15_1, Bool.and_self]
set_option maxRecDepth 100000 in
theorem ck_16 : lfAll (chkE 16) mt_16 = true := by decide +kernel
set_option maxRecDepth 100000 in
theorem ck_17 : lfAll (chkE 17) mt_17 = true := by decide +kernel
set_option maxRecDepth 100000 in
theorem ck_18 : lfAll (chkE 18) mt_18 = true := by decide +kernel
set_option maxRecDepth 100000 in
theorem ck_19 : lfAll (chkE 19) mt_19 = true := by decide +kernel
set_option maxRecDepth 100000 in
theorem ck_20 : lfAll (chkE 20) mt_20 = true := by decide +kernel
set_option maxRecDepth 100000 in
theorem ck_21_0 : lfAll (chkE 21) mt_21_0 = true := by decide +kernel
set_option maxRecDepth 100000 in
theorem ck_21_1 : lfAll (chkE 21) mt_21_1 = true := by decide +kernel
theorem ck_21 : lfAll (chkE 21) mt_21 = true := by simp only [mt_21, lfAll, ck_21_0, ck_21_1, Bool.and_self]
set_option maxRecDepth 100000 in
theorem ck_22 : lfAll (chkE 22) mt_22 = true := by decide +kernel
set_option maxRecDepth 100000 in
theorem ck_23 : lfAll (chkE 23) mt_23 = true := by decide +kernel
set_option maxRecDepth 100000 in
theorem ck_24 : lfAll (chkE 24) mt_24 = true := by decide +kernel
set_option maxRecDepth 100000 in
theorem ck_25_0 : lfAll (chkE 25) mt_25_0 = true := by decide +kernel
set_option maxRecDepth 100000 in
theorem ck_25_1 : lfAll (chkE 25) mt_25_1 = true := by decide +kernel
theorem ck_25 : lfAll (chkE 25) mt_25 = true := by simp only [mt_25, lfAll, ck_25_0, ck_25_1, Bool.and_self]
set_option maxRecDepth 100000 in
theorem ck_26_0 : lfAll (chkE 26) mt_26_0 = true := by decide +kernel
set_option maxRecDepth 100000 in
theorem ck_26_1 : lfAll (chkE 26) mt_26_1 = true := by decide +kernel
theorem ck_26 : lfAll (chkE 26) mt_26 = true := by simp only [mt_26, lfAll, ck_26_0, ck_26_1, Bool.and_self]
set_option maxRecDepth 100000 in
theorem ck_27_0 : lfAll (chkE 27) mt_27_0 = true := by decide +kernel
set_option maxRecDepth 100000 in
theorem ck_27_1 : lfAll (chkE 27) mt_27_1 = true := by decide +kernel
set_option maxRecDepth 100000 in
theorem ck_27_2 : lfAll (chkE 27) mt_27_2 = true := by decide +kernel
theorem ck_27 : lfAll (chkE 27) mt_27 = true := by simp only [mt_27, lfAll, ck_27_0, ck_27_1, ck_27_2, Bool.and_self]
set_option maxRecDepth 100000 in
theorem ck_28_0 : lfAll (chkE 28) mt_28_0 = true := by decide +kernel
set_option maxRecDepth 100000 in
theorem ck_28_1 : lfAll (chkE 28) mt_28_1 = true := by decide +kernel
theorem ck_28 : lfAll (chkE 28) mt_28 = true := by simp only [mt_28, lfAll, ck_28_0, ck_28_1, Bool.and_self]
set_option maxRecDepth 100000 in
theorem ck_29 : lfAll (chkE 29) mt_29 = true := by decide +kernel
set_option maxRecDepth 100000 in
theorem ck_30 : lfAll (chkE 30) mt_30 = true := by decide +kernel
set_option maxRecDepth 100000 in
theorem ck_31_0 : lfAll (chkE 31) mt_31_0 = true := by decide +kernel
set_option maxRecDepth 100000 in
theorem ck_31_1 : lfAll (chkE 31) mt_31_1 = true := by decide +kernel
theorem ck_31 : lfAll (chkE 31) mt_31 = true := by simp only [mt_31, lfAll, ck_31_0, ck_31_1, Bool.and_self]
set_option maxRecDepth 100000 in
theorem ck_32 : lfAll (chkE 32) mt_32 = true := by decide +kernel
set_option maxRecDepth 100000 in
theorem ck_33 : lfAll (chkE 33) mt_33 = true := by decide +kernel
set_option maxRecDepth 100000 in
theorem ck_34 : lfAll (chkE 34) mt_34 = true := by decide +kernel
set_option maxRecDepth 100000 in
theorem ck_35 : lfAll (chkE 35) mt_35 = true := by decide +kernel
set_option maxRecDepth 100000 in
theorem ck_36_0 : lfAll (chkE 36) mt_36_0 = true := by decide +kernel
set_option maxRecDepth 100000 in
theorem ck_36_1 : lfAll (chkE 36) mt_36_1 = true := by decide +kernel
theorem ck_36 : lfAll (chkE 36) mt_36 = true := by simp only [mt_36, lfAll, ck_36_0, ck_36_1, Bool.and_self]
set_option maxRecDepth 100000 in
theorem ck_37_0 : lfAll (chkE 37) mt_37_0 = true := by decide +kernel
set_option maxRecDepth 100000 in
theorem ck_37_1 : lfAll (chkE 37) mt_37_1 = true := by decide +kernel
set_option maxRecDepth 100000 in
theorem ck_37_2 : lfAll (chkE 37) mt_37_2 = true := by decide +kernel
theorem ck_37 : lfAll (chkE 37) mt_37 = true := by simp only [mt_37, lfAll, ck_37_0, ck_37_1, ck_37_2, Bool.and_self]
set_option maxRecDepth 100000 in
theorem ck_38_0 : lfAll (chkE 38) mt_38_0 = true := by decide +kernel
set_option maxRecDepth 100000 in
theorem ck_38_1 : lfAll (chkE 38) mt_38_1 = true := by decide +kernel
theorem ck_38 : lfAll (chkE 38) mt_38 = true := by simp only [mt_38, lfAll, ck_38_0, ck_38_1, Bool.and_self]
set_option maxRecDepth 100000 in
theorem ck_39_0 : lfAll (chkE 39) mt_39_0 = true := by decide +kernel
set_option maxRecDepth 100000 in
theorem ck_39_1 : lfAll (chkE 39) mt_39_1 = true := by decide +kernel
theorem ck_39 : lfAll (chkE 39) mt_39 = true := by simp only [mt_39, lfAll, ck_39_0, ck_39_1, Bool.and_self]
set_option maxRecDepth 100000 in
theorem ck_40 : lfAll (chkE 40) mt_40 = true := by decide +kernel
set_option maxRecDepth 100000 in
theorem ck_41 : lfAll (chkE 41) mt_41 = true := by decide +kernel
set_option maxRecDepth 100000 in
theorem ck_42 : lfAll (chkE 42) mt_42 = true := by decide +kernel
set_option maxRecDepth 100000 in
theorem ck_43 : lfAll (chkE 43) mt_43 = true := by decide +kernel
set_option maxRecDepth 100000 in
theorem ck_44 : lfAll (chkE 44) mt_44 = true := by decide +kernel
set_option maxRecDepth 100000 in
theorem ck_45_0 : lfAll (chkE 45) mt_45_0 = true := by decide +kernel
set_option maxRecDepth 100000 in
theorem ck_45_1 : lfAll (chkE 45) mt_45_1 = true := by decide +kernel
theorem ck_45 : lfAll (chkE 45) mt_45 = true := by simp only [mt_45, lfAll, ck_45_0, ck_45_1, Bool.and_self]
set_option maxRecDepth 100000 in
theorem ck_46_0 : lfAll (chkE 46) mt_46_0 = true := by decide +kernel
set_option maxRecDepth 100000 in
theorem ck_46_1 : lfAll (chkE 46) mt_46_1 = true := by decide +kernel
set_option maxRecDepth 100000 in
theorem ck_46_2 : lfAll (chkE 46) mt_46_2 = true := by decide +kernel
theorem ck_46 : lfAll (chkE 46) mt_46 = true := by simp only [mt_46, lfAll, ck_46_0, ck_46_1, ck_46_2, Bool.and_self]
set_option maxRecDepth 100000 in
theorem ck_47 : lfAll (chkE 47) mt_47 = true := by decide +kernel
set_option maxRecDepth 100000 in
theorem ck_48 : lfAll (chkE 48) mt_48 = true := by decide +kernel
set_option maxRecDepth 100000 in
theorem ck_49 : lfAll (chkE 49) mt_49 = true := by decide +kernel
set_option maxRecDepth 100000 in
theorem ck_50 : lfAll (chkE 50) mt_50 = true := by decide +kernel
set_option maxRecDepth 100000 in
theorem ck_51 : lfAll (chkE 51) mt_51 = true := by decide +kernel
set_option maxRecDepth 100000 in
theorem ck_52 : lfAll (chkE 52) mt_52 = true := by decide +kernel
set_option maxRecDepth 100000 in
theorem ck_53 : lfAll (chkE 53) mt_53 = true := by decide +kernel
set_option maxRecDepth 100000 in
theorem ck_54 : lfAll (chkE 54) mt_54 = true := by decide +kernel
set_option maxRecDepth 100000 in
theorem ck_55 : lfAll (chkE 55) mt_55 = true := by decide +kernel
set_option maxRecDepth 100000 in
theorem ck_56 : lfAll (chkE 56) mt_56 = true := by decide +kernel
set_option maxRecDepth 100000 in
theorem ck_57 : lfAll (chkE 57) mt_57 = true := by decide +kernel
set_option maxRecDepth 100000 in
theorem ck_58 : lfAll (chkE 58) mt_58 = true := by decide +kernel
set_option maxRecDepth 100000 in
theorem ck_59 : lfAll (chkE 59) mt_59 = true := by decide +kernel
set_option maxRecDepth 100000 in
theorem ck_60 : lfAll (chkE 60) mt_60 = true := by decide +kernel
set_option maxRecDepth 100000 in
theorem ck_61 : lfAll (chkE 61) mt_61 = true := by decide +kernel
set_option maxRecDepth 100000 in
theorem ck_62 : lfAll (chkE 62) mt_62 = true := by decide +kernel
set_option maxRecDepth 100000 in
theorem ck_63 : lfAll (chkE 63) mt_63 = true := by decide +kernel
set_option maxRecDepth 100000 in
theorem ck_64 : lfAll (chkE 64) mt_64 = true := by decide +kernel
set_option maxRecDepth 100000 in
theorem ck_65 : lfAll (chkE 65) mt_65 = true := by decide +kernel
end
section
set_option maxRecDepth 100000 in
theorem ck_66 : lfAll (chkE 66) mt_66 = true := by decide +kernel
set_option maxRecDepth 100000 in
theorem ck_67 : lfAll (chkE 67) mt_67 = true := by decide +kernel
set_option maxRecDepth 100000 in
theorem ck_68_0 : lfAll (chkE 68) mt_68_0 = true := by decide +kernel
set_option maxRecDepth 100000 in
theorem ck_68_1 : lfAll (chkE 68) mt_68_1 = true := by decide +kernel
theorem ck_68 : lfAll (chkE 68) mt_68 = true := by simp only [mt_68, lfAll, ck_68_0, ck_68_1, Bool.and_self]
set_option maxRecDepth 100000 in
theorem ck_69 : lfAll (chkE 69) mt_69 = true := by decide +kernel
set_option maxRecDepth 100000 in
theorem ck_70 : lfAll (chkE 70) mt_70 = true := by decide +kernel
set_option maxRecDepth 100000 in
theorem ck_71 : lfAll (chkE 71) mt_71 = true := by decide +kernel
set_option maxRecDepth 100000 in
theorem ck_72 : lfAll (chkE 72) mt_72 = true := by decide +kernel
set_option maxRecDepth 100000 in
theorem ck_73 : lfAll (chkE 73) mt_73 = true := by decide +kernel
set_option maxRecDepth 100000 in
theorem ck_74_0 : lfAll (chkE 74) mt_74_0 = true := by decide +kernel
set_option maxRecDepth 100000 in
theorem ck_74_1 : lfAll (chkE 74) mt_74_1 = true := by decide +kernel
theorem ck_74 : lfAll (chkE 74) mt_74 = true := by simp only [mt_74, lfAll, ck_74_0, ck_74_1, Bool.and_self]
set_option maxRecDepth 100000 in
theorem ck_75_0 : lfAll (chkE 75) mt_75_0 = true := by decide +kernel
set_option maxRecDepth 100000 in
theorem ck_75_1 : lfAll (chkE 75) mt_75_1 = true := by decide +kernel
theorem ck_75 : lfAll (chkE 75) mt_75 = true := by simp only [mt_75, lfAll, ck_75_0, ck_75_1, Bool.and_self]
set_option maxRecDepth 100000 in
theorem ck_76 : lfAll (chkE 76) mt_76 = true := by decide +kernel
set_option maxRecDepth 100000 in
theorem ck_77 : lfAll (chkE 77) mt_77 = true := by decide +kernel
set_option maxRecDepth 100000 in
theorem ck_78 : lfAll (chkE 78) mt_78 = true := by decide +kernel
set_option maxRecDepth 100000 in
theorem ck_79 : lfAll (chkE 79) mt_79 = true := by decide +kernel
set_option maxRecDepth 100000 in
theorem ck_80_0 : lfAll (chkE 80) mt_80_0 = true := by decide +kernel
set_option maxRecDepth 100000 in
theorem ck_80_1 : lfAll (chkE 80) mt_80_1 = true := by decide +kernel
theorem ck_80 : lfAll (chkE 80) mt_80 = true := by simp only [mt_80, lfAll, ck_80_0, ck_80_1, Bool.and_self]
set_option maxRecDepth 100000 in
theorem ck_81 : lfAll (chkE 81) mt_81 = true := by decide +kernel
set_option maxRecDepth 100000 in
theorem ck_82_0 : lfAll (chkE 82) mt_82_0 = true := by decide +kernel
set_option maxRecDepth 100000 in
theorem ck_82_1 : lfAll (chkE 82) mt_82_1 = true := by decide +kernel
theorem ck_82 : lfAll (chkE 82) mt_82 = true := by simp only [mt_82, lfAll, ck_82_0, ck_82_1, Bool.and_self]
set_option maxRecDepth 100000 in
theorem ck_83_0 : lfAll (chkE 83) mt_83_0 = true := by decide +kernel
set_option maxRecDepth 100000 in
theorem ck_83_1 : lfAll (chkE 83) mt_83_1 = true := by decide +kernel
theorem ck_83 : lfAll (chkE 83) mt_83 = true := by simp only [mt_83, lfAll, ck_83_0, ck_83_1, Bool.and_self]
set_option maxRecDepth 100000 in
theorem ck_84 : lfAll (chkE 84) mt_84 = true := by decide +kernel
set_option maxRecDepth 100000 in
theorem ck_85 : lfAll (chkE 85) mt_85 = true := by decide +kernel
set_option maxRecDepth 100000 in
theorem ck_86 : lfAll (chkE 86) mt_86 = true := by decide +kernel
set_option maxRecDepth 100000 in
theorem ck_87_0 : lfAll (chkE 87) mt_87_0 = true := by decide +kernel
set_option maxRecDepth 100000 in
theorem ck_87_1 : lfAll (chkE 87) mt_87_1 = true := by decide +kernel
theorem ck_87 : lfAll (chkE 87) mt_87 = true := by simp only [mt_87, lfAll, ck_87_0, ck_87_1, Bool.and_self]
set_option maxRecDepth 100000 in
theorem ck_88_0 : lfAll (chkE 88) mt_88_0 = true := by decide +kernel
set_option maxRecDepth 100000 in
theorem ck_88_1 : lfAll (chkE 88) mt_88_1 = true := by decide +kernel
theorem ck_88 : lfAll (chkE 88) mt_88 = true := by simp only [mt_88, lfAll, ck_88_0, ck_88_1, Bool.and_self]
set_option maxRecDepth 100000 in
theorem ck_89_0 : lfAll (chkE 89) mt_89_0 = true := by decide +kernel
set_option maxRecDepth 100000 in
theorem ck_89_1 : lfAll (chkE 89) mt_89_1 = true := by decide +kernel
theorem ck_89 : lfAll (chkE 89) mt_89 = true := by simp only [mt_89, lfAll, ck_89_0, ck_89_1, Bool.and_self]
set_option maxRecDepth 100000 in
theorem ck_90_0 : lfAll (chkE 90) mt_90_0 = true := by decide +kernel
set_option maxRecDepth 100000 in
theorem ck_90_1 : lfAll (chkE 90) mt_90_1 = true := by decide +kernel
theorem ck_90 : lfAll (chkE 90) mt_90 = true := by simp only [mt_90, lfAll, ck_90_0, ck_90_1, Bool.and_self]
set_option maxRecDepth 100000 in
theorem ck_91_0 : lfAll (chkE 91) mt_91_0 = true := by decide +kernel
set_option maxRecDepth 100000 in
theorem ck_91_1 : lfAll (chkE 91) mt_91_1 = true := by decide +kernel
theorem ck_91 : lfAll (chkE 91) mt_91 = true := by simp only [mt_91, lfAll, ck_91_0, ck_91_1, Bool.and_self]
set_option maxRecDepth 100000 in
theorem ck_92 : lfAll (chkE 92) mt_92 = true := by decide +kernel
set_option maxRecDepth 100000 in
theorem ck_93 : lfAll (chkE 93) mt_93 = true := by decide +kernel
set_option maxRecDepth 100000 in
theorem ck_94_0 : lfAll (chkE 94) mt_94_0 = true := by decide +kernel
set_option maxRecDepth 100000 in
theorem ck_94_1 : lfAll (chkE 94) mt_94_1 = true := by decide +kernel
theorem ck_94 : lfAll (chkE 94) mt_94 = true := by simp only [mt_94, lfAll, ck_94_0, ck_94_1, Bool.and_self]
set_option maxRecDepth 100000 in
theorem ck_95 : lfAll (chkE 95) mt_95 = true := by decide +kernel
set_option maxRecDepth 100000 in
theorem ck_96 : lfAll (chkE 96) mt_96 = true := by decide +kernel
set_option maxRecDepth 100000 in
theorem ck_97_0 : lfAll (chkE 97) mt_97_0 = true := by decide +kernel
set_option maxRecDepth 100000 in
theorem ck_97_1 : lfAll (chkE 97) mt_97_1 = true := by decide +kernel
theorem ck_97 : lfAll (chkE 97) mt_97 = true := by simp only [mt_97, lfAll, ck_97_0, ck_97_1, Bool.and_self]
set_option maxRecDepth 100000 in
theorem ck_98 : lfAll (chkE 98) mt_98 = true := by decide +kernel
set_option maxRecDepth 100000 in
theorem ck_99_0 : lfAll (chkE 99) mt_99_0 = true := by decide +kernel
set_option maxRecDepth 100000 in
theorem ck_99_1 : lfAll (chkE 99) mt_99_1 = true := by decide +kernel
theorem ck_99 : lfAll (chkE 99) mt_99 = true := by simp only [mt_99, lfAll, ck_99_0, ck_99_1, Bool.and_self]
set_option maxRecDepth 100000 in
theorem ck_100 : lfAll (chkE 100) mt_100 = true := by decide +kernel
set_option maxRecDepth 100000 in
theorem ck_101 : lfAll (chkE 101) mt_101 = true := by decide +kernel
set_option maxRecDepth 100000 in
theorem ck_102 : lfAll (chkE 102) mt_102 = true := by decide +kernel
set_option maxRecDepth 100000 in
theorem ck_103_0 : lfAll (chkE 103) mt_103_0 = true := by decide +kernel
set_option maxRecDepth 100000 in
theorem ck_103_1 : lfAll (chkE 103) mt_103_1 = true := by decide +kernel
theorem ck_103 : lfAll (chkE 103) mt_103 = true := by simp only [mt_103, lfAll, ck_103_0, ck_103_1, Bool.and_self]
set_option maxRecDepth 100000 in
theorem ck_104_0 : lfAll (chkE 104) mt_104_0 = true := by decide +kernel
set_option maxRecDepth 100000 in
theorem ck_104_1 : lfAll (chkE 104) mt_104_1 = true := by decide +kernel
theorem ck_104 : lfAll (chkE 104) mt_104 = true := by simp only [mt_104, lfAll, ck_104_0, ck_104_1, Bool.and_self]
set_option maxRecDepth 100000 in
theorem ck_105_0 : lfAll (chkE 105) mt_105_0 = true := by decide +kernel
set_option maxRecDepth 100000 in
theorem ck_105_1 : lfAll (chkE 105) mt_105_1 = true := by decide +kernel
theorem ck_105 : lfAll (chkE 105) mt_105 = true := by simp only [mt_105, lfAll, ck_105_0, ck_105_1, Bool.and_self]
set_option maxRecDepth 100000 in
theorem ck_106_0 : lfAll (chkE 106) mt_106_0 = true := by decide +kernel
set_option maxRecDepth 100000 in
theorem ck_106_1 : lfAll (chkE 106) mt_106_1 = true := by decide +kernel
theorem ck_106 : lfAll (chkE 106) mt_106 = true := by simp only [mt_106, lfAll, ck_106_0, ck_106_1, Bool.and_self]
set_option maxRecDepth 100000 in
theorem ck_107 : lfAll (chkE 107) mt_107 = true := by decide +kernel
set_option maxRecDepth 100000 in
theorem ck_108_0 : lfAll (chkE 108) mt_108_0 = true := by decide +kernel
set_option maxRecDepth 100000 in
theorem ck_108_1 : lfAll (chkE 108) mt_108_1 = true := by decide +kernel
theorem ck_108 : lfAll (chkE 108) mt_108 = true := by simp only [mt_108, lfAll, ck_108_0, ck_108_1, Bool.and_self]
set_option maxRecDepth 100000 in
theorem ck_109_0 : lfAll (chkE 109) mt_109_0 = true := by decide +kernel
set_option maxRecDepth 100000 in
theorem ck_109_1 : lfAll (chkE 109) mt_109_1 = true := by decide +kernel
theorem ck_109 : lfAll (chkE 109) mt_109 = true := by simp only [mt_109, lfAll, ck_109_0, ck_109_1, Bool.and_self]
set_option maxRecDepth 100000 in
theorem ck_110 : lfAll (chkE 110) mt_110 = true := by decide +kernel
set_option maxRecDepth 100000 in
theorem ck_111_0 : lfAll (chkE 111) mt_111_0 = true := by decide +kernel
set_option maxRecDepth 100000 in
theorem ck_111_1 : lfAll (chkE 111) mt_111_1 = true := by decide +kernel
theorem ck_111 : lfAll (chkE 111) mt_111 = true := by simp only [mt_111, lfAll, ck_111_0, ck_111_1, Bool.and_self]
set_option maxRecDepth 100000 in
theorem ck_112_0 : lfAll (chkE 112) mt_112_0 = true := by decide +kernel
set_option maxRecDepth 100000 in
theorem ck_112_1 : lfAll (chkE 112) mt_112_1 = true := by decide +kernel
theorem ck_112 : lfAll (chkE 112) mt_112 = true := by simp only [mt_112, lfAll, ck_112_0, ck_112_1, Bool.and_self]
set_option maxRecDepth 100000 in
theorem ck_113 : lfAll (chkE 113) mt_113 = true := by decide +kernel
set_option maxRecDepth 100000 in
theorem ck_114 : lfAll (chkE 114) mt_114 = true := by decide +kernel
set_option maxRecDepth 100000 in
theorem ck_115 : lfAll (chkE 115) mt_115 = true := by decide +kernel
set_option maxRecDepth 100000 in
theorem ck_116 : lfAll (chkE 116) mt_116 = true := by decide +kernel
set_option maxRecDepth 100000 in
theorem ck_117_0 : lfAll (chkE 117) mt_117_0 = true := by decide +kernel
set_option maxRecDepth 100000 in
theorem ck_117_1 : lfAll (chkE 117) mt_117_1 = true := by decide +kernel
theorem ck_117 : lfAll (chkE 117) mt_117 = true := by simp only [mt_117, lfAll, ck_117_0, ck_117_1, Bool.and_self]
set_option maxRecDepth 100000 in
theorem ck_118 : lfAll (chkE 118) mt_118 = true := by decide +kernel
set_option maxRecDepth 100000 in
theorem ck_119_0 : lfAll (chkE 119) mt_119_0 = true := by decide +kernel
set_option maxRecDepth 100000 in
theorem ck_119_1 : lfAll (chkE 119) mt_119_1 = true := by decide +kernel
set_option maxRecDepth 100000 in
theorem ck_119_2 : lfAll (chkE 119) mt_119_2 = true := by decide +kernel
theorem ck_119 : lfAll (chkE 119) mt_119 = true := by simp only [mt_119, lfAll, ck_119_0, ck_119_1, ck_119_2, Bool.and_self]
set_option maxRecDepth 100000 in
theorem ck_120 : lfAll (chkE 120) mt_120 = true := by decide +kernel
set_option maxRecDepth 100000 in
theorem ck_121_0 : lfAll (chkE 121) mt_121_0 = true := by decide +kernel
set_option maxRecDepth 100000 in
theorem ck_121_1 : lfAll (chkE 121) mt_121_1 = true := by decide +kernel
theorem ck_121 : lfAll (chkE 121) mt_121 = true := by simp only [mt_121, lfAll, ck_121_0, ck_121_1, Bool.and_self]
set_option maxRecDepth 100000 in
theorem ck_122 : lfAll (chkE 122) mt_122 = true := by decide +kernel
set_option maxRecDepth 100000 in
theorem ck_123 : lfAll (chkE 123) mt_123 = true := by decide +kernel
set_option maxRecDepth 100000 in
theorem ck_124 : lfAll (chkE 124) mt_124 = true := by decide +kernel
set_option maxRecDepth 100000 in
theorem ck_125 : lfAll (chkE 125) mt_125 = true := by decide +kernel
set_option maxRecDepth 100000 in
theorem ck_126 : lfAll (chkE 126) mt_126 = true := by decide +kernel
set_option maxRecDepth 100000 in
theorem ck_127_0 : lfAll (chkE 127) mt_127_0 = true := by decide +kernel
set_option maxRecDepth 100000 in
theorem ck_127_1 : lfAll (chkE 127) mt_127_1 = true := by decide +kernel
theorem ck_127 : lfAll (chkE 127) mt_127 = true := by simp only [mt_127, lfAll, ck_127_0, ck_127_1, Bool.and_self]
set_option maxRecDepth 100000 in
theorem ck_128_0 : lfAll (chkE 128) mt_128_0 = true := by decide +kernel
set_option maxRecDepth 100000 in
theorem ck_128_1 : lfAll (chkE 128) mt_128_1 = true := by decide +kernel
theorem ck_128 : lfAll (chkE 128) mt_128 = true := by simp only [mt_128, lfAll, ck_128_0, ck_128_1, Bool.and_self]
set_option maxRecDepth 100000 in
theorem ck_129_0 : lfAll (chkE 129) mt_129_0 = true := by decide +kernel
set_option maxRecDepth 100000 in
theorem ck_129_1 : lfAll (chkE 129) mt_129_1 = true := by decide +kernel
theorem ck_129 : lfAll (chkE 129) mt_129 = true := by simp only [mt_129, lfAll, ck_129_0, ck_129_1, Bool.and_self]
set_option maxRecDepth 100000 in
theorem ck_130_0 : lfAll (chkE 130) mt_130_0 = true := by decide +kernel
set_option maxRecDepth 100000 in
theorem ck_130_1 : lfAll (chkE 130) mt_130_1 = true := by decide +kernel
theorem ck_130 : lfAll (chkE 130) mt_130 = true := by simp only [mt_130, lfAll, ck_130_0, ck_130_1, Bool.and_self]
set_option maxRecDepth 100000 in
theorem ck_131 : lfAll (chkE 131) mt_131 = true := by decide +kernel
end
section
set_option maxRecDepth 100000 in
theorem ck_132_0 : lfAll (chkE 132) mt_132_0 = true := by decide +kernel
set_option maxRecDepth 100000 in
theorem ck_132_1 : lfAll (chkE 132) mt_132_1 = true := by decide +kernel
theorem ck_132 : lfAll (chkE 132) mt_132 = true := by simp only [mt_132, lfAll, ck_132_0, ck_132_1, Bool.and_self]
set_option maxRecDepth 100000 in
theorem ck_133_0 : lfAll (chkE 133) mt_133_0 = true := by decide +kernel
set_option maxRecDepth 100000 in
theorem ck_133_1 : lfAll (chkE 133) mt_133_1 = true := by decide +kernel
theorem ck_133 : lfAll (chkE 133) mt_133 = true := by simp only [mt_133, lfAll, ck_133_0, ck_133_1, Bool.and_self]
set_option maxRecDepth 100000 in
theorem ck_134 : lfAll (chkE 134) mt_134 = true := by decide +kernel
set_option maxRecDepth 100000 in
theorem ck_135 : lfAll (chkE 135) mt_135 = true := by decide +kernel
set_option maxRecDepth 100000 in
theorem ck_136_0 : lfAll (chkE 136) mt_136_0 = true := by decide +kernel
set_option maxRecDepth 100000 in
theorem ck_136_1 : lfAll (chkE 136) mt_136_1 = true := by decide +kernel
theorem ck_136 : lfAll (chkE 136) mt_136 = true := by simp only [mt_136, lfAll, ck_136_0, ck_136_1, Bool.and_self]
set_option maxRecDepth 100000 in
theorem ck_137 : lfAll (chkE 137) mt_137 = true := by decide +kernel
set_option maxRecDepth 100000 in
theorem ck_138 : lfAll (chkE 138) mt_138 = true := by decide +kernel
set_option maxRecDepth 100000 in
theorem ck_139 : lfAll (chkE 139) mt_139 = true := by decide +kernel
set_option maxRecDepth 100000 in
theorem ck_140 : lfAll (chkE 140) mt_140 = true := by decide +kernel
set_option maxRecDepth 100000 in
theorem ck_141 : lfAll (chkE 141) mt_141 = true := by decide +kernel
set_option maxRecDepth 100000 in
theorem ck_142 : lfAll (chkE 142) mt_142 = true := by decide +kernel
set_option maxRecDepth 100000 in
theorem ck_143 : lfAll (chkE 143) mt_143 = true := by decide +kernel
set_option maxRecDepth 100000 in
theorem ck_144 : lfAll (chkE 144) mt_144 = true := by decide +kernel
set_option maxRecDepth 100000 in
theorem ck_145_0 : lfAll (chkE 145) mt_145_0 = true := by decide +kernel
set_option maxRecDepth 100000 in
theorem ck_145_1 : lfAll (chkE 145) mt_145_1 = true := by decide +kernel
theorem ck_145 : lfAll (chkE 145) mt_145 = true := by simp only [mt_145, lfAll, ck_145_0, ck_145_1, Bool.and_self]
set_option maxRecDepth 100000 in
theorem ck_146 : lfAll (chkE 146) mt_146 = true := by decide +kernel
set_option maxRecDepth 100000 in
theorem ck_147_0 : lfAll (chkE 147) mt_147_0 = true := by decide +kernel
set_option maxRecDepth 100000 in
theorem ck_147_1 : lfAll (chkE 147) mt_147_1 = true := by decide +kernel
theorem ck_147 : lfAll (chkE 147) mt_147 = true := by simp only [mt_147, lfAll, ck_147_0, ck_147_1, Bool.and_self]
set_option maxRecDepth 100000 in
theorem ck_148_0 : lfAll (chkE 148) mt_148_0 = true := by decide +kernel
set_option maxRecDepth 100000 in
theorem ck_148_1 : lfAll (chkE 148) mt_148_1 = true := by decide +kernel
theorem ck_148 : lfAll (chkE 148) mt_148 = true := by simp only [mt_148, lfAll, ck_148_0, ck_148_1, Bool.and_self]
set_option maxRecDepth 100000 in
theorem ck_149_0 : lfAll (chkE 149) mt_149_0 = true := by decide +kernel
set_option maxRecDepth 100000 in
theorem ck_149_1 : lfAll (chkE 149) mt_149_1 = true := by decide +kernel
theorem ck_149 : lfAll (chkE 149) mt_149 = true := by simp only [mt_149, lfAll, ck_149_0, ck_149_1, Bool.and_self]
set_option maxRecDepth 100000 in
theorem ck_150 : lfAll (chkE 150) mt_150 = true := by decide +kernel
set_option maxRecDepth 100000 in
theorem ck_151 : lfAll (chkE 151) mt_151 = true := by decide +kernel
set_option maxRecDepth 100000 in
theorem ck_152 : lfAll (chkE 152) mt_152 = true := by decide +kernel
set_option maxRecDepth 100000 in
theorem ck_153 : lfAll (chkE 153) mt_153 = true := by decide +kernel
set_option maxRecDepth 100000 in
theorem ck_154 : lfAll (chkE 154) mt_154 = true := by decide +kernel
set_option maxRecDepth 100000 in
theorem ck_155 : lfAll (chkE 155) mt_155 = true := by decide +kernel
set_option maxRecDepth 100000 in
theorem ck_156 : lfAll (chkE 156) mt_156 = true := by decide +kernel
set_option maxRecDepth 100000 in
theorem ck_157 : lfAll (chkE 157) mt_157 = true := by decide +kernel
set_option maxRecDepth 100000 in
theorem ck_158 : lfAll (chkE 158) mt_158 = true := by decide +kernel
set_option maxRecDepth 100000 in
theorem ck_159 : lfAll (chkE 159) mt_159 = true := by decide +kernel
set_option maxRecDepth 100000 in
theorem ck_160 : lfAll (chkE 160) mt_160 = true := by decide +kernel
set_option maxRecDepth 100000 in
theorem ck_161_0 : lfAll (chkE 161) mt_161_0 = true := by decide +kernel
set_option maxRecDepth 100000 in
theorem ck_161_1 : lfAll (chkE 161) mt_161_1 = true := by decide +kernel
theorem ck_161 : lfAll (chkE 161) mt_161 = true := by simp only [mt_161, lfAll, ck_161_0, ck_161_1, Bool.and_self]
set_option maxRecDepth 100000 in
theorem ck_162 : lfAll (chkE 162) mt_162 = true := by decide +kernel
set_option maxRecDepth 100000 in
theorem ck_163 : lfAll (chkE 163) mt_163 = true := by decide +kernel
set_option maxRecDepth 100000 in
theorem ck_164_0 : lfAll (chkE 164) mt_164_0 = true := by decide +kernel
set_option maxRecDepth 100000 in
theorem ck_164_1 : lfAll (chkE 164) mt_164_1 = true := by decide +kernel
set_option maxRecDepth 100000 in
theorem ck_164_2 : lfAll (chkE 164) mt_164_2 = true := by decide +kernel
theorem ck_164 : lfAll (chkE 164) mt_164 = true := by simp only [mt_164, lfAll, ck_164_0, ck_164_1, ck_164_2, Bool.and_self]
set_option maxRecDepth 100000 in
theorem ck_165 : lfAll (chkE 165) mt_165 = true := by decide +kernel
set_option maxRecDepth 100000 in
theorem ck_166 : lfAll (chkE 166) mt_166 = true := by decide +kernel
set_option maxRecDepth 100000 in
theorem ck_167 : lfAll (chkE 167) mt_167 = true := by decide +kernel
set_option maxRecDepth 100000 in
theorem ck_168 : lfAll (chkE 168) mt_168 = true := by decide +kernel
set_option maxRecDepth 100000 in
theorem ck_169 : lfAll (chkE 169) mt_169 = true := by decide +kernel
set_option maxRecDepth 100000 in
theorem ck_170_0 : lfAll (chkE 170) mt_170_0 = true := by decide +kernel
set_option maxRecDepth 100000 in
theorem ck_170_1 : lfAll (chkE 170) mt_170_1 = true := by decide +kernel
set_option maxRecDepth 100000 in
theorem ck_170_2 : lfAll (chkE 170) mt_170_2 = true := by decide +kernel
theorem ck_170 : lfAll (chkE 170) mt_170 = true := by simp only [mt_170, lfAll, ck_170_0, ck_170_1, ck_170_2, Bool.and_self]
set_option maxRecDepth 100000 in
theorem ck_171 : lfAll (chkE 171) mt_171 = true := by decide +kernel
set_option maxRecDepth 100000 in
theorem ck_172 : lfAll (chkE 172) mt_172 = true := by decide +kernel
set_option maxRecDepth 100000 in
theorem ck_173_0 : lfAll (chkE 173) mt_173_0 = true := by decide +kernel
set_option maxRecDepth 100000 in
theorem ck_173_1 : lfAll (chkE 173) mt_173_1 = true := by decide +kernel
theorem ck_173 : lfAll (chkE 173) mt_173 = true := by simp only [mt_173, lfAll, ck_173_0, ck_173_1, Bool.and_self]
set_option maxRecDepth 100000 in
theorem ck_174 : lfAll (chkE 174) mt_174 = true := by decide +kernel
set_option maxRecDepth 100000 in
theorem ck_175 : lfAll (chkE 175) mt_175 = true := by decide +kernel
set_option maxRecDepth 100000 in
theorem ck_176_0 : lfAll (chkE 176) mt_176_0 = true := by decide +kernel
set_option maxRecDepth 100000 in
theorem ck_176_1 : lfAll (chkE 176) mt_176_1 = true := by decide +kernel
theorem ck_176 : lfAll (chkE 176) mt_176 = true := by simp only [mt_176, lfAll, ck_176_0, ck_176_1, Bool.and_self]
set_option maxRecDepth 100000 in
theorem ck_177 : lfAll (chkE 177) mt_177 = true := by decide +kernel
set_option maxRecDepth 100000 in
theorem ck_178_0 : lfAll (chkE 178) mt_178_0 = true := by decide +kernel
set_option maxRecDepth 100000 in
theorem ck_178_1 : lfAll (chkE 178) mt_178_1 = true := by decide +kernel
theorem ck_178 : lfAll (chkE 178) mt_178 = true := by simp only [mt_178, lfAll, ck_178_0, ck_178_1, Bool.and_self]
set_option maxRecDepth 100000 in
theorem ck_179 : lfAll (chkE 179) mt_179 = true := by decide +kernel
set_option maxRecDepth 100000 in
theorem ck_180 : lfAll (chkE 180) mt_180 = true := by decide +kernel
set_option maxRecDepth 100000 in
theorem ck_181 : lfAll (chkE 181) mt_181 = true := by decide +kernel
set_option maxRecDepth 100000 in
theorem ck_182 : lfAll (chkE 182) mt_182 = true := by decide +kernel
set_option maxRecDepth 100000 in
theorem ck_183 : lfAll (chkE 183) mt_183 = true := by decide +kernel
set_option maxRecDepth 100000 in
theorem ck_184_0 : lfAll (chkE 184) mt_184_0 = true := by decide +kernel
set_option maxRecDepth 100000 in
theorem ck_184_1 : lfAll (chkE 184) mt_184_1 = true := by decide +kernel
theorem ck_184 : lfAll (chkE 184) mt_184 = true := by simp only [mt_184, lfAll, ck_184_0, ck_184_1, Bool.and_self]
set_option maxRecDepth 100000 in
theorem ck_185_0 : lfAll (chkE 185) mt_185_0 = true := by decide +kernel
set_option maxRecDepth 100000 in
theorem ck_185_1 : lfAll (chkE 185) mt_185_1 = true := by decide +kernel
set_option maxRecDepth 100000 in
theorem ck_185_2 : lfAll (chkE 185) mt_185_2 = true := by decide +kernel
theorem ck_185 : lfAll (chkE 185) mt_185 = true := by simp only [mt_185, lfAll, ck_185_0, ck_185_1, ck_185_2, Bool.and_self]
set_option maxRecDepth 100000 in
theorem ck_186_0 : lfAll (chkE 186) mt_186_0 = true := by decide +kernel
set_option maxRecDepth 100000 in
theorem ck_186_1 : lfAll (chkE 186) mt_186_1 = true := by decide +kernel
theorem ck_186 : lfAll (chkE 186) mt_186 = true := by simp only [mt_186, lfAll, ck_186_0, ck_186_1, Bool.and_self]
set_option maxRecDepth 100000 in
theorem ck_187_0 : lfAll (chkE 187) mt_187_0 = true := by decide +kernel
set_option maxRecDepth 100000 in
theorem ck_187_1 : lfAll (chkE 187) mt_187_1 = true := by decide +kernel
theorem ck_187 : lfAll (chkE 187) mt_187 = true := by simp only [mt_187, lfAll, ck_187_0, ck_187_1, Bool.and_self]
set_option maxRecDepth 100000 in
theorem ck_188_0 : lfAll (chkE 188) mt_188_0 = true := by decide +kernel
set_option maxRecDepth 100000 in
theorem ck_188_1 : lfAll (chkE 188) mt_188_1 = true := by decide +kernel
set_option maxRecDepth 100000 in
theorem ck_188_2 : lfAll (chkE 188) mt_188_2 = true := by decide +kernel
theorem ck_188 : lfAll (chkE 188) mt_188 = true := by simp only [mt_188, lfAll, ck_188_0, ck_188_1, ck_188_2, Bool.and_self]
set_option maxRecDepth 100000 in
theorem ck_189_0 : lfAll (chkE 189) mt_189_0 = true := by decide +kernel
set_option maxRecDepth 100000 in
theorem ck_189_1 : lfAll (chkE 189) mt_189_1 = true := by decide +kernel
set_option maxRecDepth 100000 in
theorem ck_189_2 : lfAll (chkE 189) mt_189_2 = true := by decide +kernel
theorem ck_189 : lfAll (chkE 189) mt_189 = true := by simp only [mt_189, lfAll, ck_189_0, ck_189_1, ck_189_2, Bool.and_self]
set_option maxRecDepth 100000 in
theorem ck_190 : lfAll (chkE 190) mt_190 = true := by decide +kernel
set_option maxRecDepth 100000 in
theorem ck_191 : lfAll (chkE 191) mt_191 = true := by decide +kernel
set_option maxRecDepth 100000 in
theorem ck_192 : lfAll (chkE 192) mt_192 = true := by decide +kernel
set_option maxRecDepth 100000 in
theorem ck_193 : lfAll (chkE 193) mt_193 = true := by decide +kernel
set_option maxRecDepth 100000 in
theorem ck_194 : lfAll (chkE 194) mt_194 = true := by decide +kernel
set_option maxRecDepth 100000 in
theorem ck_195 : lfAll (chkE 195) mt_195 = true := by decide +kernel
set_option maxRecDepth 100000 in
theorem ck_196 : lfAll (chkE 196) mt_196 = true := by decide +kernel
set_option maxRecDepth 100000 in
theorem ck_197 : lfAll (chkE 197) mt_197 = true := by decide +kernel
end
section
set_option maxRecDepth 100000 in
theorem ck_198 : lfAll (chkE 198) mt_198 = true := by decide +kernel
set_option maxRecDepth 100000 in
theorem ck_199 : lfAll (chkE 199) mt_199 = true := by decide +kernel
set_option maxRecDepth 100000 in
theorem ck_200 : lfAll (chkE 200) mt_200 = true := by decide +kernel
set_option maxRecDepth 100000 in
theorem ck_201_0 : lfAll (chkE 201) mt_201_0 = true := by decide +kernel
set_option maxRecDepth 100000 in
theorem ck_201_1 : lfAll (chkE 201) mt_201_1 = true := by decide +kernel
theorem ck_201 : lfAll (chkE 201) mt_201 = true := by simp only [mt_201, lfAll, ck_201_0, ck_201_1, Bool.and_self]
set_option maxRecDepth 100000 in
theorem ck_202 : lfAll (chkE 202) mt_202 = true := by decide +kernel
set_option maxRecDepth 100000 in
theorem ck_203 : lfAll (chkE 203) mt_203 = true := by decide +kernel
set_option maxRecDepth 100000 in
theorem ck_204_0 : lfAll (chkE 204) mt_204_0 = true := by decide +kernel
set_option maxRecDepth 100000 in
theorem ck_204_1 : lfAll (chkE 204) mt_204_1 = true := by decide +kernel
theorem ck_204 : lfAll (chkE 204) mt_204 = true := by simp only [mt_204, lfAll, ck_204_0, ck_204_1, Bool.and_self]
set_option maxRecDepth 100000 in
theorem ck_205_0 : lfAll (chkE 205) mt_205_0 = true := by decide +kernel
set_option maxRecDepth 100000 in
theorem ck_205_1 : lfAll (chkE 205) mt_205_1 = true := by decide +kernel
theorem ck_205 : lfAll (chkE 205) mt_205 = true := by simp only [mt_205, lfAll, ck_205_0, ck_205_1, Bool.and_self]
set_option maxRecDepth 100000 in
theorem ck_206_0 : lfAll (chkE 206) mt_206_0 = true := by decide +kernel
set_option maxRecDepth 100000 in
theorem ck_206_1 : lfAll (chkE 206) mt_206_1 = true := by decide +kernel
theorem ck_206 : lfAll (chkE 206) mt_206 = true := by simp only [mt_206, lfAll, ck_206_0, ck_206_1, Bool.and_self]
set_option maxRecDepth 100000 in
theorem ck_207 : lfAll (chkE 207) mt_207 = true := by decide +kernel
set_option maxRecDepth 100000 in
theorem ck_208 : lfAll (chkE 208) mt_208 = true := by decide +kernel
set_option maxRecDepth 100000 in
theorem ck_209 : lfAll (chkE 209) mt_209 = true := by decide +kernel
set_option maxRecDepth 100000 in
theorem ck_210 : lfAll (chkE 210) mt_210 = true := by decide +kernel
set_option maxRecDepth 100000 in
theorem ck_211_0 : lfAll (chkE 211) mt_211_0 = true := by decide +kernel
set_option maxRecDepth 100000 in
theorem ck_211_1 : lfAll (chkE 211) mt_211_1 = true := by decide +kernel
theorem ck_211 : lfAll (chkE 211) mt_211 = true := by simp only [mt_211, lfAll, ck_211_0, ck_211_1, Bool.and_self]
set_option maxRecDepth 100000 in
theorem ck_212_0 : lfAll (chkE 212) mt_212_0 = true := by decide +kernel
set_option maxRecDepth 100000 in
theorem ck_212_1 : lfAll (chkE 212) mt_212_1 = true := by decide +kernel
theorem ck_212 : lfAll (chkE 212) mt_212 = true := by simp only [mt_212, lfAll, ck_212_0, ck_212_1, Bool.and_self]
set_option maxRecDepth 100000 in
theorem ck_213_0 : lfAll (chkE 213) mt_213_0 = true := by decide +kernel
set_option maxRecDepth 100000 in
theorem ck_213_1 : lfAll (chkE 213) mt_213_1 = true := by decide +kernel
theorem ck_213 : lfAll (chkE 213) mt_213 = true := by simp only [mt_213, lfAll, ck_213_0, ck_213_1, Bool.and_self]
set_option maxRecDepth 100000 in
theorem ck_214 : lfAll (chkE 214) mt_214 = true := by decide +kernel
set_option maxRecDepth 100000 in
theorem ck_215 : lfAll (chkE 215) mt_215 = true := by decide +kernel
set_option maxRecDepth 100000 in
theorem ck_216_0 : lfAll (chkE 216) mt_216_0 = true := by decide +kernel
set_option maxRecDepth 100000 in
theorem ck_216_1 : lfAll (chkE 216) mt_216_1 = true := by decide +kernel
set_option maxRecDepth 100000 in
theorem ck_216_2 : lfAll (chkE 216) mt_216_2 = true := by decide +kernel
theorem ck_216 : lfAll (chkE 216) mt_216 = true := by simp only [mt_216, lfAll, ck_216_0, ck_216_1, ck_216_2, Bool.and_self]
set_option maxRecDepth 100000 in
theorem ck_217_0 : lfAll (chkE 217) mt_217_0 = true := by decide +kernel
set_option maxRecDepth 100000 in
theorem ck_217_1 : lfAll (chkE 217) mt_217_1 = true := by decide +kernel
theorem ck_217 : lfAll (chkE 217) mt_217 = true := by simp only [mt_217, lfAll, ck_217_0, ck_217_1, Bool.and_self]
set_option maxRecDepth 100000 in
theorem ck_218_0 : lfAll (chkE 218) mt_218_0 = true := by decide +kernel
set_option maxRecDepth 100000 in
theorem ck_218_1 : lfAll (chkE 218) mt_218_1 = true := by decide +kernel
theorem ck_218 : lfAll (chkE 218) mt_218 = true := by simp only [mt_218, lfAll, ck_218_0, ck_218_1, Bool.and_self]
set_option maxRecDepth 100000 in
theorem ck_219 : lfAll (chkE 219) mt_219 = true := by decide +kernel
set_option maxRecDepth 100000 in
theorem ck_220 : lfAll (chkE 220) mt_220 = true := by decide +kernel
set_option maxRecDepth 100000 in
theorem ck_221_0 : lfAll (chkE 221) mt_221_0 = true := by decide +kernel
set_option maxRecDepth 100000 in
theorem ck_221_1 : lfAll (chkE 221) mt_221_1 = true := by decide +kernel
theorem ck_221 : lfAll (chkE 221) mt_221 = true := by simp only [mt_221, lfAll, ck_221_0, ck_221_1, Bool.and_self]
set_option maxRecDepth 100000 in
theorem ck_222 : lfAll (chkE 222) mt_222 = true := by decide +kernel
set_option maxRecDepth 100000 in
theorem ck_223_0 : lfAll (chkE 223) mt_223_0 = true := by decide +kernel
set_option maxRecDepth 100000 in
theorem ck_223_1 : lfAll (chkE 223) mt_223_1 = true := by decide +kernel
theorem ck_223 : lfAll (chkE 223) mt_223 = true := by simp only [mt_223, lfAll, ck_223_0, ck_223_1, Bool.and_self]
set_option maxRecDepth 100000 in
theorem ck_224_0 : lfAll (chkE 224) mt_224_0 = true := by decide +kernel
set_option maxRecDepth 100000 in
theorem ck_224_1 : lfAll (chkE 224) mt_224_1 = true := by decide +kernel
set_option maxRecDepth 100000 in
theorem ck_224_2 : lfAll (chkE 224) mt_224_2 = true := by decide +kernel
theorem ck_224 : lfAll (chkE 224) mt_224 = true := by simp only [mt_224, lfAll, ck_224_0, ck_224_1, ck_224_2, Bool.and_self]
set_option maxRecDepth 100000 in
theorem ck_225_0 : lfAll (chkE 225) mt_225_0 = true := by decide +kernel
set_option maxRecDepth 100000 in
theorem ck_225_1 : lfAll (chkE 225) mt_225_1 = true := by decide +kernel
theorem ck_225 : lfAll (chkE 225) mt_225 = true := by simp only [mt_225, lfAll, ck_225_0, ck_225_1, Bool.and_self]
set_option maxRecDepth 100000 in
theorem ck_226 : lfAll (chkE 226) mt_226 = true := by decide +kernel
set_option maxRecDepth 100000 in
theorem ck_227_0 : lfAll (chkE 227) mt_227_0 = true := by decide +kernel
set_option maxRecDepth 100000 in
theorem ck_227_1 : lfAll (chkE 227) mt_227_1 = true := by decide +kernel
theorem ck_227 : lfAll (chkE 227) mt_227 = true := by simp only [mt_227, lfAll, ck_227_0, ck_227_1, Bool.and_self]
set_option maxRecDepth 100000 in
theorem ck_228_0 : lfAll (chkE 228) mt_228_0 = true := by decide +kernel
set_option maxRecDepth 100000 in
theorem ck_228_1 : lfAll (chkE 228) mt_228_1 = true := by decide +kernel
theorem ck_228 : lfAll (chkE 228) mt_228 = true := by simp only [mt_228, lfAll, ck_228_0, ck_228_1, Bool.and_self]
set_option maxRecDepth 100000 in
theorem ck_229 : lfAll (chkE 229) mt_229 = true := by decide +kernel
set_option maxRecDepth 100000 in
theorem ck_230_0 : lfAll (chkE 230) mt_230_0 = true := by decide +kernel
set_option maxRecDepth 100000 in
theorem ck_230_1 : lfAll (chkE 230) mt_230_1 = true := by decide +kernel
theorem ck_230 : lfAll (chkE 230) mt_230 = true := by simp only [mt_230, lfAll, ck_230_0, ck_230_1, Bool.and_self]
set_option maxRecDepth 100000 in
theorem ck_231_0 : lfAll (chkE 231) mt_231_0 = true := by decide +kernel
set_option maxRecDepth 100000 in
theorem ck_231_1 : lfAll (chkE 231) mt_231_1 = true := by decide +kernel
theorem ck_231 : lfAll (chkE 231) mt_231 = true := by simp only [mt_231, lfAll, ck_231_0, ck_231_1, Bool.and_self]
set_option maxRecDepth 100000 in
theorem ck_232_0 : lfAll (chkE 232) mt_232_0 = true := by decide +kernel
set_option maxRecDepth 100000 in
theorem ck_232_1 : lfAll (chkE 232) mt_232_1 = true := by decide +kernel
theorem ck_232 : lfAll (chkE 232) mt_232 = true := by simp only [mt_232, lfAll, ck_232_0, ck_232_1, Bool.and_self]
set_option maxRecDepth 100000 in
theorem ck_233 : lfAll (chkE 233) mt_233 = true := by decide +kernel
set_option maxRecDepth 100000 in
theorem ck_234 : lfAll (chkE 234) mt_234 = true := by decide +kernel
set_option maxRecDepth 100000 in
theorem ck_235_0 : lfAll (chkE 235) mt_235_0 = true := by decide +kernel
set_option maxRecDepth 100000 in
theorem ck_235_1 : lfAll (chkE 235) mt_235_1 = true := by decide +kernel
theorem ck_235 : lfAll (chkE 235) mt_235 = true := by simp only [mt_235, lfAll, ck_235_0, ck_235_1, Bool.and_self]
set_option maxRecDepth 100000 in
theorem ck_236_0 : lfAll (chkE 236) mt_236_0 = true := by decide +kernel
set_option maxRecDepth 100000 in
theorem ck_236_1 : lfAll (chkE 236) mt_236_1 = true := by decide +kernel
theorem ck_236 : lfAll (chkE 236) mt_236 = true := by simp only [mt_236, lfAll, ck_236_0, ck_236_1, Bool.and_self]
set_option maxRecDepth 100000 in
theorem ck_237 : lfAll (chkE 237) mt_237 = true := by decide +kernel
set_option maxRecDepth 100000 in
theorem ck_238_0 : lfAll (chkE 238) mt_238_0 = true := by decide +kernel
set_option maxRecDepth 100000 in
theorem ck_238_1 : lfAll (chkE 238) mt_238_1 = true := by decide +kernel
set_option maxRecDepth 100000 in
theorem ck_238_2 : lfAll (chkE 238) mt_238_2 = true := by decide +kernel
set_option maxRecDepth 100000 in
theorem ck_238_3 : lfAll (chkE 238) mt_238_3 = true := by decide +kernel
theorem ck_238 : lfAll (chkE 238) mt_238 = true := by simp only [mt_238, lfAll, ck_238_0, ck_238_1, ck_238_2, ck_238_3, Bool.and_self]
set_option maxRecDepth 100000 in
theorem ck_239 : lfAll (chkE 239) mt_239 = true := by decide +kernel
set_option maxRecDepth 100000 in
theorem ck_240_0 : lfAll (chkE 240) mt_240_0 = true := by decide +kernel
set_option maxRecDepth 100000 in
theorem ck_240_1 : lfAll (chkE 240) mt_240_1 = true := by decide +kernel
theorem ck_240 : lfAll (chkE 240) mt_240 = true := by simp only [mt_240, lfAll, ck_240_0, ck_240_1, Bool.and_self]
set_option maxRecDepth 100000 in
theorem ck_241_0 : lfAll (chkE 241) mt_241_0 = true := by decide +kernel
set_option maxRecDepth 100000 in
theorem ck_241_1 : lfAll (chkE 241) mt_241_1 = true := by decide +kernel
theorem ck_241 : lfAll (chkE 241) mt_241 = true := by simp only [mt_241, lfAll, ck_241_0, ck_241_1, Bool.and_self]
set_option maxRecDepth 100000 in
theorem ck_242 : lfAll (chkE 242) mt_242 = true := by decide +kernel
set_option maxRecDepth 100000 in
theorem ck_243_0 : lfAll (chkE 243) mt_243_0 = true := by decide +kernel
set_option maxRecDepth 100000 in
theorem ck_243_1 : lfAll (chkE 243) mt_243_1 = true := by decide +kernel
theorem ck_243 : lfAll (chkE 243) mt_243 = true := by simp only [mt_243, lfAll, ck_243_0, ck_243_1, Bool.and_self]
set_option maxRecDepth 100000 in
theorem ck_244 : lfAll (chkE 244) mt_244 = true := by decide +kernel
set_option maxRecDepth 100000 in
theorem ck_245 : lfAll (chkE 245) mt_245 = true := by decide +kernel
set_option maxRecDepth 100000 in
theorem ck_246_0 : lfAll (chkE 246) mt_246_0 = true := by decide +kernel
set_option maxRecDepth 100000 in
theorem ck_246_1 : lfAll (chkE 246) mt_246_1 = true := by decide +kernel
theorem ck_246 : lfAll (chkE 246) mt_246 = true := by simp only [mt_246, lfAll, ck_246_0, ck_246_1, Bool.and_self]
set_option maxRecDepth 100000 in
theorem ck_247_0 : lfAll (chkE 247) mt_247_0 = true := by decide +kernel
set_option maxRecDepth 100000 in
theorem ck_247_1 : lfAll (chkE 247) mt_247_1 = true := by decide +kernel
set_option maxRecDepth 100000 in
theorem ck_247_2 : lfAll (chkE 247) mt_247_2 = true := by decide +kernel
theorem ck_247 : lfAll (chkE 247) mt_247 = true := by simp only [mt_247, lfAll, ck_247_0, ck_247_1, ck_247_2, Bool.and_self]
set_option maxRecDepth 100000 in
theorem ck_248_0 : lfAll (chkE 248) mt_248_0 = true := by decide +kernel
set_option maxRecDepth 100000 in
theorem ck_248_1 : lfAll (chkE 248) mt_248_1 = true := by decide +kernel
set_option maxRecDepth 100000 in
theorem ck_248_2 : lfAll (chkE 248) mt_248_2 = true := by decide +kernel
set_option maxRecDepth 100000 in
theorem ck_248_3 : lfAll (chkE 248) mt_248_3 = true := by decide +kernel
theorem ck_248 : lfAll (chkE 248) mt_248 = true := by simp only [mt_248, lfAll, ck_248_0, ck_248_1, ck_248_2, ck_248_3, Bool.and_self]
set_option maxRecDepth 100000 in
theorem ck_249 : lfAll (chkE 249) mt_249 = true := by decide +kernel
set_option maxRecDepth 100000 in
theorem ck_250_0 : lfAll (chkE 250) mt_250_0 = true := by decide +kernel
set_option maxRecDepth 100000 in
theorem ck_250_1 : lfAll (chkE 250) mt_250_1 = true := by decide +kernel
theorem ck_250 : lfAll (chkE 250) mt_250 = true := by simp only [mt_250, lfAll, ck_250_0, ck_250_1, Bool.and_self]
set_option maxRecDepth 100000 in
theorem ck_251 : lfAll (chkE 251) mt_251 = true := by decide +kernel
set_option maxRecDepth 100000 in
theorem ck_252 : lfAll (chkE 252) mt_252 = true := by decide +kernel
set_option maxRecDepth 100000 in
theorem ck_253_0 : lfAll (chkE 253) mt_253_0 = true := by decide +kernel
set_option maxRecDepth 100000 in
theorem ck_253_1 : lfAll (chkE 253) mt_253_1 = true := by decide +kernel
theorem ck_253 : lfAll (chkE 253) mt_253 = true := by simp only [mt_253, lfAll, ck_253_0, ck_253_1, Bool.and_self]
set_option maxRecDepth 100000 in
theorem ck_254_0 : lfAll (chkE 254) mt_254_0 = true := by decide +kernel
set_option maxRecDepth 100000 in
theorem ck_254_1 : lfAll (chkE 254) mt_254_1 = true := by decide +kernel
theorem ck_254 : lfAll (chkE 254) mt_254 = true := by simp only [mt_254, lfAll, ck_254_0, ck_254_1, Bool.and_self]
set_option maxRecDepth 100000 in
theorem ck_255_0 : lfAll (chkE 255) mt_255_0 = true := by decide +kernel
set_option maxRecDepth 100000 in
theorem ck_255_1 : lfAll (chkE 255) mt_255_1 = true := by decide +kernel
theorem ck_255 : lfAll (chkE 255) mt_255 = true := by simp only [mt_255, lfAll, ck_255_0, ck_255_1, Bool.and_self]
set_option maxRecDepth 100000 in
theorem ck_256 : lfAll (chkE 256) mt_256 = true := by decide +kernel
set_option maxRecDepth 100000 in
theorem ck_257 : lfAll (chkE 257) mt_257 = true := by decide +kernel
set_option maxRecDepth 100000 in
theorem ck_258 : lfAll (chkE 258) mt_258 = true := by decide +kernel
set_option maxRecDepth 100000 in
theorem ck_259 : lfAll (chkE 259) mt_259 = true := by decide +kernel
set_option maxRecDepth 100000 in
theorem ck_260 : lfAll (chkE 260) mt_260 = true := by decide +kernel
set_option maxRecDepth 100000 in
theorem ck_261 : lfAll (chkE 261) mt_261 = true := by decide +kernel
set_option maxRecDepth 100000 in
theorem ck_262 : lfAll (chkE 262) mt_262 = true := by decide +kernel
end
section
set_option maxRecDepth 100000 in
theorem cm_0 : ((List.range 8).all (fun i => chkM (i + 1))) = true := by decide +kernel
set_option maxRecDepth 100000 in
theorem cm_1 : ((List.range 8).all (fun i => chkM (i + 9))) = true := by decide +kernel
set_option maxRecDepth 100000 in
theorem cm_2 : ((List.range 8).all (fun i => chkM (i + 17))) = true := by decide +kernel
set_option maxRecDepth 100000 in
theorem cm_3 : ((List.range 8).all (fun i => chkM (i + 25))) = true := by decide +kernel
set_option maxRecDepth 100000 in
theorem cm_4 : ((List.range 8).all (fun i => chkM (i + 33))) = true := by decide +kernel
set_option maxRecDepth 100000 in
theorem cm_5 : ((List.range 8).all (fun i => chkM (i + 41))) = true := by decide +kernel
set_option maxRecDepth 100000 in
theorem cm_6 : ((List.range 8).all (fun i => chkM (i + 49))) = true := by decide +kernel
set_option maxRecDepth 100000 in
theorem cm_7 : ((List.range 8).all (fun i => chkM (i + 57))) = true := by decide +kernel
set_option maxRecDepth 100000 in
theorem cm_8 : ((List.range 8).all (fun i => chkM (i + 65))) = true := by decide +kernel
set_option maxRecDepth 100000 in
theorem cm_9 : ((List.range 8).all (fun i => chkM (i + 73))) = true := by decide +kernel
set_option maxRecDepth 100000 in
theorem cm_10 : ((List.range 8).all (fun i => chkM (i + 81))) = true := by decide +kernel
set_option maxRecDepth 100000 in
theorem cm_11 : ((List.range 8).all (fun i => chkM (i + 89))) = true := by decide +kernel
set_option maxRecDepth 100000 in
theorem cm_12 : ((List.range 8).all (fun i => chkM (i + 97))) = true := by decide +kernel
set_option maxRecDepth 100000 in
theorem cm_13 : ((List.range 8).all (fun i => chkM (i + 105))) = true := by decide +kernel
set_option maxRecDepth 100000 in
theorem cm_14 : ((List.range 8).all (fun i => chkM (i + 113))) = true := by decide +kernel
set_option maxRecDepth 100000 in
theorem cm_15 : ((List.range 8).all (fun i => chkM (i + 121))) = true := by decide +kernel
set_option maxRecDepth 100000 in
theorem cm_16 : ((List.range 8).all (fun i => chkM (i + 129))) = true := by decide +kernel
set_option maxRecDepth 100000 in
theorem cm_17 : ((List.range 8).all (fun i => chkM (i + 137))) = true := by decide +kernel
set_option maxRecDepth 100000 in
theorem cm_18 : ((List.range 8).all (fun i => chkM (i + 145))) = true := by decide +kernel
set_option maxRecDepth 100000 in
theorem cm_19 : ((List.range 8).all (fun i => chkM (i + 153))) = true := by decide +kernel
set_option maxRecDepth 100000 in
theorem cm_20 : ((List.range 8).all (fun i => chkM (i + 161))) = true := by decide +kernel
set_option maxRecDepth 100000 in
theorem cm_21 : ((List.range 8).all (fun i => chkM (i + 169))) = true := by decide +kernel
set_option maxRecDepth 100000 in
theorem cm_22 : ((List.range 8).all (fun i => chkM (i + 177))) = true := by decide +kernel
set_option maxRecDepth 100000 in
theorem cm_23 : ((List.range 8).all (fun i => chkM (i + 185))) = true := by decide +kernel
set_option maxRecDepth 100000 in
theorem cm_24 : ((List.range 8).all (fun i => chkM (i + 193))) = true := by decide +kernel
set_option maxRecDepth 100000 in
theorem cm_25 : ((List.range 8).all (fun i => chkM (i + 201))) = true := by decide +kernel
set_option maxRecDepth 100000 in
theorem cm_26 : ((List.range 8).all (fun i => chkM (i + 209))) = true := by decide +kernel
set_option maxRecDepth 100000 in
theorem cm_27 : ((List.range 8).all (fun i => chkM (i + 217))) = true := by decide +kernel
set_option maxRecDepth 100000 in
theorem cm_28 : ((List.range 8).all (fun i => chkM (i + 225))) = true := by decide +kernel
set_option maxRecDepth 100000 in
theorem cm_29 : ((List.range 8).all (fun i => chkM (i + 233))) = true := by decide +kernel
set_option maxRecDepth 100000 in
theorem cm_30 : ((List.range 8).all (fun i => chkM (i + 241))) = true := by decide +kernel
set_option maxRecDepth 100000 in
theorem cm_31 : ((List.range 8).all (fun i => chkM (i + 249))) = true := by decide +kernel
set_option maxRecDepth 100000 in
theorem cm_32 : ((List.range 6).all (fun i => chkM (i + 257))) = true := by decide +kernel
end
section
set_option maxRecDepth 100000 in
theorem mT_ok : lfAll (fun q => lfAll (chkE q.1) q.2) mT = true := by
  simp only [mT, lfAll, ck_0, ck_1, ck_2, ck_3, ck_4, ck_5, ck_6, ck_7, ck_8, ck_9, ck_10, ck_11, ck_12, ck_13, ck_14, ck_15, ck_16, ck_17, ck_18, ck_19, ck_20, ck_21, ck_22, ck_23, ck_24, ck_25, ck_26, ck_27, ck_28, ck_29, ck_30, ck_31, ck_32, ck_33, ck_34, ck_35, ck_36, ck_37, ck_38, ck_39, ck_40, ck_41, ck_42, ck_43, ck_44, ck_45, ck_46, ck_47, ck_48, ck_49, ck_50, ck_51, ck_52, ck_53, ck_54, ck_55, ck_56, ck_57, ck_58, ck_59, ck_60, ck_61, ck_62, ck_63, ck_64, ck_65, ck_66, ck_67, ck_68, ck_69, ck_70, ck_71, ck_72, ck_73, ck_74, ck_75, ck_76, ck_77, ck_78, ck_79, ck_80, ck_81, ck_82, ck_83, ck_84, ck_85, ck_86, ck_87, ck_88, ck_89, ck_90, ck_91, ck_92, ck_93, ck_94, ck_95, ck_96, ck_97, ck_98, ck_99, ck_100, ck_101, ck_102, ck_103, ck_104, ck_105, ck_106, ck_107, ck_108, ck_109, ck_110, ck_111, ck_112, ck_113, ck_114, ck_115, ck_116, ck_117, ck_118, ck_119, ck_120, ck_121, ck_122, ck_123, ck_124, ck_125, ck_126, ck_127, ck_128, ck_129, ck_130, ck_131, ck_132, ck_133, ck_134, ck_135, ck_136, ck_137, ck_138, ck_139, ck_140, ck_141, ck_142, ck_143, ck_144, ck_145, ck_146, ck_147, ck_148, ck_149, ck_150, ck_151, ck_152, ck_153, ck_154, ck_155, ck_156, ck_157, ck_158, ck_159, ck_160, ck_161, ck_162, ck_163, ck_164, ck_165, ck_166, ck_167, ck_168, ck_169, ck_170, ck_171, ck_172, ck_173, ck_174, ck_175, ck_176, ck_177, ck_178, ck_179, ck_180, ck_181, ck_182, ck_183, ck_184, ck_185, ck_186, ck_187, ck_188, ck_189, ck_190, ck_191, ck_192, ck_193, ck_194, ck_195, ck_196, ck_197, ck_198, ck_199, ck_200, ck_201, ck_202, ck_203, ck_204, ck_205, ck_206, ck_207, ck_208, ck_209, ck_210, ck_211, ck_212, ck_213, ck_214, ck_215, ck_216, ck_217, ck_218, ck_219, ck_220, ck_221, ck_222, ck_223, ck_224, ck_225, ck_226, ck_227, ck_228, ck_229, ck_230, ck_231, ck_232, ck_233, ck_234, ck_235, ck_236, ck_237, ck_238, ck_239, ck_240, ck_241, ck_242, ck_243, ck_244, ck_245, ck_246, ck_247, ck_248, ck_249, ck_250, ck_251, ck_252, ck_253, ck_254, ck_255, ck_256, ck_257, ck_258, ck_259, ck_260, ck_261, ck_262, Bool.and_self]
theorem prog_ok {k pc : Nat} {e : mI} (h : prog k pc = some e) : ∃ j, chkE k (pc, e, j) = true := by
  unfold prog mtOf at h
  have h1 := lfAll_get mT_ok k
  generalize mT.get k = q at h h1
  cases hk : Nat.beq k q.1 with
  | false => rw [hk] at h; cases h
  | true =>
    rw [hk] at h
    have hk := Nat.eq_of_beq_eq_true hk
    have h2 := lfAll_get h1 pc
    rw [← hk] at h2
    generalize q.2.get pc = r at h h2
    cases hp : Nat.beq pc r.1 with
    | false => rw [hp] at h; cases h
    | true =>
      rw [hp] at h
      have hp := Nat.eq_of_beq_eq_true hp
      obtain ⟨a, b, j⟩ := r
      cases h
      dsimp only at hp
      subst hp
      exact ⟨j, h2⟩
theorem meth_ok {k : Nat} (h0 : 0 < k) (h : k < 263) : chkM k = true := by
  by_cases h0 : k < 9
  · have h1 := List.all_eq_true.mp cm_0 (k - 1) (List.mem_range.mpr (by omega))
    rwa [show k - 1 + 1 = k by omega] at h1
  by_cases h1 : k < 17
  · have h1 := List.all_eq_true.mp cm_1 (k - 9) (List.mem_range.mpr (by omega))
    rwa [show k - 9 + 9 = k by omega] at h1
  by_cases h2 : k < 25
  · have h1 := List.all_eq_true.mp cm_2 (k - 17) (List.mem_range.mpr (by omega))
    rwa [show k - 17 + 17 = k by omega] at h1
  by_cases h3 : k < 33
  · have h1 := List.all_eq_true.mp cm_3 (k - 25) (List.mem_range.mpr (by omega))
    rwa [show k - 25 + 25 = k by omega] at h1
  by_cases h4 : k < 41
  · have h1 := List.all_eq_true.mp cm_4 (k - 33) (List.mem_range.mpr (by omega))
    rwa [show k - 33 + 33 = k by omega] at h1
  by_cases h5 : k < 49
  · have h1 := List.all_eq_true.mp cm_5 (k - 41) (List.mem_range.mpr (by omega))
    rwa [show k - 41 + 41 = k by omega] at h1
  by_cases h6 : k < 57
  · have h1 := List.all_eq_true.mp cm_6 (k - 49) (List.mem_range.mpr (by omega))
    rwa [show k - 49 + 49 = k by omega] at h1
  by_cases h7 : k < 65
  · have h1 := List.all_eq_true.mp cm_7 (k - 57) (List.mem_range.mpr (by omega))
    rwa [show k - 57 + 57 = k by omega] at h1
  by_cases h8 : k < 73
  · have h1 := List.all_eq_true.mp cm_8 (k - 65) (List.mem_range.mpr (by omega))
    rwa [show k - 65 + 65 = k by omega] at h1
  by_cases h9 : k < 81
  · have h1 := List.all_eq_true.mp cm_9 (k - 73) (List.mem_range.mpr (by omega))
    rwa [show k - 73 + 73 = k by omega] at h1
  by_cases h10 : k < 89
  · have h1 := List.all_eq_true.mp cm_10 (k - 81) (List.mem_range.mpr (by omega))
    rwa [show k - 81 + 81 = k by omega] at h1
  by_cases h11 : k < 97
  · have h1 := List.all_eq_true.mp cm_11 (k - 89) (List.mem_range.mpr (by omega))
    rwa [show k - 89 + 89 = k by omega] at h1
  by_cases h12 : k < 105
  · have h1 := List.all_eq_true.mp cm_12 (k - 97) (List.mem_range.mpr (by omega))
    rwa [show k - 97 + 97 = k by omega] at h1
  by_cases h13 : k < 113
  · have h1 := List.all_eq_true.mp cm_13 (k - 105) (List.mem_range.mpr (by omega))
    rwa [show k - 105 + 105 = k by omega] at h1
  by_cases h14 : k < 121
  · have h1 := List.all_eq_true.mp cm_14 (k - 113) (List.mem_range.mpr (by omega))
    rwa [show k - 113 + 113 = k by omega] at h1
  by_cases h15 : k < 129
  · have h1 := List.all_eq_true.mp cm_15 (k - 121) (List.mem_range.mpr (by omega))
    rwa [show k - 121 + 121 = k by omega] at h1
  by_cases h16 : k < 137
  · have h1 := List.all_eq_true.mp cm_16 (k - 129) (List.mem_range.mpr (by omega))
    rwa [show k - 129 + 129 = k by omega] at h1
  by_cases h17 : k < 145
  · have h1 := List.all_eq_true.mp cm_17 (k - 137) (List.mem_range.mpr (by omega))
    rwa [show k - 137 + 137 = k by omega] at h1
  by_cases h18 : k < 153
  · have h1 := List.all_eq_true.mp cm_18 (k - 145) (List.mem_range.mpr (by omega))
    rwa [show k - 145 + 145 = k by omega] at h1
  by_cases h19 : k < 161
  · have h1 := List.all_eq_true.mp cm_19 (k - 153) (List.mem_range.mpr (by omega))
    rwa [show k - 153 + 153 = k by omega] at h1
  by_cases h20 : k < 169
  · have h1 := List.all_eq_true.mp cm_20 (k - 161) (List.mem_range.mpr (by omega))
    rwa [show k - 161 + 161 = k by omega] at h1
  by_cases h21 : k < 177
  · have h1 := List.all_eq_true.mp cm_21 (k - 169) (List.mem_range.mpr (by omega))
    rwa [show k - 169 + 169 = k by omega] at h1
  by_cases h22 : k < 185
  · have h1 := List.all_eq_true.mp cm_22 (k - 177) (List.mem_range.mpr (by omega))
    rwa [show k - 177 + 177 = k by omega] at h1
  by_cases h23 : k < 193
  · have h1 := List.all_eq_true.mp cm_23 (k - 185) (List.mem_range.mpr (by omega))
    rwa [show k - 185 + 185 = k by omega] at h1
  by_cases h24 : k < 201
  · have h1 := List.all_eq_true.mp cm_24 (k - 193) (List.mem_range.mpr (by omega))
    rwa [show k - 193 + 193 = k by omega] at h1
  by_cases h25 : k < 209
  · have h1 := List.all_eq_true.mp cm_25 (k - 201) (List.mem_range.mpr (by omega))
    rwa [show k - 201 + 201 = k by omega] at h1
  by_cases h26 : k < 217
  · have h1 := List.all_eq_true.mp cm_26 (k - 209) (List.mem_range.mpr (by omega))
    rwa [show k - 209 + 209 = k by omega] at h1
  by_cases h27 : k < 225
  · have h1 := List.all_eq_true.mp cm_27 (k - 217) (List.mem_range.mpr (by omega))
    rwa [show k - 217 + 217 = k by omega] at h1
  by_cases h28 : k < 233
  · have h1 := List.all_eq_true.mp cm_28 (k - 225) (List.mem_range.mpr (by omega))
    rwa [show k - 225 + 225 = k by omega] at h1
  by_cases h29 : k < 241
  · have h1 := List.all_eq_true.mp cm_29 (k - 233) (List.mem_range.mpr (by omega))
    rwa [show k - 233 + 233 = k by omega] at h1
  by_cases h30 : k < 249
  · have h1 := List.all_eq_true.mp cm_30 (k - 241) (List.mem_range.mpr (by omega))
    rwa [show k - 241 + 241 = k by omega] at h1
  by_cases h31 : k < 257
  · have h1 := List.all_eq_true.mp cm_31 (k - 249) (List.mem_range.mpr (by omega))
    rwa [show k - 249 + 249 = k by omega] at h1
  by_cases h32 : k < 263
  · have h1 := List.all_eq_true.mp cm_32 (k - 257) (List.mem_range.mpr (by omega))
    rwa [show k - 257 + 257 = k by omega] at h1
  omega
end
section
/-! A SMALL MACHINE: the instructions that this program uses, over a heap that is a list (an address is a place in it).
 Addresses from 1000 on are things outside: 1000 the script, 1001 1002 two static arrays, 1003 .. 1006 the bytes of four texts, 1010 .. 1013 the texts, 1020 a static that nobody reads. -/
abbrev mA : Type := (Nat → Int32) ⊕ ((Nat → Int64) ⊕ List (Option Nat))
abbrev mC : Type := (Nat × Nat × mA) ⊕ (Nat × List Value)
abbrev mH : Type := List mC
/-- on, or back with a value, or a call: its method, its values, where to go on, what is left on the stack -/
abbrev mR : Type := (Nat × List Value × List Value × mH) ⊕ (Option Value ⊕ (Nat × List Value × Nat × List Value))
def pI : List Value → Option (Int32 × List Value)
  | .int x :: r => some (x, r)
  | _ => none
def pJ : List Value → Option (Int64 × List Value)
  | .long x :: r => some (x, r)
  | _ => none
def pA : List Value → Option (Nat × List Value)
  | .ref x :: r => some (x, r)
  | _ => none
def lI (L : List Value) (i : Nat) : Option Int32 := match L[i]? with
  | some (.int x) => some x
  | _ => none
def lJ (L : List Value) (i : Nat) : Option Int64 := match L[i]? with
  | some (.long x) => some x
  | _ => none
def lA (L : List Value) (i : Nat) : Option Nat := match L[i]? with
  | some (.ref x) => some x
  | _ => none
/-- a long that stands just before is lost -/
def clr (L : List Value) : Nat → List Value
  | 0 => L
  | j + 1 => match L[j]? with
    | some v => bif Nat.beq v.category 2 then L.set j .null else L
    | none => L
def st1 (L : List Value) (i : Nat) (v : Value) : List Value := (clr L i).set i v
def st2 (L : List Value) (i : Nat) (v : Value) : List Value := ((clr L i).set i v).set (i + 1) .null
def gc1 (b : Bool) (r : Option mR) : Option mR := bif b then r else none
def cnd : ClassFile.Cond → Int32 → Int32 → Bool
  | .eq, x, y => decide (x = y)
  | .ne, x, y => decide (¬ x = y)
  | .lt, x, y => decide (x < y)
  | .ge, x, y => decide (y ≤ x)
  | .gt, x, y => decide (y < x)
  | .le, x, y => decide (x ≤ y)
def inB (i : Int32) (n : Nat) : Bool := decide (0 ≤ i) && Nat.blt i.toNatClampNeg n
def sFirsts : List Int32 := [0, 1, 2, 4, 8, 19, 53]
def sForms : List Int32 := [0, 0, 0, 1, 0, 1, 3, 7, 0, 1, 3, 7, 11, 12, 13, 15, 30, 31, 63, 0, 1, 3, 7, 11, 12, 13, 15, 30, 31, 63, 75, 76, 77, 79, 86, 87, 94, 95, 116, 117, 119, 127, 222, 223, 235, 236, 237, 239, 254, 255, 507, 511, 1023]
def sTexts : List (List Int32) := [[110, 101, 116], [100, 101, 99, 107], [99, 97, 114, 100], [32, 110, 101, 116, 32, 100, 101, 99, 107, 32, 99, 97, 114, 100, 32]]
def sLens : List Nat := [3, 4, 4, 15]
/-- the arrays outside: kind (0 int, 1 byte), length, contents -/
def xArr (SL : Nat) (sx : Nat → Int32) (a : Nat) : Option (Nat × Nat × (Nat → Int32)) :=
  bif Nat.beq a 1000 then some (0, SL, sx)
  else bif Nat.beq a 1001 then some (0, 7, fun j => sFirsts.getD j 0)
  else bif Nat.beq a 1002 then some (0, 53, fun j => sForms.getD j 0)
  else bif Nat.ble 1003 a && Nat.ble a 1006 then some (1, sLens.getD (a - 1003) 0, fun j => (sTexts.getD (a - 1003) []).getD j 0)
  else none
/-- an int array (kind 0) or a byte array (kind 1) at a: its length, its contents -/
def arrI (SL : Nat) (sx : Nat → Int32) (G : mH) (t a : Nat) : Option (Nat × (Nat → Int32)) :=
  bif Nat.ble 1000 a then (match xArr SL sx a with
    | some (t', n, f) => bif Nat.beq t t' then some (n, f) else none
    | none => none)
  else (match G[a]? with
    | some (.inl (t', n, .inl f)) => bif Nat.beq t t' then some (n, f) else none
    | _ => none)
def ownI (G : mH) (t a : Nat) : Option (Nat × (Nat → Int32)) := match G[a]? with
    | some (.inl (t', n, .inl f)) => bif Nat.beq t t' then some (n, f) else none
    | _ => none
def ownJ (G : mH) (a : Nat) : Option (Nat × (Nat → Int64)) := match G[a]? with
    | some (.inl (t', n, .inr (.inl f))) => bif Nat.beq 2 t' then some (n, f) else none
    | _ => none
def ownQ (G : mH) (a : Nat) : Option (Nat × Nat × List (Option Nat)) := match G[a]? with
    | some (.inl (t', n, .inr (.inr f))) => bif (Nat.beq t' 3 || Nat.beq t' 4) && Nat.beq n f.length then some (t', n, f) else none
    | _ => none
def ownO (G : mH) (a : Nat) : Option (Nat × List Value) := match G[a]? with
    | some (.inr o) => some o
    | _ => none
def lenA (SL : Nat) (sx : Nat → Int32) (G : mH) (a : Nat) : Option Nat :=
  bif Nat.ble 1000 a then (xArr SL sx a).map (fun q => q.2.1)
  else (match G[a]? with
    | some (.inl (t', n, _)) => bif Nat.ble t' 4 then some n else none
    | _ => none)
/-- a field: class number and slot are in aux -/
def getF (G : mH) (aux a : Nat) : Option Value :=
  bif Nat.ble 5000 aux then (bif Nat.ble 1010 a && Nat.ble a 1013 then (bif Nat.beq aux 5000 then some (.ref (a - 7)) else some (.int 0)) else none)
  else (ownO G a).bind fun o => bif Nat.beq o.1 (aux / 100) then o.2[aux % 100]? else none
/-- may v be put there: its kind is the field's, a final one only in a constructor of the class -/
def putOk (k aux : Nat) (v : Value) : Bool := match fldT aux with
  | none => false
  | some (c, _, d, fin) => (match parseFieldDescriptor d with
    | none => false
    | some ty => decide (narrow ty v = v) && fits ty v) && (!fin || (Nat.beq (mKind k) 2 && decide (c = (mName k).cls)))
def wfV (n : Nat) : Value → Bool
  | .ref k => Nat.blt k n || Nat.ble 1000 k
  | _ => true
def wfC (n : Nat) : mC → Bool
  | .inl (_, _, .inr (.inr f)) => f.all fun q => match q with
    | some k => Nat.blt k n
    | none => true
  | .inl _ => true
  | .inr o => o.2.all (wfV n)
def wfA (L st : List Value) (G : mH) : Bool := L.all (wfV G.length) && st.all (wfV G.length) && G.all (wfC G.length) && Nat.blt G.length 999
def newO (ci : Nat) : Option (List Value) := (vwCl[ci]?).map fun q => (List.range q.2.2).map fun j => match parseFieldDescriptor (q.2.1 j).2.2.1 with
  | some ty => defaultValue ty
  | none => .null
def catS (st : List Value) : Nat := (st.map fun v => v.category).sum
def retOk (ret : Option FieldType) (v : Int32) : Bool := match ret with
  | some ty => fits ty (.int v) && decide (narrow ty (.int v) = .int v)
  | none => false
def wrd (v : Value) (r : List Value) : List Value := bif Nat.beq v.category 2 then v :: .null :: r else v :: r
def wrds : List Value → List Value
  | [] => []
  | v :: as => wrd v (wrds as)
def entL (n : Nat) (as : List Value) : List Value := wrds as ++ List.replicate (n - (wrds as).length) .null
def call0 (k : Nat) (e : mI) (st : List Value) : Option mR :=
  gc1 (Nat.ble (mArgs e.2.2) st.length && Nat.ble (catS (st.drop (mArgs e.2.2))) 8 && Nat.ble (wrds (st.take (mArgs e.2.2))).length (mMax e.2.2)) (some (.inr (.inr (e.2.2, (st.take (mArgs e.2.2)).reverse, e.2.1, st.drop (mArgs e.2.2)))))
/-- the receiver: an object of the method's class, or a text -/
def rcv (G : mH) (k : Nat) (v : Option Value) : Bool := match v with
  | some (.ref a) => bif Nat.beq (mCls k) 50 then Nat.ble 1010 a && Nat.ble a 1013 else (match ownO G a with
    | some o => Nat.beq o.1 (mCls k)
    | none => false)
  | _ => false
def cpyF (f g : Nat → Int32) (sp dp n : Nat) : Nat → Int32 := va_cpy f g sp dp n
def go (e : mI) (L st : List Value) (G : mH) : Option mR := some (.inl (e.2.1, L, st, G))
def dstep (SL : Nat) (sx : Nat → Int32) (dep k pc : Nat) (e : mI) (L st : List Value) (G : mH) : Option mR :=
  match e.1 with
  | .iconst n => go e L (.int (Int32.ofInt n) :: st) G
  | .bipush n => go e L (.int (Int8.ofInt n).toInt32 :: st) G
  | .sipush n => go e L (.int (Int16.ofInt n).toInt32 :: st) G
  | .lconst n => go e L (.long (Int64.ofNat (n : Nat)) :: st) G
  | .ldc _ => bif Nat.blt e.2.2 4294967296 then go e L (.int (Int32.ofNat e.2.2) :: st) G else gc1 (Nat.ble 4294967306 e.2.2 && Nat.ble e.2.2 4294967309) (go e L (.ref (e.2.2 - 4294966296) :: st) G)
  | .ldc_w _ => go e L (.int (Int32.ofNat e.2.2) :: st) G
  | .ldc2_w _ => go e L (.long (Int64.ofNat e.2.2) :: st) G
  | .iload_n i => (lI L i).bind fun x => go e L (.int x :: st) G
  | .iload i => (lI L i).bind fun x => go e L (.int x :: st) G
  | .lload_n i => (lJ L i).bind fun x => go e L (.long x :: st) G
  | .lload i => (lJ L i).bind fun x => go e L (.long x :: st) G
  | .aload_n i => (lA L i).bind fun x => gc1 (Nat.blt x 1020) (go e L (.ref x :: st) G)
  | .aload i => (lA L i).bind fun x => gc1 (Nat.blt x 1020) (go e L (.ref x :: st) G)
  | .istore_n i => (pI st).bind fun q => gc1 (Nat.blt i L.length) (go e (st1 L i (.int q.1)) q.2 G)
  | .istore i => (pI st).bind fun q => gc1 (Nat.blt i L.length) (go e (st1 L i (.int q.1)) q.2 G)
  | .lstore_n i => (pJ st).bind fun q => gc1 (Nat.blt (i + 1) L.length) (go e (st2 L i (.long q.1)) q.2 G)
  | .lstore i => (pJ st).bind fun q => gc1 (Nat.blt (i + 1) L.length) (go e (st2 L i (.long q.1)) q.2 G)
  | .astore_n i => (pA st).bind fun q => gc1 (Nat.blt i L.length && Nat.blt q.1 1020) (go e (st1 L i (.ref q.1)) q.2 G)
  | .astore i => (pA st).bind fun q => gc1 (Nat.blt i L.length && Nat.blt q.1 1020) (go e (st1 L i (.ref q.1)) q.2 G)
  | .iinc i n => (lI L i).bind fun x => go e (st1 L i (.int (x + Int32.ofInt n))) st G
  | .iadd => (pI st).bind fun q => (pI q.2).bind fun r => go e L (.int (r.1 + q.1) :: r.2) G
  | .isub => (pI st).bind fun q => (pI q.2).bind fun r => go e L (.int (r.1 - q.1) :: r.2) G
  | .imul => (pI st).bind fun q => (pI q.2).bind fun r => go e L (.int (r.1 * q.1) :: r.2) G
  | .iand => (pI st).bind fun q => (pI q.2).bind fun r => go e L (.int (r.1 &&& q.1) :: r.2) G
  | .ior => (pI st).bind fun q => (pI q.2).bind fun r => go e L (.int (r.1 ||| q.1) :: r.2) G
  | .ixor => (pI st).bind fun q => (pI q.2).bind fun r => go e L (.int (r.1 ^^^ q.1) :: r.2) G
  | .ishl => (pI st).bind fun q => (pI q.2).bind fun r => go e L (.int (r.1 <<< (q.1 &&& 31)) :: r.2) G
  | .ishr => (pI st).bind fun q => (pI q.2).bind fun r => go e L (.int (r.1 >>> (q.1 &&& 31)) :: r.2) G
  | .iushr => (pI st).bind fun q => (pI q.2).bind fun r => go e L (.int (r.1.toUInt32 >>> (q.1.toUInt32 &&& Int32.toUInt32 31)).toInt32 :: r.2) G
  | .idiv => (pI st).bind fun q => (pI q.2).bind fun r => gc1 (decide (¬ q.1 = 0)) (go e L (.int (r.1 / q.1) :: r.2) G)
  | .irem => (pI st).bind fun q => (pI q.2).bind fun r => gc1 (decide (¬ q.1 = 0)) (go e L (.int (r.1 - r.1 / q.1 * q.1) :: r.2) G)
  | .ineg => (pI st).bind fun q => go e L (.int (-q.1) :: q.2) G
  | .ladd => (pJ st).bind fun q => (pJ q.2).bind fun r => go e L (.long (r.1 + q.1) :: r.2) G
  | .lsub => (pJ st).bind fun q => (pJ q.2).bind fun r => go e L (.long (r.1 - q.1) :: r.2) G
  | .lmul => (pJ st).bind fun q => (pJ q.2).bind fun r => go e L (.long (r.1 * q.1) :: r.2) G
  | .ldiv => (pJ st).bind fun q => (pJ q.2).bind fun r => gc1 (decide (¬ q.1 = 0)) (go e L (.long (r.1 / q.1) :: r.2) G)
  | .lrem => (pJ st).bind fun q => (pJ q.2).bind fun r => gc1 (decide (¬ q.1 = 0)) (go e L (.long (r.1 - r.1 / q.1 * q.1) :: r.2) G)
  | .lneg => (pJ st).bind fun q => go e L (.long (-q.1) :: q.2) G
  | .lcmp => (pJ st).bind fun q => (pJ q.2).bind fun r => go e L (.int (lg_cmp r.1 q.1) :: r.2) G
  | .i2l => (pI st).bind fun q => go e L (.long q.1.toInt64 :: q.2) G
  | .l2i => (pJ st).bind fun q => go e L (.int q.1.toInt32 :: q.2) G
  | .i2b => (pI st).bind fun q => go e L (.int q.1.toInt8.toInt32 :: q.2) G
  | .i2c => (pI st).bind fun q => go e L (.int (q.1.toUInt32 % 65536).toInt32 :: q.2) G
  | .dup => (match st with
    | v :: r => gc1 (Nat.beq v.category 1) (go e L (v :: v :: r) G)
    | _ => none)
  | .dup2 => (match st with
    | v :: w :: r => gc1 (Nat.beq v.category 1 && Nat.beq w.category 1) (go e L (v :: w :: v :: w :: r) G)
    | _ => none)
  | .pop => (match st with
    | v :: r => gc1 (Nat.beq v.category 1) (go e L r G)
    | _ => none)
  | .ifCond c _ => (pI st).bind fun q => some (.inl (bif cnd c q.1 0 then e.2.2 else e.2.1, L, q.2, G))
  | .if_icmp c _ => (pI st).bind fun q => (pI q.2).bind fun r => some (.inl (bif cnd c r.1 q.1 then e.2.2 else e.2.1, L, r.2, G))
  | .goto _ => some (.inl (e.2.2, L, st, G))
  | .tableswitch d lo hi offs => (pI st).bind fun q => some (.inl (bif decide (q.1.toInt < lo) || decide (hi < q.1.toInt) then ((pc : Int) + d).toNat else ((pc : Int) + offs.getD (q.1.toInt - lo).toNat 0).toNat, L, q.2, G))
  | .getfield _ => (pA st).bind fun q => (getF G e.2.2 q.1).bind fun v => go e L (v :: q.2) G
  | .putfield _ => (match st with
    | v :: .ref a :: r => (ownO G a).bind fun o => gc1 (Nat.beq o.1 (e.2.2 / 100) && Nat.blt (e.2.2 % 100) o.2.length && putOk k e.2.2 v && Nat.blt e.2.2 5000) (go e L r (G.set a (.inr (o.1, o.2.set (e.2.2 % 100) v))))
    | _ => none)
  | .getstatic _ => (match e.2.2 with
    | 0 => go e L (.ref 1001 :: st) G
    | 1 => go e L (.ref 1002 :: st) G
    | 2 => go e L (.int 1 :: st) G
    | 3 => go e L (.ref 1020 :: st) G
    | _ => none)
  | .iaload => (pI st).bind fun q => (pA q.2).bind fun r => (arrI SL sx G 0 r.1).bind fun a => gc1 (inB q.1 a.1) (go e L (.int (a.2 q.1.toNatClampNeg) :: r.2) G)
  | .baload => (pI st).bind fun q => (pA q.2).bind fun r => (arrI SL sx G 1 r.1).bind fun a => gc1 (inB q.1 a.1) (go e L (.int (a.2 q.1.toNatClampNeg) :: r.2) G)
  | .laload => (pI st).bind fun q => (pA q.2).bind fun r => (ownJ G r.1).bind fun a => gc1 (inB q.1 a.1) (go e L (.long (a.2 q.1.toNatClampNeg) :: r.2) G)
  | .aaload => (pI st).bind fun q => (pA q.2).bind fun r => (ownQ G r.1).bind fun a => gc1 (inB q.1 a.2.1) (match a.2.2.getD q.1.toNatClampNeg none with
    | some x => gc1 (Nat.blt x 1000) (go e L (.ref x :: r.2) G)
    | none => none)
  | .iastore => (pI st).bind fun x => (pI x.2).bind fun q => (pA q.2).bind fun r => (ownI G 0 r.1).bind fun a => gc1 (inB q.1 a.1) (go e L r.2 (G.set r.1 (.inl (0, a.1, .inl (upd a.2 q.1.toNatClampNeg x.1)))))
  | .bastore => (pI st).bind fun x => (pI x.2).bind fun q => (pA q.2).bind fun r => (ownI G 1 r.1).bind fun a => gc1 (inB q.1 a.1) (go e L r.2 (G.set r.1 (.inl (1, a.1, .inl (upd a.2 q.1.toNatClampNeg (vp_nar .byte x.1))))))
  | .lastore => (pJ st).bind fun x => (pI x.2).bind fun q => (pA q.2).bind fun r => (ownJ G r.1).bind fun a => gc1 (inB q.1 a.1) (go e L r.2 (G.set r.1 (.inl (2, a.1, .inr (.inl (vp_updL a.2 q.1.toNatClampNeg x.1))))))
  | .aastore => (pA st).bind fun x => (pI x.2).bind fun q => (pA q.2).bind fun r => (ownQ G r.1).bind fun a => (ownO G x.1).bind fun o => gc1 (inB q.1 a.2.1 && Nat.blt x.1 1000 && Nat.beq o.1 (bif Nat.beq a.1 3 then 6 else 1)) (go e L r.2 (G.set r.1 (.inl (a.1, a.2.1, .inr (.inr (a.2.2.set q.1.toNatClampNeg (some x.1)))))))
  | .arraylength => (pA st).bind fun q => (lenA SL sx G q.1).bind fun n => go e L (.int (Int32.ofNat n) :: q.2) G
  | .new _ => gc1 (wfA L st G) ((newO e.2.2).bind fun fs => go e L (.ref G.length :: st) (G ++ [.inr (e.2.2, fs)]))
  | .newarray _ => (pI st).bind fun q => gc1 (wfA L q.2 G && decide (¬ q.1 < 0) && Nat.ble q.1.toNatClampNeg 60000) (match e.2.2 with
    | 0 => go e L (.ref G.length :: q.2) (G ++ [.inl (0, q.1.toNatClampNeg, .inl (fun _ => 0))])
    | 1 => go e L (.ref G.length :: q.2) (G ++ [.inl (1, q.1.toNatClampNeg, .inl (fun _ => 0))])
    | 2 => go e L (.ref G.length :: q.2) (G ++ [.inl (2, q.1.toNatClampNeg, .inr (.inl (fun _ => 0)))])
    | _ => none)
  | .anewarray _ => (pI st).bind fun q => gc1 (wfA L q.2 G && decide (¬ q.1 < 0) && Nat.ble q.1.toNatClampNeg 60000 && (Nat.beq e.2.2 3 || Nat.beq e.2.2 4)) (go e L (.ref G.length :: q.2) (G ++ [.inl (e.2.2, q.1.toNatClampNeg, .inr (.inr (List.replicate q.1.toNatClampNeg none)))]))
  | .invokevirtual _ => gc1 (Nat.beq (mKind e.2.2) 1 && rcv G e.2.2 st[mArgs e.2.2 - 1]?) (call0 k e st)
  | .invokestatic _ => bif Nat.beq e.2.2 901 then (match st with
      | .int n :: .int dp :: .ref b :: .int sp :: .ref a :: r => (ownI G 0 a).bind fun x => (ownI G 0 b).bind fun y => gc1 (decide (¬ sp < 0) && decide (¬ dp < 0) && decide (¬ n < 0) && Nat.ble (sp.toNatClampNeg + n.toNatClampNeg) x.1 && Nat.ble (dp.toNatClampNeg + n.toNatClampNeg) y.1 && Nat.blt 0 dep && Nat.ble (catS r) 8) (go e L r (G.set b (.inl (0, y.1, .inl (cpyF x.2 y.2 sp.toNatClampNeg dp.toNatClampNeg n.toNatClampNeg)))))
      | _ => none)
    else bif Nat.beq e.2.2 902 then (pI st).bind fun q => (pI q.2).bind fun r => gc1 (Nat.blt 0 dep && Nat.ble (catS r.2) 8) (go e L (.int (if r.1 < q.1 then q.1 else r.1) :: r.2) G)
    else bif Nat.beq e.2.2 903 then (pI st).bind fun q => (pI q.2).bind fun r => gc1 (Nat.blt 0 dep && Nat.ble (catS r.2) 8) (go e L (.int (if q.1 < r.1 then q.1 else r.1) :: r.2) G)
    else gc1 (Nat.beq (mKind e.2.2) 0) (call0 k e st)
  | .invokespecial _ => bif Nat.beq e.2.2 900 then (match st with
      | .ref a :: r => gc1 (Nat.blt a 1000 && Nat.blt 0 dep && Nat.ble (catS r) 8) (go e L r G)
      | _ => none)
    else gc1 (Nat.beq (mKind e.2.2) 2 && (match st[mArgs e.2.2 - 1]? with
      | some (.ref a) => Nat.blt a 1000
      | _ => false)) (call0 k e st)
  | .ireturn => (match st with
    | [.int v] => gc1 (retOk (mRet k) v) (some (.inr (.inl (some (.int v)))))
    | _ => none)
  | .areturn => (match st with
    | [.ref a] => gc1 (Nat.blt a 1000 && (match mRet k with
      | some (.object _) => true
      | _ => false)) (some (.inr (.inl (some (.ref a)))))
    | _ => none)
  | .return_ => (match st with
    | [] => gc1 (decide (mRet k = none)) (some (.inr (.inl none)))
    | _ => none)
  | _ => none
/-- may a frame go on with its old values: nothing was made meanwhile, or all of them are known addresses -/
def wfB (n n' : Nat) (L st : List Value) (G : mH) : Bool := Nat.beq n n' || (L.all (wfV n) && st.all (wfV n))
/-- runs a frame to its end; dep: how many calls may stand open above it -/
def dexec (SL : Nat) (sx : Nat → Int32) : Nat → Nat → Nat → Nat → List Value → List Value → mH → Option (Option Value × mH)
  | 0, _, _, _, _, _, _ => none
  | n + 1, dep, k, pc, L, st, G => match prog k pc with
    | none => none
    | some e => match dstep SL sx dep k pc e L st G with
      | none => none
      | some (.inl (pc', L', st', G')) => dexec SL sx n dep k pc' L' st' G'
      | some (.inr (.inl r)) => some (r, G)
      | some (.inr (.inr (k', as, pc', rest))) => match dep with
        | 0 => none
        | d + 1 => match dexec SL sx n d k' 0 (entL (mMax k') as) [] G with
          | none => none
          | some (r, G') => bif wfB G.length G'.length L rest G then dexec SL sx n (d + 1) k pc' L (r.toList ++ rest) G' else none
end
section
section DQ
variable (SL : Nat) (sx : Nat → Int32) (dep k pc nx aux : Nat) (L st : List Value) (G : mH)
theorem dq_iconst (n : Int) : dstep SL sx dep k pc (.iconst n, nx, aux) L st G = (go ((.iconst n, nx, aux) : mI) L (.int (Int32.ofInt n) :: st) G) := rfl
theorem dq_bipush (n : Int) : dstep SL sx dep k pc (.bipush n, nx, aux) L st G = (go ((.bipush n, nx, aux) : mI) L (.int (Int8.ofInt n).toInt32 :: st) G) := rfl
theorem dq_sipush (n : Int) : dstep SL sx dep k pc (.sipush n, nx, aux) L st G = (go ((.sipush n, nx, aux) : mI) L (.int (Int16.ofInt n).toInt32 :: st) G) := rfl
theorem dq_lconst (n : Fin 2) : dstep SL sx dep k pc (.lconst n, nx, aux) L st G = (go ((.lconst n, nx, aux) : mI) L (.long (Int64.ofNat (n : Nat)) :: st) G) := rfl
theorem dq_ldc (i0 : Nat) : dstep SL sx dep k pc (.ldc i0, nx, aux) L st G = (bif Nat.blt aux 4294967296 then go ((.ldc i0, nx, aux) : mI) L (.int (Int32.ofNat aux) :: st) G else gc1 (Nat.ble 4294967306 aux && Nat.ble aux 4294967309) (go ((.ldc i0, nx, aux) : mI) L (.ref (aux - 4294966296) :: st) G)) := rfl
theorem dq_ldc_w (i0 : Nat) : dstep SL sx dep k pc (.ldc_w i0, nx, aux) L st G = (go ((.ldc_w i0, nx, aux) : mI) L (.int (Int32.ofNat aux) :: st) G) := rfl
theorem dq_ldc2_w (i0 : Nat) : dstep SL sx dep k pc (.ldc2_w i0, nx, aux) L st G = (go ((.ldc2_w i0, nx, aux) : mI) L (.long (Int64.ofNat aux) :: st) G) := rfl
theorem dq_iload_n (i : Fin 4) : dstep SL sx dep k pc (.iload_n i, nx, aux) L st G = ((lI L i).bind fun x => go ((.iload_n i, nx, aux) : mI) L (.int x :: st) G) := rfl
theorem dq_iload (i : Nat) : dstep SL sx dep k pc (.iload i, nx, aux) L st G = ((lI L i).bind fun x => go ((.iload i, nx, aux) : mI) L (.int x :: st) G) := rfl
theorem dq_lload_n (i : Fin 4) : dstep SL sx dep k pc (.lload_n i, nx, aux) L st G = ((lJ L i).bind fun x => go ((.lload_n i, nx, aux) : mI) L (.long x :: st) G) := rfl
theorem dq_lload (i : Nat) : dstep SL sx dep k pc (.lload i, nx, aux) L st G = ((lJ L i).bind fun x => go ((.lload i, nx, aux) : mI) L (.long x :: st) G) := rfl
theorem dq_aload_n (i : Fin 4) : dstep SL sx dep k pc (.aload_n i, nx, aux) L st G = ((lA L i).bind fun x => gc1 (Nat.blt x 1020) (go ((.aload_n i, nx, aux) : mI) L (.ref x :: st) G)) := rfl
theorem dq_aload (i : Nat) : dstep SL sx dep k pc (.aload i, nx, aux) L st G = ((lA L i).bind fun x => gc1 (Nat.blt x 1020) (go ((.aload i, nx, aux) : mI) L (.ref x :: st) G)) := rfl
theorem dq_istore_n (i : Fin 4) : dstep SL sx dep k pc (.istore_n i, nx, aux) L st G = ((pI st).bind fun q => gc1 (Nat.blt i L.length) (go ((.istore_n i, nx, aux) : mI) (st1 L i (.int q.1)) q.2 G)) := rfl
theorem dq_istore (i : Nat) : dstep SL sx dep k pc (.istore i, nx, aux) L st G = ((pI st).bind fun q => gc1 (Nat.blt i L.length) (go ((.istore i, nx, aux) : mI) (st1 L i (.int q.1)) q.2 G)) := rfl
theorem dq_lstore_n (i : Fin 4) : dstep SL sx dep k pc (.lstore_n i, nx, aux) L st G = ((pJ st).bind fun q => gc1 (Nat.blt (i + 1) L.length) (go ((.lstore_n i, nx, aux) : mI) (st2 L i (.long q.1)) q.2 G)) := rfl
theorem dq_lstore (i : Nat) : dstep SL sx dep k pc (.lstore i, nx, aux) L st G = ((pJ st).bind fun q => gc1 (Nat.blt (i + 1) L.length) (go ((.lstore i, nx, aux) : mI) (st2 L i (.long q.1)) q.2 G)) := rfl
theorem dq_astore_n (i : Fin 4) : dstep SL sx dep k pc (.astore_n i, nx, aux) L st G = ((pA st).bind fun q => gc1 (Nat.blt i L.length && Nat.blt q.1 1020) (go ((.astore_n i, nx, aux) : mI) (st1 L i (.ref q.1)) q.2 G)) := rfl
theorem dq_astore (i : Nat) : dstep SL sx dep k pc (.astore i, nx, aux) L st G = ((pA st).bind fun q => gc1 (Nat.blt i L.length && Nat.blt q.1 1020) (go ((.astore i, nx, aux) : mI) (st1 L i (.ref q.1)) q.2 G)) := rfl
theorem dq_iinc (i : Nat) (n : Int) : dstep SL sx dep k pc (.iinc i n, nx, aux) L st G = ((lI L i).bind fun x => go ((.iinc i n, nx, aux) : mI) (st1 L i (.int (x + Int32.ofInt n))) st G) := rfl
theorem dq_iadd : dstep SL sx dep k pc (.iadd, nx, aux) L st G = ((pI st).bind fun q => (pI q.2).bind fun r => go ((.iadd, nx, aux) : mI) L (.int (r.1 + q.1) :: r.2) G) := rfl
theorem dq_isub : dstep SL sx dep k pc (.isub, nx, aux) L st G = ((pI st).bind fun q => (pI q.2).bind fun r => go ((.isub, nx, aux) : mI) L (.int (r.1 - q.1) :: r.2) G) := rfl
theorem dq_imul : dstep SL sx dep k pc (.imul, nx, aux) L st G = ((pI st).bind fun q => (pI q.2).bind fun r => go ((.imul, nx, aux) : mI) L (.int (r.1 * q.1) :: r.2) G) := rfl
theorem dq_iand : dstep SL sx dep k pc (.iand, nx, aux) L st G = ((pI st).bind fun q => (pI q.2).bind fun r => go ((.iand, nx, aux) : mI) L (.int (r.1 &&& q.1) :: r.2) G) := rfl
theorem dq_ior : dstep SL sx dep k pc (.ior, nx, aux) L st G = ((pI st).bind fun q => (pI q.2).bind fun r => go ((.ior, nx, aux) : mI) L (.int (r.1 ||| q.1) :: r.2) G) := rfl
theorem dq_ixor : dstep SL sx dep k pc (.ixor, nx, aux) L st G = ((pI st).bind fun q => (pI q.2).bind fun r => go ((.ixor, nx, aux) : mI) L (.int (r.1 ^^^ q.1) :: r.2) G) := rfl
theorem dq_ishl : dstep SL sx dep k pc (.ishl, nx, aux) L st G = ((pI st).bind fun q => (pI q.2).bind fun r => go ((.ishl, nx, aux) : mI) L (.int (r.1 <<< (q.1 &&& 31)) :: r.2) G) := rfl
theorem dq_ishr : dstep SL sx dep k pc (.ishr, nx, aux) L st G = ((pI st).bind fun q => (pI q.2).bind fun r => go ((.ishr, nx, aux) : mI) L (.int (r.1 >>> (q.1 &&& 31)) :: r.2) G) := rfl
theorem dq_iushr : dstep SL sx dep k pc (.iushr, nx, aux) L st G = ((pI st).bind fun q => (pI q.2).bind fun r => go ((.iushr, nx, aux) : mI) L (.int (r.1.toUInt32 >>> (q.1.toUInt32 &&& Int32.toUInt32 31)).toInt32 :: r.2) G) := rfl
theorem dq_idiv : dstep SL sx dep k pc (.idiv, nx, aux) L st G = ((pI st).bind fun q => (pI q.2).bind fun r => gc1 (decide (¬ q.1 = 0)) (go ((.idiv, nx, aux) : mI) L (.int (r.1 / q.1) :: r.2) G)) := rfl
theorem dq_irem : dstep SL sx dep k pc (.irem, nx, aux) L st G = ((pI st).bind fun q => (pI q.2).bind fun r => gc1 (decide (¬ q.1 = 0)) (go ((.irem, nx, aux) : mI) L (.int (r.1 - r.1 / q.1 * q.1) :: r.2) G)) := rfl
theorem dq_ineg : dstep SL sx dep k pc (.ineg, nx, aux) L st G = ((pI st).bind fun q => go ((.ineg, nx, aux) : mI) L (.int (-q.1) :: q.2) G) := rfl
theorem dq_ladd : dstep SL sx dep k pc (.ladd, nx, aux) L st G = ((pJ st).bind fun q => (pJ q.2).bind fun r => go ((.ladd, nx, aux) : mI) L (.long (r.1 + q.1) :: r.2) G) := rfl
theorem dq_lsub : dstep SL sx dep k pc (.lsub, nx, aux) L st G = ((pJ st).bind fun q => (pJ q.2).bind fun r => go ((.lsub, nx, aux) : mI) L (.long (r.1 - q.1) :: r.2) G) := rfl
theorem dq_lmul : dstep SL sx dep k pc (.lmul, nx, aux) L st G = ((pJ st).bind fun q => (pJ q.2).bind fun r => go ((.lmul, nx, aux) : mI) L (.long (r.1 * q.1) :: r.2) G) := rfl
theorem dq_ldiv : dstep SL sx dep k pc (.ldiv, nx, aux) L st G = ((pJ st).bind fun q => (pJ q.2).bind fun r => gc1 (decide (¬ q.1 = 0)) (go ((.ldiv, nx, aux) : mI) L (.long (r.1 / q.1) :: r.2) G)) := rfl
theorem dq_lrem : dstep SL sx dep k pc (.lrem, nx, aux) L st G = ((pJ st).bind fun q => (pJ q.2).bind fun r => gc1 (decide (¬ q.1 = 0)) (go ((.lrem, nx, aux) : mI) L (.long (r.1 - r.1 / q.1 * q.1) :: r.2) G)) := rfl
theorem dq_lneg : dstep SL sx dep k pc (.lneg, nx, aux) L st G = ((pJ st).bind fun q => go ((.lneg, nx, aux) : mI) L (.long (-q.1) :: q.2) G) := rfl
theorem dq_lcmp : dstep SL sx dep k pc (.lcmp, nx, aux) L st G = ((pJ st).bind fun q => (pJ q.2).bind fun r => go ((.lcmp, nx, aux) : mI) L (.int (lg_cmp r.1 q.1) :: r.2) G) := rfl
theorem dq_i2l : dstep SL sx dep k pc (.i2l, nx, aux) L st G = ((pI st).bind fun q => go ((.i2l, nx, aux) : mI) L (.long q.1.toInt64 :: q.2) G) := rfl
theorem dq_l2i : dstep SL sx dep k pc (.l2i, nx, aux) L st G = ((pJ st).bind fun q => go ((.l2i, nx, aux) : mI) L (.int q.1.toInt32 :: q.2) G) := rfl
theorem dq_i2b : dstep SL sx dep k pc (.i2b, nx, aux) L st G = ((pI st).bind fun q => go ((.i2b, nx, aux) : mI) L (.int q.1.toInt8.toInt32 :: q.2) G) := rfl
theorem dq_i2c : dstep SL sx dep k pc (.i2c, nx, aux) L st G = ((pI st).bind fun q => go ((.i2c, nx, aux) : mI) L (.int (q.1.toUInt32 % 65536).toInt32 :: q.2) G) := rfl
theorem dq_dup : dstep SL sx dep k pc (.dup, nx, aux) L st G = ((match st with
    | v :: r => gc1 (Nat.beq v.category 1) (go ((.dup, nx, aux) : mI) L (v :: v :: r) G)
    | _ => none)) := rfl
theorem dq_dup2 : dstep SL sx dep k pc (.dup2, nx, aux) L st G = ((match st with
    | v :: w :: r => gc1 (Nat.beq v.category 1 && Nat.beq w.category 1) (go ((.dup2, nx, aux) : mI) L (v :: w :: v :: w :: r) G)
    | _ => none)) := rfl
theorem dq_pop : dstep SL sx dep k pc (.pop, nx, aux) L st G = ((match st with
    | v :: r => gc1 (Nat.beq v.category 1) (go ((.pop, nx, aux) : mI) L r G)
    | _ => none)) := rfl
theorem dq_ifCond (c : ClassFile.Cond) (o0 : Int) : dstep SL sx dep k pc (.ifCond c o0, nx, aux) L st G = ((pI st).bind fun q => some (.inl (bif cnd c q.1 0 then aux else nx, L, q.2, G))) := rfl
theorem dq_if_icmp (c : ClassFile.Cond) (o0 : Int) : dstep SL sx dep k pc (.if_icmp c o0, nx, aux) L st G = ((pI st).bind fun q => (pI q.2).bind fun r => some (.inl (bif cnd c r.1 q.1 then aux else nx, L, r.2, G))) := rfl
theorem dq_goto (o0 : Int) : dstep SL sx dep k pc (.goto o0, nx, aux) L st G = (some (.inl (aux, L, st, G))) := rfl
theorem dq_tableswitch (d : Int) (lo : Int) (hi : Int) (offs : Array Int) : dstep SL sx dep k pc (.tableswitch d lo hi offs, nx, aux) L st G = ((pI st).bind fun q => some (.inl (bif decide (q.1.toInt < lo) || decide (hi < q.1.toInt) then ((pc : Int) + d).toNat else ((pc : Int) + offs.getD (q.1.toInt - lo).toNat 0).toNat, L, q.2, G))) := rfl
theorem dq_getfield (i0 : Nat) : dstep SL sx dep k pc (.getfield i0, nx, aux) L st G = ((pA st).bind fun q => (getF G aux q.1).bind fun v => go ((.getfield i0, nx, aux) : mI) L (v :: q.2) G) := rfl
theorem dq_putfield (i0 : Nat) : dstep SL sx dep k pc (.putfield i0, nx, aux) L st G = ((match st with
    | v :: .ref a :: r => (ownO G a).bind fun o => gc1 (Nat.beq o.1 (aux / 100) && Nat.blt (aux % 100) o.2.length && putOk k aux v && Nat.blt aux 5000) (go ((.putfield i0, nx, aux) : mI) L r (G.set a (.inr (o.1, o.2.set (aux % 100) v))))
    | _ => none)) := rfl
theorem dq_getstatic (i0 : Nat) : dstep SL sx dep k pc (.getstatic i0, nx, aux) L st G = ((match aux with
    | 0 => go ((.getstatic i0, nx, aux) : mI) L (.ref 1001 :: st) G
    | 1 => go ((.getstatic i0, nx, aux) : mI) L (.ref 1002 :: st) G
    | 2 => go ((.getstatic i0, nx, aux) : mI) L (.int 1 :: st) G
    | 3 => go ((.getstatic i0, nx, aux) : mI) L (.ref 1020 :: st) G
    | _ => none)) := rfl
theorem dq_iaload : dstep SL sx dep k pc (.iaload, nx, aux) L st G = ((pI st).bind fun q => (pA q.2).bind fun r => (arrI SL sx G 0 r.1).bind fun a => gc1 (inB q.1 a.1) (go ((.iaload, nx, aux) : mI) L (.int (a.2 q.1.toNatClampNeg) :: r.2) G)) := rfl
theorem dq_baload : dstep SL sx dep k pc (.baload, nx, aux) L st G = ((pI st).bind fun q => (pA q.2).bind fun r => (arrI SL sx G 1 r.1).bind fun a => gc1 (inB q.1 a.1) (go ((.baload, nx, aux) : mI) L (.int (a.2 q.1.toNatClampNeg) :: r.2) G)) := rfl
theorem dq_laload : dstep SL sx dep k pc (.laload, nx, aux) L st G = ((pI st).bind fun q => (pA q.2).bind fun r => (ownJ G r.1).bind fun a => gc1 (inB q.1 a.1) (go ((.laload, nx, aux) : mI) L (.long (a.2 q.1.toNatClampNeg) :: r.2) G)) := rfl
theorem dq_aaload : dstep SL sx dep k pc (.aaload, nx, aux) L st G = ((pI st).bind fun q => (pA q.2).bind fun r => (ownQ G r.1).bind fun a => gc1 (inB q.1 a.2.1) (match a.2.2.getD q.1.toNatClampNeg none with
    | some x => gc1 (Nat.blt x 1000) (go ((.aaload, nx, aux) : mI) L (.ref x :: r.2) G)
    | none => none)) := rfl
theorem dq_iastore : dstep SL sx dep k pc (.iastore, nx, aux) L st G = ((pI st).bind fun x => (pI x.2).bind fun q => (pA q.2).bind fun r => (ownI G 0 r.1).bind fun a => gc1 (inB q.1 a.1) (go ((.iastore, nx, aux) : mI) L r.2 (G.set r.1 (.inl (0, a.1, .inl (upd a.2 q.1.toNatClampNeg x.1)))))) := rfl
theorem dq_bastore : dstep SL sx dep k pc (.bastore, nx, aux) L st G = ((pI st).bind fun x => (pI x.2).bind fun q => (pA q.2).bind fun r => (ownI G 1 r.1).bind fun a => gc1 (inB q.1 a.1) (go ((.bastore, nx, aux) : mI) L r.2 (G.set r.1 (.inl (1, a.1, .inl (upd a.2 q.1.toNatClampNeg (vp_nar .byte x.1))))))) := rfl
theorem dq_lastore : dstep SL sx dep k pc (.lastore, nx, aux) L st G = ((pJ st).bind fun x => (pI x.2).bind fun q => (pA q.2).bind fun r => (ownJ G r.1).bind fun a => gc1 (inB q.1 a.1) (go ((.lastore, nx, aux) : mI) L r.2 (G.set r.1 (.inl (2, a.1, .inr (.inl (vp_updL a.2 q.1.toNatClampNeg x.1))))))) := rfl
theorem dq_aastore : dstep SL sx dep k pc (.aastore, nx, aux) L st G = ((pA st).bind fun x => (pI x.2).bind fun q => (pA q.2).bind fun r => (ownQ G r.1).bind fun a => (ownO G x.1).bind fun o => gc1 (inB q.1 a.2.1 && Nat.blt x.1 1000 && Nat.beq o.1 (bif Nat.beq a.1 3 then 6 else 1)) (go ((.aastore, nx, aux) : mI) L r.2 (G.set r.1 (.inl (a.1, a.2.1, .inr (.inr (a.2.2.set q.1.toNatClampNeg (some x.1)))))))) := rfl
theorem dq_arraylength : dstep SL sx dep k pc (.arraylength, nx, aux) L st G = ((pA st).bind fun q => (lenA SL sx G q.1).bind fun n => go ((.arraylength, nx, aux) : mI) L (.int (Int32.ofNat n) :: q.2) G) := rfl
theorem dq_new (i0 : Nat) : dstep SL sx dep k pc (.new i0, nx, aux) L st G = (gc1 (wfA L st G) ((newO aux).bind fun fs => go ((.new i0, nx, aux) : mI) L (.ref G.length :: st) (G ++ [.inr (aux, fs)]))) := rfl
theorem dq_newarray (i0 : ArrayType) : dstep SL sx dep k pc (.newarray i0, nx, aux) L st G = ((pI st).bind fun q => gc1 (wfA L q.2 G && decide (¬ q.1 < 0) && Nat.ble q.1.toNatClampNeg 60000) (match aux with
    | 0 => go ((.newarray i0, nx, aux) : mI) L (.ref G.length :: q.2) (G ++ [.inl (0, q.1.toNatClampNeg, .inl (fun _ => 0))])
    | 1 => go ((.newarray i0, nx, aux) : mI) L (.ref G.length :: q.2) (G ++ [.inl (1, q.1.toNatClampNeg, .inl (fun _ => 0))])
    | 2 => go ((.newarray i0, nx, aux) : mI) L (.ref G.length :: q.2) (G ++ [.inl (2, q.1.toNatClampNeg, .inr (.inl (fun _ => 0)))])
    | _ => none)) := rfl
theorem dq_anewarray (i0 : Nat) : dstep SL sx dep k pc (.anewarray i0, nx, aux) L st G = ((pI st).bind fun q => gc1 (wfA L q.2 G && decide (¬ q.1 < 0) && Nat.ble q.1.toNatClampNeg 60000 && (Nat.beq aux 3 || Nat.beq aux 4)) (go ((.anewarray i0, nx, aux) : mI) L (.ref G.length :: q.2) (G ++ [.inl (aux, q.1.toNatClampNeg, .inr (.inr (List.replicate q.1.toNatClampNeg none)))]))) := rfl
theorem dq_invokevirtual (i0 : Nat) : dstep SL sx dep k pc (.invokevirtual i0, nx, aux) L st G = (gc1 (Nat.beq (mKind aux) 1 && rcv G aux st[mArgs aux - 1]?) (call0 k ((.invokevirtual i0, nx, aux) : mI) st)) := rfl
theorem dq_invokestatic (i0 : Nat) : dstep SL sx dep k pc (.invokestatic i0, nx, aux) L st G = (bif Nat.beq aux 901 then (match st with
      | .int n :: .int dp :: .ref b :: .int sp :: .ref a :: r => (ownI G 0 a).bind fun x => (ownI G 0 b).bind fun y => gc1 (decide (¬ sp < 0) && decide (¬ dp < 0) && decide (¬ n < 0) && Nat.ble (sp.toNatClampNeg + n.toNatClampNeg) x.1 && Nat.ble (dp.toNatClampNeg + n.toNatClampNeg) y.1 && Nat.blt 0 dep && Nat.ble (catS r) 8) (go ((.invokestatic i0, nx, aux) : mI) L r (G.set b (.inl (0, y.1, .inl (cpyF x.2 y.2 sp.toNatClampNeg dp.toNatClampNeg n.toNatClampNeg)))))
      | _ => none)
    else bif Nat.beq aux 902 then (pI st).bind fun q => (pI q.2).bind fun r => gc1 (Nat.blt 0 dep && Nat.ble (catS r.2) 8) (go ((.invokestatic i0, nx, aux) : mI) L (.int (if r.1 < q.1 then q.1 else r.1) :: r.2) G)
    else bif Nat.beq aux 903 then (pI st).bind fun q => (pI q.2).bind fun r => gc1 (Nat.blt 0 dep && Nat.ble (catS r.2) 8) (go ((.invokestatic i0, nx, aux) : mI) L (.int (if q.1 < r.1 then q.1 else r.1) :: r.2) G)
    else gc1 (Nat.beq (mKind aux) 0) (call0 k ((.invokestatic i0, nx, aux) : mI) st)) := rfl
theorem dq_invokespecial (i0 : Nat) : dstep SL sx dep k pc (.invokespecial i0, nx, aux) L st G = (bif Nat.beq aux 900 then (match st with
      | .ref a :: r => gc1 (Nat.blt a 1000 && Nat.blt 0 dep && Nat.ble (catS r) 8) (go ((.invokespecial i0, nx, aux) : mI) L r G)
      | _ => none)
    else gc1 (Nat.beq (mKind aux) 2 && (match st[mArgs aux - 1]? with
      | some (.ref a) => Nat.blt a 1000
      | _ => false)) (call0 k ((.invokespecial i0, nx, aux) : mI) st)) := rfl
theorem dq_ireturn : dstep SL sx dep k pc (.ireturn, nx, aux) L st G = ((match st with
    | [.int v] => gc1 (retOk (mRet k) v) (some (.inr (.inl (some (.int v)))))
    | _ => none)) := rfl
theorem dq_areturn : dstep SL sx dep k pc (.areturn, nx, aux) L st G = ((match st with
    | [.ref a] => gc1 (Nat.blt a 1000 && (match mRet k with
      | some (.object _) => true
      | _ => false)) (some (.inr (.inl (some (.ref a)))))
    | _ => none)) := rfl
theorem dq_return_ : dstep SL sx dep k pc (.return_, nx, aux) L st G = ((match st with
    | [] => gc1 (decide (mRet k = none)) (some (.inr (.inl none)))
    | _ => none)
) := rfl
end DQ
end
section
/-! THE SMALL MACHINE IN THE GREAT ONE: how values, cells and locals stand in it -/
theorem blt_t {a b : Nat} (h : a < b) : Nat.blt a b = true := Nat.blt_eq.mpr h
theorem blt_l {a b : Nat} (h : Nat.blt a b = true) : a < b := Nat.blt_eq.mp h
theorem ble_l {a b : Nat} (h : Nat.ble a b = true) : a ≤ b := Nat.le_of_ble_eq_true h
theorem ble_t {a b : Nat} (h : a ≤ b) : Nat.ble a b = true := Nat.ble_eq.mpr h
theorem gc1_eq {b : Bool} {r : Option mR} {x : mR} (h : gc1 b r = some x) : b = true ∧ r = some x := by
  cases b with
  | false => cases h
  | true => exact ⟨rfl, h⟩
theorem pI_eq {st r : List Value} {x : Int32} (h : pI st = some (x, r)) : st = .int x :: r := by
  unfold pI at h
  split at h
  · cases h; rfl
  · cases h
theorem pJ_eq {st r : List Value} {x : Int64} (h : pJ st = some (x, r)) : st = .long x :: r := by
  unfold pJ at h
  split at h
  · cases h; rfl
  · cases h
theorem pA_eq {st r : List Value} {x : Nat} (h : pA st = some (x, r)) : st = .ref x :: r := by
  unfold pA at h
  split at h
  · cases h; rfl
  · cases h
theorem lI_eq {L : List Value} {i : Nat} {x : Int32} (h : lI L i = some x) : L[i]? = some (.int x) := by
  unfold lI at h
  split at h
  · rename_i q; cases h; exact q
  · cases h
theorem lJ_eq {L : List Value} {i : Nat} {x : Int64} (h : lJ L i = some x) : L[i]? = some (.long x) := by
  unfold lJ at h
  split at h
  · rename_i q; cases h; exact q
  · cases h
theorem lA_eq {L : List Value} {i : Nat} {x : Nat} (h : lA L i = some x) : L[i]? = some (.ref x) := by
  unfold lA at h
  split at h
  · rename_i q; cases h; exact q
  · cases h
/-- a value of the small machine, in the great one -/
def mvv (xa : Nat → Nat) (xe : Nat → Value) : Value → Value
  | .ref k => bif Nat.blt k 1000 then .ref (xa k) else xe (k - 1000)
  | v => v
def xeOk (xe : Nat → Value) : Prop := (∀ j, j < 20 → ∃ q, xe j = .ref q) ∧ ∀ j, xe j = .null ∨ ∃ q, xe j = .ref q
theorem mvv_own {xa : Nat → Nat} {xe : Nat → Value} {k : Nat} (h : k < 1000) : mvv xa xe (.ref k) = .ref (xa k) := by
  show (bif Nat.blt k 1000 then _ else _) = _
  rw [blt_t h]; rfl
theorem mvv_out {xa : Nat → Nat} {xe : Nat → Value} {k : Nat} (h : 1000 ≤ k) : mvv xa xe (.ref k) = xe (k - 1000) := by
  show (bif Nat.blt k 1000 then _ else _) = _
  have h1 : Nat.blt k 1000 = false := by
    cases hb : Nat.blt k 1000 with
    | false => rfl
    | true => have := blt_l hb; omega
  rw [h1]; rfl
theorem mvv_ref {xa : Nat → Nat} {xe : Nat → Value} (hx : xeOk xe) {k : Nat} (h : k < 1020) : ∃ q, mvv xa xe (.ref k) = .ref q := by
  by_cases h1 : k < 1000
  · exact ⟨_, mvv_own h1⟩
  · rw [mvv_out (Nat.not_lt.mp h1)]
    exact hx.1 _ (by omega)
theorem mvv_cat {xa : Nat → Nat} {xe : Nat → Value} (hx : xeOk xe) (v : Value) : (mvv xa xe v).category = v.category := by
  cases v with
  | ref k =>
    by_cases h1 : k < 1000
    · rw [mvv_own h1]; rfl
    · rw [mvv_out (Nat.not_lt.mp h1)]
      rcases hx.2 (k - 1000) with h | ⟨q, h⟩ <;> rw [h] <;> rfl
  | _ => rfl
theorem mvv_fits {xa : Nat → Nat} {xe : Nat → Value} (hx : xeOk xe) {ty : FieldType} {v : Value} (h : fits ty v = true) : fits ty (mvv xa xe v) = true := by
  cases v with
  | ref k =>
    have hq : mvv xa xe (.ref k) = .null ∨ ∃ q, mvv xa xe (.ref k) = .ref q := by
      by_cases h1 : k < 1000
      · exact Or.inr ⟨_, mvv_own h1⟩
      · rw [mvv_out (Nat.not_lt.mp h1)]; exact hx.2 _
    rcases hq with hq | ⟨q, hq⟩ <;> rw [hq] <;> cases ty <;> first | rfl | cases h
  | _ => exact h
theorem mvv_nar {xa : Nat → Nat} {xe : Nat → Value} (hx : xeOk xe) {ty : FieldType} {v : Value} (h : narrow ty v = v) : narrow ty (mvv xa xe v) = mvv xa xe v := by
  cases v with
  | ref k =>
    have hq : mvv xa xe (.ref k) = .null ∨ ∃ q, mvv xa xe (.ref k) = .ref q := by
      by_cases h1 : k < 1000
      · exact Or.inr ⟨_, mvv_own h1⟩
      · rw [mvv_out (Nat.not_lt.mp h1)]; exact hx.2 _
    rcases hq with hq | ⟨q, hq⟩ <;> rw [hq] <;> cases ty <;> rfl
  | _ => exact h
theorem mvv_catS {xa : Nat → Nat} {xe : Nat → Value} (hx : xeOk xe) (st : List Value) : ((st.map (mvv xa xe)).map fun v => v.category).sum = catS st := by
  unfold catS
  rw [List.map_map]
  congr 1
  exact List.map_congr_left fun v _ => mvv_cat hx v
def cellW (cA : Nat → ClassId) (xa : Nat → Nat) (xe : Nat → Value) : mC → va_E
  | .inl (t, n, .inl f) => .inl (cA t, n, .inl f)
  | .inl (t, n, .inr (.inl f)) => .inl (cA t, n, .inr (.inl f))
  | .inl (t, n, .inr (.inr l)) => .inl (cA t, n, .inr (.inr (.inr (.inr (fun j => (l.getD j none).map xa)))))
  | .inr (ci, fs) => .inr (ci, fs.map (mvv xa xe))
def wsW (cA : Nat → ClassId) (xa : Nat → Nat) (xe : Nat → Value) (G : mH) : va_W := G.mapIdx fun k q => (xa k, cellW cA xa xe q)
def tysW (cA : Nat → ClassId) : List (ClassId × FieldType) := [(cA 0, .int), (cA 1, .byte), (cA 2, .long), (cA 3, .object "DeckBench$Net"), (cA 4, .object "DeckBench$Deck")]
theorem wsW_at {cA : Nat → ClassId} {xa : Nat → Nat} {xe : Nat → Value} {G : mH} {k : Nat} {q : mC} (h : G[k]? = some q) : (wsW cA xa xe G)[k]? = some (xa k, cellW cA xa xe q) := by
  unfold wsW
  rw [List.getElem?_mapIdx, h]; rfl
theorem wsW_set {cA : Nat → ClassId} {xa : Nat → Nat} {xe : Nat → Value} {G : mH} {k : Nat} {q : mC} : wsW cA xa xe (G.set k q) = (wsW cA xa xe G).set k (xa k, cellW cA xa xe q) := by
  unfold wsW
  rw [List.mapIdx_set]
/-- the known locals -/
def lvO (xa : Nat → Nat) (xe : Nat → Value) (L : List Value) : List (Nat × Value) := L.zipIdx.filterMap fun q => if q.1 = .null then none else some (q.2, mvv xa xe q.1)
theorem lvO_mem {xa : Nat → Nat} {xe : Nat → Value} {L : List Value} {j : Nat} {w : Value} : (j, w) ∈ lvO xa xe L ↔ ∃ u, L[j]? = some u ∧ u ≠ .null ∧ w = mvv xa xe u := by
  unfold lvO
  rw [List.mem_filterMap]
  constructor
  · rintro ⟨⟨u, i⟩, h1, h2⟩
    by_cases hu : u = .null
    · simp [hu] at h2
    · simp only [hu, if_false, Option.some.injEq, Prod.mk.injEq] at h2
      obtain ⟨rfl, rfl⟩ := h2
      exact ⟨u, List.mk_mem_zipIdx_iff_getElem?.mp h1, hu, rfl⟩
  · rintro ⟨u, h1, h2, rfl⟩
    exact ⟨(u, j), List.mk_mem_zipIdx_iff_getElem?.mpr h1, by simp [h2]⟩
def lR (xa : Nat → Nat) (xe : Nat → Value) (ls : Array Slot) (n : Nat) (L : List Value) : Prop := L.length = n ∧ lv_has ls n (lvO xa xe L)
theorem lR_at {xa : Nat → Nat} {xe : Nat → Value} {ls : Array Slot} {n : Nat} {L : List Value} (h : lR xa xe ls n L) {i : Nat} {v : Value} (hi : L[i]? = some v) (hv : v ≠ .null) : ls[i]? = some (.val (mvv xa xe v)) := h.2.2.2 (i, mvv xa xe v) (lvO_mem.mpr ⟨v, hi, hv, rfl⟩)
theorem clr_length (L : List Value) (i : Nat) : (clr L i).length = L.length := by
  cases i with
  | zero => rfl
  | succ j =>
    simp only [clr]
    cases L[j]? with
    | none => rfl
    | some v => cases h : Nat.beq v.category 2 <;> simp [h]
theorem clr_at {L : List Value} {i j : Nat} {u : Value} (h : (clr L i)[j]? = some u) (hu : u ≠ .null) : L[j]? = some u ∧ ¬ (j + 1 = i ∧ u.category = 2) := by
  cases i with
  | zero => exact ⟨h, fun q => by omega⟩
  | succ i =>
    simp only [clr] at h
    cases hi : L[i]? with
    | none =>
      simp only [hi] at h
      refine ⟨h, fun q => ?_⟩
      have : j = i := by omega
      rw [this, hi] at h; cases h
    | some v =>
      simp only [hi] at h
      cases hc : Nat.beq v.category 2 with
      | false =>
        rw [hc] at h
        refine ⟨h, fun q => ?_⟩
        have : j = i := by omega
        subst this
        have h' : L[j]? = some u := h
        rw [hi] at h'; cases h'
        rw [q.2] at hc; cases hc
      | true =>
        rw [hc] at h
        have h : (L.set i .null)[j]? = some u := h
        rw [List.getElem?_set] at h
        by_cases hj : i = j
        · rw [if_pos hj] at h
          split at h
          · cases h; exact absurd rfl hu
          · cases h
        · rw [if_neg hj] at h
          exact ⟨h, fun q => hj (by omega)⟩
theorem lR_st1 {xa : Nat → Nat} {xe : Nat → Value} (hx : xeOk xe) {ls' : Array Slot} {n : Nat} {L : List Value} {i : Nat} {v : Value} (hn : L.length = n) (h : lv_has ls' n ((i, mvv xa xe v) :: (lvO xa xe L).filter (fun q => !(q.1 == i) && !(q.1 + 1 == i && q.2.category == 2)))) : lR xa xe ls' n (st1 L i v) := by
  refine ⟨by unfold st1; rw [List.length_set, clr_length, hn], h.1, h.2.1, ?_⟩
  rintro ⟨j, w⟩ hq
  obtain ⟨u, h1, h2, rfl⟩ := lvO_mem.mp hq
  unfold st1 at h1
  rw [List.getElem?_set] at h1
  by_cases hj : i = j
  · rw [if_pos hj] at h1
    split at h1
    · cases h1; subst hj; exact h.2.2 _ List.mem_cons_self
    · cases h1
  · rw [if_neg hj] at h1
    obtain ⟨h3, h4⟩ := clr_at h1 h2
    refine h.2.2 _ (List.mem_cons_of_mem _ (List.mem_filter.mpr ⟨lvO_mem.mpr ⟨u, h3, h2, rfl⟩, ?_⟩))
    simp only [mvv_cat hx]
    by_cases h5 : j + 1 = i
    · have h6 : ¬ u.category = 2 := fun q => h4 ⟨h5, q⟩
      simp [h6, show ¬ j = i from fun q => hj q.symm]
    · simp [h5, show ¬ j = i from fun q => hj q.symm]
theorem lR_st2 {xa : Nat → Nat} {xe : Nat → Value} (hx : xeOk xe) {ls' : Array Slot} {n : Nat} {L : List Value} {i : Nat} {v : Value} (hn : L.length = n) (h : lv_has ls' n ((i, mvv xa xe v) :: (lvO xa xe L).filter (fun q => !(q.1 == i) && (!(q.1 == i + 1) && !(q.1 + 1 == i && q.2.category == 2))))) : lR xa xe ls' n (st2 L i v) := by
  refine ⟨by unfold st2; rw [List.length_set, List.length_set, clr_length, hn], h.1, h.2.1, ?_⟩
  rintro ⟨j, w⟩ hq
  obtain ⟨u, h1, h2, rfl⟩ := lvO_mem.mp hq
  unfold st2 at h1
  rw [List.getElem?_set] at h1
  by_cases hk : i + 1 = j
  · rw [if_pos hk] at h1
    split at h1
    · cases h1; exact absurd rfl h2
    · cases h1
  · rw [if_neg hk, List.getElem?_set] at h1
    by_cases hj : i = j
    · rw [if_pos hj] at h1
      split at h1
      · cases h1; subst hj; exact h.2.2 _ List.mem_cons_self
      · cases h1
    · rw [if_neg hj] at h1
      obtain ⟨h3, h4⟩ := clr_at h1 h2
      refine h.2.2 _ (List.mem_cons_of_mem _ (List.mem_filter.mpr ⟨lvO_mem.mpr ⟨u, h3, h2, rfl⟩, ?_⟩))
      simp only [mvv_cat hx]
      by_cases h5 : j + 1 = i
      · have h6 : ¬ u.category = 2 := fun q => h4 ⟨h5, q⟩
        have h7 : ¬ j = i + 1 := by omega
        simp [h6, h7, show ¬ j = i from fun q => hj q.symm]
      · have h7 : ¬ j = i + 1 := by omega
        simp [h5, h7, show ¬ j = i from fun q => hj q.symm]
/-- the words that a contract may hold -/
def lwG : List Cond := lw_tbl.filter goodWord
theorem lwG_mem {w : Cond} (h : w ∈ lw_tbl) (hg : goodWord w = true) : w ∈ lwG := List.mem_filter.mpr ⟨h, hg⟩
/-- what stands outside and stays -/
def Ext (SL : Nat) (sx : Nat → Int32) (xe : Nat → Value) (A : Nat → Prop) (U : State) (H : Heap) : Prop :=
  (∃ b, xe 0 = .ref b ∧ va_X b SL sx U H ∧ b < H.size ∧ ¬ A b) ∧
  (∃ t, xe 1 = .ref t ∧ va_Z "DeckBench$SmallNets" "FIRSTS" "[I" (.ref t) A U H ∧ va_T .int t 7 (fun j => .int (sFirsts.getD j 0)) A U H) ∧
  (∃ t, xe 2 = .ref t ∧ va_Z "DeckBench$SmallNets" "FORMS" "[I" (.ref t) A U H ∧ va_T .int t 53 (fun j => .int (sForms.getD j 0)) A U H) ∧
  (∃ tk tv : Nat → Nat, (∀ i, i < 4 → xe (3 + i) = .ref (tv i) ∧ xe (10 + i) = .ref (tk i)) ∧ vk_S 4 sLens sTexts tk tv A U H ∧ vk_R "DeckBench$TextReader" 63 "net" (tk 0) U ∧ vk_R "DeckBench$TextReader" 72 "deck" (tk 1) U ∧ vk_R "DeckBench$TextReader" 130 "card" (tk 2) U ∧ vk_R "DeckBenchModel" 153 " net deck card " (tk 3) U) ∧
  va_Z "java/lang/String" "COMPACT_STRINGS" "Z" (.int 1) A U H ∧
  va_Z "jdk/internal/util/Preconditions" "SIOOBE_FORMATTER" "Ljava/util/function/BiFunction;" (xe 20) A U H ∧
  (∀ a i x h, Cond.methodLinkNest a i x h ∈ lw_tbl → va_Nw (.methodLinkNest a i x h) U) ∧ va_AO "DeckBench$Net" U ∧ va_AO "DeckBench$Deck" U
theorem Ext.to {SL : Nat} {sx : Nat → Int32} {xe : Nat → Value} {A A' : Nat → Prop} {s U : State} {H : Heap} {locs : List Loc} (h : Ext SL sx xe A s s.heap) (hW : s.WarmedH U.vm) (hS : va_S A s.heap H locs) (hA : ∀ q, A' q → A q) : Ext SL sx xe A' U H := by
  obtain ⟨⟨b, b1, b2, b3, b4⟩, ⟨t, t1, t2, t3⟩, ⟨u, u1, u2, u3⟩, ⟨tk, tv, k1, k2, k3, k4, k5, k6⟩, h5, h6, h7, h8, h9⟩ := h
  have al := hW.alike
  refine ⟨⟨b, b1, (b2.kept (hS.2.1 b b3 b4)).moved al, Nat.lt_of_lt_of_le b3 hS.1, fun q => b4 (hA _ q)⟩, ⟨t, t1, ((t2.kept hS.2.1).moved al).narrow hA, ((t3.kept hS.2.1).moved al).narrow hA⟩, ⟨u, u1, ((u2.kept hS.2.1).moved al).narrow hA, ((u3.kept hS.2.1).moved al).narrow hA⟩,
    ⟨tk, tv, k1, ((k2.kept hS.2.1).moved al).narrow hA, k3.warm hW, k4.warm hW, k5.warm hW, k6.warm hW⟩, ((h5.kept hS.2.1).moved al).narrow hA, ((h6.kept hS.2.1).moved al).narrow hA, fun a i x j q => (h7 a i x j q).warmM hW, h8.moved al, h9.moved al⟩
theorem Ext.same {SL : Nat} {sx : Nat → Int32} {xe : Nat → Value} {A : Nat → Prop} {u U : State} {H : Heap} (hv : u.vm = U.vm) (h : Ext SL sx xe A u H) : Ext SL sx xe A U H := by
  obtain ⟨⟨b, b1, b2, b3, b4⟩, ⟨t, t1, t2, t3⟩, ⟨v, u1, u2, u3⟩, ⟨tk, tv, k1, k2, k3, k4, k5, k6⟩, h5, h6, h7, h8, h9⟩ := h
  have al : u.vm.Alike U.vm := hv ▸ Vm.Alike.refl u.vm
  exact ⟨⟨b, b1, b2.moved al, b3, b4⟩, ⟨t, t1, t2.moved al, t3.moved al⟩, ⟨v, u1, u2.moved al, u3.moved al⟩, ⟨tk, tv, k1, k2.moved al, k3.same hv.symm, k4.same hv.symm, k5.same hv.symm, k6.same hv.symm⟩, h5.moved al, h6.moved al, fun a i x j q => va_Nw.same rfl hv (h7 a i x j q), h8.moved al, h9.moved al⟩
def szC : mC → Nat
  | .inl q => q.2.1
  | .inr o => o.2.length
def szG (G : mH) : Nat := (G.map szC).sum
end
section
/-! WHAT STANDS WHILE A METHOD RUNS -/
def Fx (p : Program) (s : State) (m : MethodId) (args : Array Value) (meth : Method) (c : Code) (k : Nat) : Prop :=
  p.tables.exec = Jvm.exec ∧ c.code = mCode k ∧ meth.sig.returnType = mRet k ∧ meth.locks = false ∧ c.maxLocals = mMax k ∧ s.vm.findClass (mName k).cls = some m.cls ∧ (∀ w ∈ lwG, w.before args s = true) ∧ (mKind k = 2 → meth.name = "<init>")
def Wd (D : va_G) (cA : Nat → ClassId) (xe : Nat → Value) (A : Nat → Prop) (s : State) (xa : Nat → Nat) (G : mH) (H : Heap) (locs : List Loc) : Prop :=
  G.length ≤ 1000 ∧ va_P D vwCl (wsW cA xa xe G) H ∧ va_D A (wsW cA xa xe G) ∧ va_S A s.heap H locs
def Cx (p : Program) (R : Room) (s : State) (m : MethodId) (args : Array Value) (meth : Method) (c : Code) (D : va_G) (cA : Nat → ClassId) (xe : Nat → Value) (A : Nat → Prop) (SL : Nat) (sx : Nat → Int32) (dep k : Nat) : Prop :=
  Fx p s m args meth c k ∧ va_K D vwCl (tysW cA) s ∧ Ext SL sx xe A s s.heap ∧ (∀ q, s.heap.size ≤ q → A q) ∧ (dep ≤ R.frames ∧ 64 * dep ≤ R.locals) ∧ xeOk xe
def KK (p : Program) (l : Launch) (e : Env) (R : Room) (s : State) (m : MethodId) (args : Array Value) (below : List Frame) (meth : Method) (c : Code) (Q : State → Prop) (D : va_G) (cA : Nat → ClassId) (xe : Nat → Value) (A : Nat → Prop) (k : Nat) (xa : Nat → Nat) (G : mH) (cells slots pc' : Nat) (L' st' : List Value) (G' : mH) : Prop :=
  ∀ (xa' : Nat → Nat) (H' : Heap) (locs' : List Loc) (ls' : Array Slot) (cells' slots' : Nat), cells' = cells + (G'.length - G.length) → slots' = slots + (szG G' - szG G) → (∀ j, j < G.length → xa' j = xa j) → (G'.length = G.length → xa' = xa) → Wd D cA xe A s xa' G' H' locs' → lR xa' xe ls' (mMax k) L' →
    W p l e R s m args below meth c H' locs' cells' slots' Q (F0 m pc' ls' (st'.map (mvv xa' xe)))
theorem go_eq {i : Instr} {nx aux : Nat} {L st : List Value} {G : mH} {pc' : Nat} {L' st' : List Value} {G' : mH} (h : go (i, nx, aux) L st G = some (.inl (pc', L', st', G'))) : nx = pc' ∧ L = L' ∧ st = st' ∧ G = G' := by
  unfold go at h
  cases h
  exact ⟨rfl, rfl, rfl, rfl⟩
theorem ckd {k pc nx aux j : Nat} {i : Instr} (hs : ∀ n, lnOk i n = Nat.beq n (iln i)) (h : chkE k (pc, (i, nx, aux), j) = true) : decode (mCode k) pc = .ok (i, iln i) ∧ nx = pc + iln i ∧ chkX k pc (i, nx, aux) j = true := by
  unfold chkE at h
  rw [Bool.and_eq_true] at h
  obtain ⟨h1, h2⟩ := h
  dsimp only at h1 h2
  split at h1
  · rename_i i' n hd
    rw [Bool.and_eq_true, Bool.and_eq_true, hs] at h1
    obtain ⟨⟨e1, e2⟩, e3⟩ := h1
    have e1 := of_decide_eq_true e1
    have e2 := Nat.eq_of_beq_eq_true e2
    have e3 := Nat.eq_of_beq_eq_true e3
    subst e1
    subst e3
    exact ⟨hd, e2, h2⟩
  · cases h1
theorem ckt {k pc nx aux j : Nat} {i : Instr} (h : chkE k (pc, (i, nx, aux), j) = true) : ∃ n, decode (mCode k) pc = .ok (i, n) ∧ chkX k pc (i, nx, aux) j = true := by
  unfold chkE at h
  rw [Bool.and_eq_true] at h
  obtain ⟨h1, h2⟩ := h
  dsimp only at h1 h2
  split at h1
  · rename_i i' n hd
    rw [Bool.and_eq_true, Bool.and_eq_true] at h1
    have e1 := of_decide_eq_true h1.1.1
    subst e1
    exact ⟨n, hd, h2⟩
  · cases h1
theorem ownO_eq {G : mH} {a : Nat} {o : Nat × List Value} (h : ownO G a = some o) : G[a]? = some (.inr o) := by
  unfold ownO at h
  split at h
  · rename_i q; cases h; exact q
  · cases h
theorem ownI_eq {G : mH} {t a n : Nat} {f : Nat → Int32} (h : ownI G t a = some (n, f)) : G[a]? = some (.inl (t, n, .inl f)) := by
  unfold ownI at h
  split at h
  · rename_i t' n' f' q
    cases hb : Nat.beq t t' with
    | false => rw [hb] at h; cases h
    | true => rw [hb] at h; cases h; rw [Nat.eq_of_beq_eq_true hb]; exact q
  · cases h
theorem ownJ_eq {G : mH} {a n : Nat} {f : Nat → Int64} (h : ownJ G a = some (n, f)) : G[a]? = some (.inl (2, n, .inr (.inl f))) := by
  unfold ownJ at h
  split at h
  · rename_i t' n' f' q
    cases hb : Nat.beq 2 t' with
    | false => rw [hb] at h; cases h
    | true => rw [hb] at h; cases h; rw [Nat.eq_of_beq_eq_true hb]; exact q
  · cases h
theorem ownQ_eq {G : mH} {a t n : Nat} {f : List (Option Nat)} (h : ownQ G a = some (t, n, f)) : G[a]? = some (.inl (t, n, .inr (.inr f))) ∧ (t = 3 ∨ t = 4) ∧ n = f.length := by
  unfold ownQ at h
  split at h
  · rename_i t' n' f' q
    cases hb : (Nat.beq t' 3 || Nat.beq t' 4) && Nat.beq n' f'.length with
    | false => rw [hb] at h; cases h
    | true =>
      rw [hb] at h
      cases h
      rw [Bool.and_eq_true, Bool.or_eq_true] at hb
      exact ⟨q, hb.1.imp Nat.eq_of_beq_eq_true Nat.eq_of_beq_eq_true, Nat.eq_of_beq_eq_true hb.2⟩
  · cases h
theorem lt_of_at {α : Type} {G : List α} {a : Nat} {q : α} (h : G[a]? = some q) : a < G.length := (List.getElem?_eq_some_iff.mp h).1
theorem xArr_eq {SL : Nat} {sx : Nat → Int32} {a t n : Nat} {f : Nat → Int32} (h : xArr SL sx a = some (t, n, f)) :
    (a = 1000 ∧ t = 0 ∧ n = SL ∧ f = sx) ∨ (a = 1001 ∧ t = 0 ∧ n = 7 ∧ f = fun j => sFirsts.getD j 0) ∨ (a = 1002 ∧ t = 0 ∧ n = 53 ∧ f = fun j => sForms.getD j 0) ∨ ∃ i, i < 4 ∧ a = 1003 + i ∧ t = 1 ∧ n = sLens.getD i 0 ∧ f = fun j => (sTexts.getD i []).getD j 0 := by
  unfold xArr at h
  cases h0 : Nat.beq a 1000 with
  | true =>
    rw [h0] at h
    simp only [cond_true, Option.some.injEq, Prod.mk.injEq] at h
    obtain ⟨rfl, rfl, rfl⟩ := h
    exact Or.inl ⟨Nat.eq_of_beq_eq_true h0, rfl, rfl, rfl⟩
  | false =>
    rw [h0, cond_false] at h
    cases h1 : Nat.beq a 1001 with
    | true =>
      rw [h1] at h
      simp only [cond_true, Option.some.injEq, Prod.mk.injEq] at h
      obtain ⟨rfl, rfl, rfl⟩ := h
      exact Or.inr (Or.inl ⟨Nat.eq_of_beq_eq_true h1, rfl, rfl, rfl⟩)
    | false =>
      rw [h1, cond_false] at h
      cases h2 : Nat.beq a 1002 with
      | true =>
        rw [h2] at h
        simp only [cond_true, Option.some.injEq, Prod.mk.injEq] at h
        obtain ⟨rfl, rfl, rfl⟩ := h
        exact Or.inr (Or.inr (Or.inl ⟨Nat.eq_of_beq_eq_true h2, rfl, rfl, rfl⟩))
      | false =>
        rw [h2, cond_false] at h
        cases h3 : Nat.ble 1003 a && Nat.ble a 1006 with
        | false => rw [h3, cond_false] at h; cases h
        | true =>
          rw [h3] at h
          simp only [cond_true, Option.some.injEq, Prod.mk.injEq] at h
          obtain ⟨rfl, rfl, rfl⟩ := h
          rw [Bool.and_eq_true] at h3
          have q1 := ble_l h3.1
          have q2 := ble_l h3.2
          exact Or.inr (Or.inr (Or.inr ⟨a - 1003, by omega, by omega, rfl, rfl, rfl⟩))
theorem arrI_eq {SL : Nat} {sx : Nat → Int32} {G : mH} {t a n : Nat} {f : Nat → Int32} (h : arrI SL sx G t a = some (n, f)) : (1000 ≤ a ∧ xArr SL sx a = some (t, n, f)) ∨ (a < 1000 ∧ G[a]? = some (.inl (t, n, .inl f))) := by
  unfold arrI at h
  cases ha : Nat.ble 1000 a with
  | true =>
    rw [ha] at h
    dsimp only [cond] at h
    split at h
    · rename_i t' n' f' q
      cases hb : Nat.beq t t' with
      | false => rw [hb] at h; cases h
      | true => rw [hb] at h; cases h; exact Or.inl ⟨ble_l ha, by rw [Nat.eq_of_beq_eq_true hb]; exact q⟩
    · cases h
  | false =>
    rw [ha] at h
    dsimp only [cond] at h
    have hlt : a < 1000 := by
      rcases Nat.lt_or_ge a 1000 with q | q
      · exact q
      · rw [ble_t q] at ha; cases ha
    split at h
    · rename_i t' n' f' q
      cases hb : Nat.beq t t' with
      | false => rw [hb] at h; cases h
      | true => rw [hb] at h; cases h; exact Or.inr ⟨hlt, by rw [Nat.eq_of_beq_eq_true hb]; exact q⟩
    · cases h
theorem inB_in {i : Int32} {n : Nat} (h : inB i n = true) : vp_in i n := by
  unfold inB at h
  rw [Bool.and_eq_true] at h
  have h1 := of_decide_eq_true h.1
  have h2 := blt_l h.2
  rintro (q | q)
  · exact absurd h1 (by rw [Int32.not_le]; exact q)
  · omega
theorem szG_set {G : mH} {a : Nat} {q q' : mC} (h : G[a]? = some q) (hz : szC q' = szC q) : szG (G.set a q') = szG G := by
  unfold szG
  rw [List.map_set, hz]
  congr 1
  apply List.ext_getElem?
  intro i
  rw [List.getElem?_set]
  by_cases hi : a = i
  · subst hi
    rw [if_pos rfl, List.getElem?_map, h]
    have := lt_of_at h
    simp [this]
  · rw [if_neg hi]
theorem bte {a b : Nat} : (bif true then a else b) = a := rfl
theorem bfe {a b : Nat} : (bif false then a else b) = b := rfl
section STP
variable {p : Program} {l : Launch} {e : Env} {R : Room} {s : State} {m : MethodId} {args : Array Value} {below : List Frame} {meth : Method} {c : Code} {Q : State → Prop} {D : va_G} {cA : Nat → ClassId} {xe : Nat → Value} {A : Nat → Prop} {SL : Nat} {sx : Nat → Int32} {dep k pc : Nat} {xa : Nat → Nat} {H : Heap} {locs : List Loc} {cells slots : Nat} {ls : Array Slot} {L st : List Value} {G : mH} {pc' : Nat} {L' st' : List Value} {G' : mH} {nx aux j : Nat}
theorem KK.pure (kk : KK p l e R s m args below meth c Q D cA xe A k xa G cells slots pc' L' st' G) (hW : Wd D cA xe A s xa G H locs) (hL : lR xa xe ls (mMax k) L') : W p l e R s m args below meth c H locs cells slots Q (F0 m pc' ls (st'.map (mvv xa xe))) := kk xa H locs ls cells slots (by simp) (by simp) (fun _ _ => rfl) (fun _ => rfl) hW hL
theorem KK.put {a : Nat} {q q' : mC} (kk : KK p l e R s m args below meth c Q D cA xe A k xa G cells slots pc' L' st' (G.set a q')) (hq : G[a]? = some q) (hz : szC q' = szC q) (hl : G.length ≤ 1000) (hP : va_P D vwCl ((wsW cA xa xe G).set a (xa a, cellW cA xa xe q')) H) (hD : va_D A ((wsW cA xa xe G).set a (xa a, cellW cA xa xe q'))) (hS : va_S A s.heap H locs) (hL : lR xa xe ls (mMax k) L') : W p l e R s m args below meth c H locs cells slots Q (F0 m pc' ls (st'.map (mvv xa xe))) :=
  kk xa H locs ls cells slots (by simp) (by rw [szG_set hq hz]; simp) (fun _ _ => rfl) (fun _ => rfl) ⟨by simpa using hl, by rw [wsW_set]; exact hP, by rw [wsW_set]; exact hD, hS⟩ hL
theorem s_iconst {n : Int} (hC : Cx p R s m args meth c D cA xe A SL sx dep k) (hW : Wd D cA xe A s xa G H locs) (hL : lR xa xe ls (mMax k) L) (ho : chkE k (pc, (.iconst n, nx, aux), j) = true) (h : dstep SL sx dep k pc (.iconst n, nx, aux) L st G = some (.inl (pc', L', st', G'))) (hg : cells + (G'.length - G.length) ≤ R.cells ∧ slots + (szG G' - szG G) ≤ R.slots) (kk : KK p l e R s m args below meth c Q D cA xe A k xa G cells slots pc' L' st' G') : W p l e R s m args below meth c H locs cells slots Q (F0 m pc ls (st.map (mvv xa xe))) := by
  obtain ⟨⟨hx, hb, hr, hlk, hml, hown, hts, hin⟩, hK, hE, hA, hR, hxe⟩ := id hC
  obtain ⟨hd, rfl, hq⟩ := ckd (fun _ => rfl) ho
  rw [dq_iconst] at h
  obtain ⟨rfl, rfl, rfl, rfl⟩ := go_eq h
  exact lv_iconst (rest := st.map (mvv xa xe)) hx hb hd rfl (kk.pure hW hL)
theorem s_bipush {n : Int} (hC : Cx p R s m args meth c D cA xe A SL sx dep k) (hW : Wd D cA xe A s xa G H locs) (hL : lR xa xe ls (mMax k) L) (ho : chkE k (pc, (.bipush n, nx, aux), j) = true) (h : dstep SL sx dep k pc (.bipush n, nx, aux) L st G = some (.inl (pc', L', st', G'))) (hg : cells + (G'.length - G.length) ≤ R.cells ∧ slots + (szG G' - szG G) ≤ R.slots) (kk : KK p l e R s m args below meth c Q D cA xe A k xa G cells slots pc' L' st' G') : W p l e R s m args below meth c H locs cells slots Q (F0 m pc ls (st.map (mvv xa xe))) := by
  obtain ⟨⟨hx, hb, hr, hlk, hml, hown, hts, hin⟩, hK, hE, hA, hR, hxe⟩ := id hC
  obtain ⟨hd, rfl, hq⟩ := ckd (fun _ => rfl) ho
  rw [dq_bipush] at h
  obtain ⟨rfl, rfl, rfl, rfl⟩ := go_eq h
  exact lv_bipush (rest := st.map (mvv xa xe)) hx hb hd rfl (kk.pure hW hL)
theorem s_sipush {n : Int} (hC : Cx p R s m args meth c D cA xe A SL sx dep k) (hW : Wd D cA xe A s xa G H locs) (hL : lR xa xe ls (mMax k) L) (ho : chkE k (pc, (.sipush n, nx, aux), j) = true) (h : dstep SL sx dep k pc (.sipush n, nx, aux) L st G = some (.inl (pc', L', st', G'))) (hg : cells + (G'.length - G.length) ≤ R.cells ∧ slots + (szG G' - szG G) ≤ R.slots) (kk : KK p l e R s m args below meth c Q D cA xe A k xa G cells slots pc' L' st' G') : W p l e R s m args below meth c H locs cells slots Q (F0 m pc ls (st.map (mvv xa xe))) := by
  obtain ⟨⟨hx, hb, hr, hlk, hml, hown, hts, hin⟩, hK, hE, hA, hR, hxe⟩ := id hC
  obtain ⟨hd, rfl, hq⟩ := ckd (fun _ => rfl) ho
  rw [dq_sipush] at h
  obtain ⟨rfl, rfl, rfl, rfl⟩ := go_eq h
  exact lv_sipush (rest := st.map (mvv xa xe)) hx hb hd rfl (kk.pure hW hL)
theorem s_lconst {n : Fin 2} (hC : Cx p R s m args meth c D cA xe A SL sx dep k) (hW : Wd D cA xe A s xa G H locs) (hL : lR xa xe ls (mMax k) L) (ho : chkE k (pc, (.lconst n, nx, aux), j) = true) (h : dstep SL sx dep k pc (.lconst n, nx, aux) L st G = some (.inl (pc', L', st', G'))) (hg : cells + (G'.length - G.length) ≤ R.cells ∧ slots + (szG G' - szG G) ≤ R.slots) (kk : KK p l e R s m args below meth c Q D cA xe A k xa G cells slots pc' L' st' G') : W p l e R s m args below meth c H locs cells slots Q (F0 m pc ls (st.map (mvv xa xe))) := by
  obtain ⟨⟨hx, hb, hr, hlk, hml, hown, hts, hin⟩, hK, hE, hA, hR, hxe⟩ := id hC
  obtain ⟨hd, rfl, hq⟩ := ckd (fun _ => rfl) ho
  rw [dq_lconst] at h
  obtain ⟨rfl, rfl, rfl, rfl⟩ := go_eq h
  exact lv_lconst (rest := st.map (mvv xa xe)) hx hb hd rfl (kk.pure hW hL)
theorem s_iload_n {i : Fin 4} (hC : Cx p R s m args meth c D cA xe A SL sx dep k) (hW : Wd D cA xe A s xa G H locs) (hL : lR xa xe ls (mMax k) L) (ho : chkE k (pc, (.iload_n i, nx, aux), j) = true) (h : dstep SL sx dep k pc (.iload_n i, nx, aux) L st G = some (.inl (pc', L', st', G'))) (hg : cells + (G'.length - G.length) ≤ R.cells ∧ slots + (szG G' - szG G) ≤ R.slots) (kk : KK p l e R s m args below meth c Q D cA xe A k xa G cells slots pc' L' st' G') : W p l e R s m args below meth c H locs cells slots Q (F0 m pc ls (st.map (mvv xa xe))) := by
  obtain ⟨⟨hx, hb, hr, hlk, hml, hown, hts, hin⟩, hK, hE, hA, hR, hxe⟩ := id hC
  obtain ⟨hd, rfl, hq⟩ := ckd (fun _ => rfl) ho
  rw [dq_iload_n] at h
  obtain ⟨x, h1, h⟩ := Option.bind_eq_some_iff.mp h
  obtain ⟨rfl, rfl, rfl, rfl⟩ := go_eq h
  exact lv_iload_n (rest := st.map (mvv xa xe)) hx hb hd rfl (lR_at hL (lI_eq h1) (by simp)) (kk.pure hW hL)
theorem s_iload {i : Nat} (hC : Cx p R s m args meth c D cA xe A SL sx dep k) (hW : Wd D cA xe A s xa G H locs) (hL : lR xa xe ls (mMax k) L) (ho : chkE k (pc, (.iload i, nx, aux), j) = true) (h : dstep SL sx dep k pc (.iload i, nx, aux) L st G = some (.inl (pc', L', st', G'))) (hg : cells + (G'.length - G.length) ≤ R.cells ∧ slots + (szG G' - szG G) ≤ R.slots) (kk : KK p l e R s m args below meth c Q D cA xe A k xa G cells slots pc' L' st' G') : W p l e R s m args below meth c H locs cells slots Q (F0 m pc ls (st.map (mvv xa xe))) := by
  obtain ⟨⟨hx, hb, hr, hlk, hml, hown, hts, hin⟩, hK, hE, hA, hR, hxe⟩ := id hC
  obtain ⟨hd, rfl, hq⟩ := ckd (fun _ => rfl) ho
  rw [dq_iload] at h
  obtain ⟨x, h1, h⟩ := Option.bind_eq_some_iff.mp h
  obtain ⟨rfl, rfl, rfl, rfl⟩ := go_eq h
  exact lv_iload (rest := st.map (mvv xa xe)) hx hb hd (lR_at hL (lI_eq h1) (by simp)) (kk.pure hW hL)
theorem s_lload_n {i : Fin 4} (hC : Cx p R s m args meth c D cA xe A SL sx dep k) (hW : Wd D cA xe A s xa G H locs) (hL : lR xa xe ls (mMax k) L) (ho : chkE k (pc, (.lload_n i, nx, aux), j) = true) (h : dstep SL sx dep k pc (.lload_n i, nx, aux) L st G = some (.inl (pc', L', st', G'))) (hg : cells + (G'.length - G.length) ≤ R.cells ∧ slots + (szG G' - szG G) ≤ R.slots) (kk : KK p l e R s m args below meth c Q D cA xe A k xa G cells slots pc' L' st' G') : W p l e R s m args below meth c H locs cells slots Q (F0 m pc ls (st.map (mvv xa xe))) := by
  obtain ⟨⟨hx, hb, hr, hlk, hml, hown, hts, hin⟩, hK, hE, hA, hR, hxe⟩ := id hC
  obtain ⟨hd, rfl, hq⟩ := ckd (fun _ => rfl) ho
  rw [dq_lload_n] at h
  obtain ⟨x, h1, h⟩ := Option.bind_eq_some_iff.mp h
  obtain ⟨rfl, rfl, rfl, rfl⟩ := go_eq h
  exact lv_lload_n (rest := st.map (mvv xa xe)) hx hb hd rfl (lR_at hL (lJ_eq h1) (by simp)) (kk.pure hW hL)
theorem s_lload {i : Nat} (hC : Cx p R s m args meth c D cA xe A SL sx dep k) (hW : Wd D cA xe A s xa G H locs) (hL : lR xa xe ls (mMax k) L) (ho : chkE k (pc, (.lload i, nx, aux), j) = true) (h : dstep SL sx dep k pc (.lload i, nx, aux) L st G = some (.inl (pc', L', st', G'))) (hg : cells + (G'.length - G.length) ≤ R.cells ∧ slots + (szG G' - szG G) ≤ R.slots) (kk : KK p l e R s m args below meth c Q D cA xe A k xa G cells slots pc' L' st' G') : W p l e R s m args below meth c H locs cells slots Q (F0 m pc ls (st.map (mvv xa xe))) := by
  obtain ⟨⟨hx, hb, hr, hlk, hml, hown, hts, hin⟩, hK, hE, hA, hR, hxe⟩ := id hC
  obtain ⟨hd, rfl, hq⟩ := ckd (fun _ => rfl) ho
  rw [dq_lload] at h
  obtain ⟨x, h1, h⟩ := Option.bind_eq_some_iff.mp h
  obtain ⟨rfl, rfl, rfl, rfl⟩ := go_eq h
  exact lv_lload (rest := st.map (mvv xa xe)) hx hb hd (lR_at hL (lJ_eq h1) (by simp)) (kk.pure hW hL)
theorem s_aload_n {i : Fin 4} (hC : Cx p R s m args meth c D cA xe A SL sx dep k) (hW : Wd D cA xe A s xa G H locs) (hL : lR xa xe ls (mMax k) L) (ho : chkE k (pc, (.aload_n i, nx, aux), j) = true) (h : dstep SL sx dep k pc (.aload_n i, nx, aux) L st G = some (.inl (pc', L', st', G'))) (hg : cells + (G'.length - G.length) ≤ R.cells ∧ slots + (szG G' - szG G) ≤ R.slots) (kk : KK p l e R s m args below meth c Q D cA xe A k xa G cells slots pc' L' st' G') : W p l e R s m args below meth c H locs cells slots Q (F0 m pc ls (st.map (mvv xa xe))) := by
  obtain ⟨⟨hx, hb, hr, hlk, hml, hown, hts, hin⟩, hK, hE, hA, hR, hxe⟩ := id hC
  obtain ⟨hd, rfl, hq⟩ := ckd (fun _ => rfl) ho
  rw [dq_aload_n] at h
  obtain ⟨x, h1, h⟩ := Option.bind_eq_some_iff.mp h
  obtain ⟨hb1, h⟩ := gc1_eq h
  obtain ⟨rfl, rfl, rfl, rfl⟩ := go_eq h
  obtain ⟨q, hq1⟩ := mvv_ref (xa := xa) hxe (blt_l hb1)
  have h2 := lR_at hL (lA_eq h1) (by simp)
  rw [hq1] at h2
  refine lv_aload_n (rest := st.map (mvv xa xe)) hx hb hd rfl h2 ?_
  rw [← hq1]
  exact kk.pure hW hL
theorem s_aload {i : Nat} (hC : Cx p R s m args meth c D cA xe A SL sx dep k) (hW : Wd D cA xe A s xa G H locs) (hL : lR xa xe ls (mMax k) L) (ho : chkE k (pc, (.aload i, nx, aux), j) = true) (h : dstep SL sx dep k pc (.aload i, nx, aux) L st G = some (.inl (pc', L', st', G'))) (hg : cells + (G'.length - G.length) ≤ R.cells ∧ slots + (szG G' - szG G) ≤ R.slots) (kk : KK p l e R s m args below meth c Q D cA xe A k xa G cells slots pc' L' st' G') : W p l e R s m args below meth c H locs cells slots Q (F0 m pc ls (st.map (mvv xa xe))) := by
  obtain ⟨⟨hx, hb, hr, hlk, hml, hown, hts, hin⟩, hK, hE, hA, hR, hxe⟩ := id hC
  obtain ⟨hd, rfl, hq⟩ := ckd (fun _ => rfl) ho
  rw [dq_aload] at h
  obtain ⟨x, h1, h⟩ := Option.bind_eq_some_iff.mp h
  obtain ⟨hb1, h⟩ := gc1_eq h
  obtain ⟨rfl, rfl, rfl, rfl⟩ := go_eq h
  obtain ⟨q, hq1⟩ := mvv_ref (xa := xa) hxe (blt_l hb1)
  have h2 := lR_at hL (lA_eq h1) (by simp)
  rw [hq1] at h2
  refine lv_aload (rest := st.map (mvv xa xe)) hx hb hd h2 ?_
  rw [← hq1]
  exact kk.pure hW hL
theorem s_istore_n {i : Fin 4} (hC : Cx p R s m args meth c D cA xe A SL sx dep k) (hW : Wd D cA xe A s xa G H locs) (hL : lR xa xe ls (mMax k) L) (ho : chkE k (pc, (.istore_n i, nx, aux), j) = true) (h : dstep SL sx dep k pc (.istore_n i, nx, aux) L st G = some (.inl (pc', L', st', G'))) (hg : cells + (G'.length - G.length) ≤ R.cells ∧ slots + (szG G' - szG G) ≤ R.slots) (kk : KK p l e R s m args below meth c Q D cA xe A k xa G cells slots pc' L' st' G') : W p l e R s m args below meth c H locs cells slots Q (F0 m pc ls (st.map (mvv xa xe))) := by
  obtain ⟨⟨hx, hb, hr, hlk, hml, hown, hts, hin⟩, hK, hE, hA, hR, hxe⟩ := id hC
  obtain ⟨hd, rfl, hq⟩ := ckd (fun _ => rfl) ho
  rw [dq_istore_n] at h
  obtain ⟨⟨x, r⟩, h1, h⟩ := Option.bind_eq_some_iff.mp h
  obtain ⟨hb1, h⟩ := gc1_eq h
  obtain ⟨rfl, rfl, rfl, rfl⟩ := go_eq h
  obtain rfl := pI_eq h1
  exact lv_istore_n (rest := r.map (mvv xa xe)) hx hb hd rfl hL.2 (by rw [← hL.1]; exact blt_l hb1) rfl (fun ls' hl' => kk.pure hW (lR_st1 hxe hL.1 hl'))
theorem s_istore {i : Nat} (hC : Cx p R s m args meth c D cA xe A SL sx dep k) (hW : Wd D cA xe A s xa G H locs) (hL : lR xa xe ls (mMax k) L) (ho : chkE k (pc, (.istore i, nx, aux), j) = true) (h : dstep SL sx dep k pc (.istore i, nx, aux) L st G = some (.inl (pc', L', st', G'))) (hg : cells + (G'.length - G.length) ≤ R.cells ∧ slots + (szG G' - szG G) ≤ R.slots) (kk : KK p l e R s m args below meth c Q D cA xe A k xa G cells slots pc' L' st' G') : W p l e R s m args below meth c H locs cells slots Q (F0 m pc ls (st.map (mvv xa xe))) := by
  obtain ⟨⟨hx, hb, hr, hlk, hml, hown, hts, hin⟩, hK, hE, hA, hR, hxe⟩ := id hC
  obtain ⟨hd, rfl, hq⟩ := ckd (fun _ => rfl) ho
  rw [dq_istore] at h
  obtain ⟨⟨x, r⟩, h1, h⟩ := Option.bind_eq_some_iff.mp h
  obtain ⟨hb1, h⟩ := gc1_eq h
  obtain ⟨rfl, rfl, rfl, rfl⟩ := go_eq h
  obtain rfl := pI_eq h1
  exact lv_istore (rest := r.map (mvv xa xe)) hx hb hd hL.2 (by rw [← hL.1]; exact blt_l hb1) rfl (fun ls' hl' => kk.pure hW (lR_st1 hxe hL.1 hl'))
theorem s_lstore_n {i : Fin 4} (hC : Cx p R s m args meth c D cA xe A SL sx dep k) (hW : Wd D cA xe A s xa G H locs) (hL : lR xa xe ls (mMax k) L) (ho : chkE k (pc, (.lstore_n i, nx, aux), j) = true) (h : dstep SL sx dep k pc (.lstore_n i, nx, aux) L st G = some (.inl (pc', L', st', G'))) (hg : cells + (G'.length - G.length) ≤ R.cells ∧ slots + (szG G' - szG G) ≤ R.slots) (kk : KK p l e R s m args below meth c Q D cA xe A k xa G cells slots pc' L' st' G') : W p l e R s m args below meth c H locs cells slots Q (F0 m pc ls (st.map (mvv xa xe))) := by
  obtain ⟨⟨hx, hb, hr, hlk, hml, hown, hts, hin⟩, hK, hE, hA, hR, hxe⟩ := id hC
  obtain ⟨hd, rfl, hq⟩ := ckd (fun _ => rfl) ho
  rw [dq_lstore_n] at h
  obtain ⟨⟨x, r⟩, h1, h⟩ := Option.bind_eq_some_iff.mp h
  obtain ⟨hb1, h⟩ := gc1_eq h
  obtain ⟨rfl, rfl, rfl, rfl⟩ := go_eq h
  obtain rfl := pJ_eq h1
  exact lv_lstore_n (rest := r.map (mvv xa xe)) hx hb hd rfl hL.2 (by rw [← hL.1]; exact blt_l hb1) rfl (fun ls' hl' => kk.pure hW (lR_st2 hxe hL.1 hl'))
theorem s_lstore {i : Nat} (hC : Cx p R s m args meth c D cA xe A SL sx dep k) (hW : Wd D cA xe A s xa G H locs) (hL : lR xa xe ls (mMax k) L) (ho : chkE k (pc, (.lstore i, nx, aux), j) = true) (h : dstep SL sx dep k pc (.lstore i, nx, aux) L st G = some (.inl (pc', L', st', G'))) (hg : cells + (G'.length - G.length) ≤ R.cells ∧ slots + (szG G' - szG G) ≤ R.slots) (kk : KK p l e R s m args below meth c Q D cA xe A k xa G cells slots pc' L' st' G') : W p l e R s m args below meth c H locs cells slots Q (F0 m pc ls (st.map (mvv xa xe))) := by
  obtain ⟨⟨hx, hb, hr, hlk, hml, hown, hts, hin⟩, hK, hE, hA, hR, hxe⟩ := id hC
  obtain ⟨hd, rfl, hq⟩ := ckd (fun _ => rfl) ho
  rw [dq_lstore] at h
  obtain ⟨⟨x, r⟩, h1, h⟩ := Option.bind_eq_some_iff.mp h
  obtain ⟨hb1, h⟩ := gc1_eq h
  obtain ⟨rfl, rfl, rfl, rfl⟩ := go_eq h
  obtain rfl := pJ_eq h1
  exact lv_lstore (rest := r.map (mvv xa xe)) hx hb hd hL.2 (by rw [← hL.1]; exact blt_l hb1) rfl (fun ls' hl' => kk.pure hW (lR_st2 hxe hL.1 hl'))
theorem s_astore_n {i : Fin 4} (hC : Cx p R s m args meth c D cA xe A SL sx dep k) (hW : Wd D cA xe A s xa G H locs) (hL : lR xa xe ls (mMax k) L) (ho : chkE k (pc, (.astore_n i, nx, aux), j) = true) (h : dstep SL sx dep k pc (.astore_n i, nx, aux) L st G = some (.inl (pc', L', st', G'))) (hg : cells + (G'.length - G.length) ≤ R.cells ∧ slots + (szG G' - szG G) ≤ R.slots) (kk : KK p l e R s m args below meth c Q D cA xe A k xa G cells slots pc' L' st' G') : W p l e R s m args below meth c H locs cells slots Q (F0 m pc ls (st.map (mvv xa xe))) := by
  obtain ⟨⟨hx, hb, hr, hlk, hml, hown, hts, hin⟩, hK, hE, hA, hR, hxe⟩ := id hC
  obtain ⟨hd, rfl, hq⟩ := ckd (fun _ => rfl) ho
  rw [dq_astore_n] at h
  obtain ⟨⟨x, r⟩, h1, h⟩ := Option.bind_eq_some_iff.mp h
  obtain ⟨hb1, h⟩ := gc1_eq h
  obtain ⟨rfl, rfl, rfl, rfl⟩ := go_eq h
  obtain rfl := pA_eq h1
  rw [Bool.and_eq_true] at hb1
  obtain ⟨q, hq1⟩ := mvv_ref (xa := xa) hxe (blt_l hb1.2)
  show W p l e R s m args below meth c H locs cells slots Q (F0 m pc ls (mvv xa xe (.ref x) :: r.map (mvv xa xe)))
  rw [hq1]
  exact lv_astore_n (rest := r.map (mvv xa xe)) hx hb hd rfl hL.2 (by rw [← hL.1]; exact blt_l hb1.1) rfl (fun ls' hl' => kk.pure hW (lR_st1 (v := .ref x) hxe hL.1 (by rw [hq1]; exact hl')))
theorem s_astore {i : Nat} (hC : Cx p R s m args meth c D cA xe A SL sx dep k) (hW : Wd D cA xe A s xa G H locs) (hL : lR xa xe ls (mMax k) L) (ho : chkE k (pc, (.astore i, nx, aux), j) = true) (h : dstep SL sx dep k pc (.astore i, nx, aux) L st G = some (.inl (pc', L', st', G'))) (hg : cells + (G'.length - G.length) ≤ R.cells ∧ slots + (szG G' - szG G) ≤ R.slots) (kk : KK p l e R s m args below meth c Q D cA xe A k xa G cells slots pc' L' st' G') : W p l e R s m args below meth c H locs cells slots Q (F0 m pc ls (st.map (mvv xa xe))) := by
  obtain ⟨⟨hx, hb, hr, hlk, hml, hown, hts, hin⟩, hK, hE, hA, hR, hxe⟩ := id hC
  obtain ⟨hd, rfl, hq⟩ := ckd (fun _ => rfl) ho
  rw [dq_astore] at h
  obtain ⟨⟨x, r⟩, h1, h⟩ := Option.bind_eq_some_iff.mp h
  obtain ⟨hb1, h⟩ := gc1_eq h
  obtain ⟨rfl, rfl, rfl, rfl⟩ := go_eq h
  obtain rfl := pA_eq h1
  rw [Bool.and_eq_true] at hb1
  obtain ⟨q, hq1⟩ := mvv_ref (xa := xa) hxe (blt_l hb1.2)
  show W p l e R s m args below meth c H locs cells slots Q (F0 m pc ls (mvv xa xe (.ref x) :: r.map (mvv xa xe)))
  rw [hq1]
  exact lv_astore (rest := r.map (mvv xa xe)) hx hb hd hL.2 (by rw [← hL.1]; exact blt_l hb1.1) rfl (fun ls' hl' => kk.pure hW (lR_st1 (v := .ref x) hxe hL.1 (by rw [hq1]; exact hl')))
theorem s_iinc {i : Nat} {n : Int} (hC : Cx p R s m args meth c D cA xe A SL sx dep k) (hW : Wd D cA xe A s xa G H locs) (hL : lR xa xe ls (mMax k) L) (ho : chkE k (pc, (.iinc i n, nx, aux), j) = true) (h : dstep SL sx dep k pc (.iinc i n, nx, aux) L st G = some (.inl (pc', L', st', G'))) (hg : cells + (G'.length - G.length) ≤ R.cells ∧ slots + (szG G' - szG G) ≤ R.slots) (kk : KK p l e R s m args below meth c Q D cA xe A k xa G cells slots pc' L' st' G') : W p l e R s m args below meth c H locs cells slots Q (F0 m pc ls (st.map (mvv xa xe))) := by
  obtain ⟨⟨hx, hb, hr, hlk, hml, hown, hts, hin⟩, hK, hE, hA, hR, hxe⟩ := id hC
  obtain ⟨hd, rfl, hq⟩ := ckd (fun _ => rfl) ho
  rw [dq_iinc] at h
  obtain ⟨x, h1, h⟩ := Option.bind_eq_some_iff.mp h
  obtain ⟨rfl, rfl, rfl, rfl⟩ := go_eq h
  have h2 := lI_eq h1
  obtain ⟨k0, hk0⟩ := List.getElem?_of_mem (lvO_mem (xa := xa) (xe := xe).mpr ⟨_, h2, by simp, rfl⟩)
  exact lv_iinc (rest := st.map (mvv xa xe)) hx hb hd hL.2 hk0 rfl (by rw [← hL.1]; exact lt_of_at h2) rfl (fun ls' hl' => kk.pure hW (lR_st1 (v := .int _) hxe hL.1 hl'))
theorem s_iadd (hC : Cx p R s m args meth c D cA xe A SL sx dep k) (hW : Wd D cA xe A s xa G H locs) (hL : lR xa xe ls (mMax k) L) (ho : chkE k (pc, (.iadd, nx, aux), j) = true) (h : dstep SL sx dep k pc (.iadd, nx, aux) L st G = some (.inl (pc', L', st', G'))) (hg : cells + (G'.length - G.length) ≤ R.cells ∧ slots + (szG G' - szG G) ≤ R.slots) (kk : KK p l e R s m args below meth c Q D cA xe A k xa G cells slots pc' L' st' G') : W p l e R s m args below meth c H locs cells slots Q (F0 m pc ls (st.map (mvv xa xe))) := by
  obtain ⟨⟨hx, hb, hr, hlk, hml, hown, hts, hin⟩, hK, hE, hA, hR, hxe⟩ := id hC
  obtain ⟨hd, rfl, hq⟩ := ckd (fun _ => rfl) ho
  rw [dq_iadd] at h
  obtain ⟨⟨y, r1⟩, h1, h⟩ := Option.bind_eq_some_iff.mp h
  obtain ⟨⟨x, r⟩, h2, h⟩ := Option.bind_eq_some_iff.mp h
  obtain ⟨rfl, rfl, rfl, rfl⟩ := go_eq h
  obtain rfl := pI_eq h1
  obtain rfl := pI_eq h2
  exact lv_iadd (x := x) (y := y) (rest := r.map (mvv xa xe)) hx hb hd (kk.pure hW hL)
theorem s_isub (hC : Cx p R s m args meth c D cA xe A SL sx dep k) (hW : Wd D cA xe A s xa G H locs) (hL : lR xa xe ls (mMax k) L) (ho : chkE k (pc, (.isub, nx, aux), j) = true) (h : dstep SL sx dep k pc (.isub, nx, aux) L st G = some (.inl (pc', L', st', G'))) (hg : cells + (G'.length - G.length) ≤ R.cells ∧ slots + (szG G' - szG G) ≤ R.slots) (kk : KK p l e R s m args below meth c Q D cA xe A k xa G cells slots pc' L' st' G') : W p l e R s m args below meth c H locs cells slots Q (F0 m pc ls (st.map (mvv xa xe))) := by
  obtain ⟨⟨hx, hb, hr, hlk, hml, hown, hts, hin⟩, hK, hE, hA, hR, hxe⟩ := id hC
  obtain ⟨hd, rfl, hq⟩ := ckd (fun _ => rfl) ho
  rw [dq_isub] at h
  obtain ⟨⟨y, r1⟩, h1, h⟩ := Option.bind_eq_some_iff.mp h
  obtain ⟨⟨x, r⟩, h2, h⟩ := Option.bind_eq_some_iff.mp h
  obtain ⟨rfl, rfl, rfl, rfl⟩ := go_eq h
  obtain rfl := pI_eq h1
  obtain rfl := pI_eq h2
  exact lv_isub (x := x) (y := y) (rest := r.map (mvv xa xe)) hx hb hd (kk.pure hW hL)
theorem s_imul (hC : Cx p R s m args meth c D cA xe A SL sx dep k) (hW : Wd D cA xe A s xa G H locs) (hL : lR xa xe ls (mMax k) L) (ho : chkE k (pc, (.imul, nx, aux), j) = true) (h : dstep SL sx dep k pc (.imul, nx, aux) L st G = some (.inl (pc', L', st', G'))) (hg : cells + (G'.length - G.length) ≤ R.cells ∧ slots + (szG G' - szG G) ≤ R.slots) (kk : KK p l e R s m args below meth c Q D cA xe A k xa G cells slots pc' L' st' G') : W p l e R s m args below meth c H locs cells slots Q (F0 m pc ls (st.map (mvv xa xe))) := by
  obtain ⟨⟨hx, hb, hr, hlk, hml, hown, hts, hin⟩, hK, hE, hA, hR, hxe⟩ := id hC
  obtain ⟨hd, rfl, hq⟩ := ckd (fun _ => rfl) ho
  rw [dq_imul] at h
  obtain ⟨⟨y, r1⟩, h1, h⟩ := Option.bind_eq_some_iff.mp h
  obtain ⟨⟨x, r⟩, h2, h⟩ := Option.bind_eq_some_iff.mp h
  obtain ⟨rfl, rfl, rfl, rfl⟩ := go_eq h
  obtain rfl := pI_eq h1
  obtain rfl := pI_eq h2
  exact lv_imul (x := x) (y := y) (rest := r.map (mvv xa xe)) hx hb hd (kk.pure hW hL)
theorem s_iand (hC : Cx p R s m args meth c D cA xe A SL sx dep k) (hW : Wd D cA xe A s xa G H locs) (hL : lR xa xe ls (mMax k) L) (ho : chkE k (pc, (.iand, nx, aux), j) = true) (h : dstep SL sx dep k pc (.iand, nx, aux) L st G = some (.inl (pc', L', st', G'))) (hg : cells + (G'.length - G.length) ≤ R.cells ∧ slots + (szG G' - szG G) ≤ R.slots) (kk : KK p l e R s m args below meth c Q D cA xe A k xa G cells slots pc' L' st' G') : W p l e R s m args below meth c H locs cells slots Q (F0 m pc ls (st.map (mvv xa xe))) := by
  obtain ⟨⟨hx, hb, hr, hlk, hml, hown, hts, hin⟩, hK, hE, hA, hR, hxe⟩ := id hC
  obtain ⟨hd, rfl, hq⟩ := ckd (fun _ => rfl) ho
  rw [dq_iand] at h
  obtain ⟨⟨y, r1⟩, h1, h⟩ := Option.bind_eq_some_iff.mp h
  obtain ⟨⟨x, r⟩, h2, h⟩ := Option.bind_eq_some_iff.mp h
  obtain ⟨rfl, rfl, rfl, rfl⟩ := go_eq h
  obtain rfl := pI_eq h1
  obtain rfl := pI_eq h2
  exact lv_iand (x := x) (y := y) (rest := r.map (mvv xa xe)) hx hb hd (kk.pure hW hL)
theorem s_ior (hC : Cx p R s m args meth c D cA xe A SL sx dep k) (hW : Wd D cA xe A s xa G H locs) (hL : lR xa xe ls (mMax k) L) (ho : chkE k (pc, (.ior, nx, aux), j) = true) (h : dstep SL sx dep k pc (.ior, nx, aux) L st G = some (.inl (pc', L', st', G'))) (hg : cells + (G'.length - G.length) ≤ R.cells ∧ slots + (szG G' - szG G) ≤ R.slots) (kk : KK p l e R s m args below meth c Q D cA xe A k xa G cells slots pc' L' st' G') : W p l e R s m args below meth c H locs cells slots Q (F0 m pc ls (st.map (mvv xa xe))) := by
  obtain ⟨⟨hx, hb, hr, hlk, hml, hown, hts, hin⟩, hK, hE, hA, hR, hxe⟩ := id hC
  obtain ⟨hd, rfl, hq⟩ := ckd (fun _ => rfl) ho
  rw [dq_ior] at h
  obtain ⟨⟨y, r1⟩, h1, h⟩ := Option.bind_eq_some_iff.mp h
  obtain ⟨⟨x, r⟩, h2, h⟩ := Option.bind_eq_some_iff.mp h
  obtain ⟨rfl, rfl, rfl, rfl⟩ := go_eq h
  obtain rfl := pI_eq h1
  obtain rfl := pI_eq h2
  exact lv_ior (x := x) (y := y) (rest := r.map (mvv xa xe)) hx hb hd (kk.pure hW hL)
theorem s_ixor (hC : Cx p R s m args meth c D cA xe A SL sx dep k) (hW : Wd D cA xe A s xa G H locs) (hL : lR xa xe ls (mMax k) L) (ho : chkE k (pc, (.ixor, nx, aux), j) = true) (h : dstep SL sx dep k pc (.ixor, nx, aux) L st G = some (.inl (pc', L', st', G'))) (hg : cells + (G'.length - G.length) ≤ R.cells ∧ slots + (szG G' - szG G) ≤ R.slots) (kk : KK p l e R s m args below meth c Q D cA xe A k xa G cells slots pc' L' st' G') : W p l e R s m args below meth c H locs cells slots Q (F0 m pc ls (st.map (mvv xa xe))) := by
  obtain ⟨⟨hx, hb, hr, hlk, hml, hown, hts, hin⟩, hK, hE, hA, hR, hxe⟩ := id hC
  obtain ⟨hd, rfl, hq⟩ := ckd (fun _ => rfl) ho
  rw [dq_ixor] at h
  obtain ⟨⟨y, r1⟩, h1, h⟩ := Option.bind_eq_some_iff.mp h
  obtain ⟨⟨x, r⟩, h2, h⟩ := Option.bind_eq_some_iff.mp h
  obtain ⟨rfl, rfl, rfl, rfl⟩ := go_eq h
  obtain rfl := pI_eq h1
  obtain rfl := pI_eq h2
  exact lv_ixor (x := x) (y := y) (rest := r.map (mvv xa xe)) hx hb hd (kk.pure hW hL)
theorem s_ishl (hC : Cx p R s m args meth c D cA xe A SL sx dep k) (hW : Wd D cA xe A s xa G H locs) (hL : lR xa xe ls (mMax k) L) (ho : chkE k (pc, (.ishl, nx, aux), j) = true) (h : dstep SL sx dep k pc (.ishl, nx, aux) L st G = some (.inl (pc', L', st', G'))) (hg : cells + (G'.length - G.length) ≤ R.cells ∧ slots + (szG G' - szG G) ≤ R.slots) (kk : KK p l e R s m args below meth c Q D cA xe A k xa G cells slots pc' L' st' G') : W p l e R s m args below meth c H locs cells slots Q (F0 m pc ls (st.map (mvv xa xe))) := by
  obtain ⟨⟨hx, hb, hr, hlk, hml, hown, hts, hin⟩, hK, hE, hA, hR, hxe⟩ := id hC
  obtain ⟨hd, rfl, hq⟩ := ckd (fun _ => rfl) ho
  rw [dq_ishl] at h
  obtain ⟨⟨y, r1⟩, h1, h⟩ := Option.bind_eq_some_iff.mp h
  obtain ⟨⟨x, r⟩, h2, h⟩ := Option.bind_eq_some_iff.mp h
  obtain ⟨rfl, rfl, rfl, rfl⟩ := go_eq h
  obtain rfl := pI_eq h1
  obtain rfl := pI_eq h2
  exact lv_ishl (x := x) (y := y) (rest := r.map (mvv xa xe)) hx hb hd (kk.pure hW hL)
theorem s_ishr (hC : Cx p R s m args meth c D cA xe A SL sx dep k) (hW : Wd D cA xe A s xa G H locs) (hL : lR xa xe ls (mMax k) L) (ho : chkE k (pc, (.ishr, nx, aux), j) = true) (h : dstep SL sx dep k pc (.ishr, nx, aux) L st G = some (.inl (pc', L', st', G'))) (hg : cells + (G'.length - G.length) ≤ R.cells ∧ slots + (szG G' - szG G) ≤ R.slots) (kk : KK p l e R s m args below meth c Q D cA xe A k xa G cells slots pc' L' st' G') : W p l e R s m args below meth c H locs cells slots Q (F0 m pc ls (st.map (mvv xa xe))) := by
  obtain ⟨⟨hx, hb, hr, hlk, hml, hown, hts, hin⟩, hK, hE, hA, hR, hxe⟩ := id hC
  obtain ⟨hd, rfl, hq⟩ := ckd (fun _ => rfl) ho
  rw [dq_ishr] at h
  obtain ⟨⟨y, r1⟩, h1, h⟩ := Option.bind_eq_some_iff.mp h
  obtain ⟨⟨x, r⟩, h2, h⟩ := Option.bind_eq_some_iff.mp h
  obtain ⟨rfl, rfl, rfl, rfl⟩ := go_eq h
  obtain rfl := pI_eq h1
  obtain rfl := pI_eq h2
  exact lv_ishr (x := x) (y := y) (rest := r.map (mvv xa xe)) hx hb hd (kk.pure hW hL)
theorem s_iushr (hC : Cx p R s m args meth c D cA xe A SL sx dep k) (hW : Wd D cA xe A s xa G H locs) (hL : lR xa xe ls (mMax k) L) (ho : chkE k (pc, (.iushr, nx, aux), j) = true) (h : dstep SL sx dep k pc (.iushr, nx, aux) L st G = some (.inl (pc', L', st', G'))) (hg : cells + (G'.length - G.length) ≤ R.cells ∧ slots + (szG G' - szG G) ≤ R.slots) (kk : KK p l e R s m args below meth c Q D cA xe A k xa G cells slots pc' L' st' G') : W p l e R s m args below meth c H locs cells slots Q (F0 m pc ls (st.map (mvv xa xe))) := by
  obtain ⟨⟨hx, hb, hr, hlk, hml, hown, hts, hin⟩, hK, hE, hA, hR, hxe⟩ := id hC
  obtain ⟨hd, rfl, hq⟩ := ckd (fun _ => rfl) ho
  rw [dq_iushr] at h
  obtain ⟨⟨y, r1⟩, h1, h⟩ := Option.bind_eq_some_iff.mp h
  obtain ⟨⟨x, r⟩, h2, h⟩ := Option.bind_eq_some_iff.mp h
  obtain ⟨rfl, rfl, rfl, rfl⟩ := go_eq h
  obtain rfl := pI_eq h1
  obtain rfl := pI_eq h2
  exact lv_iushr (x := x) (y := y) (rest := r.map (mvv xa xe)) hx hb hd rfl (kk.pure hW hL)
theorem s_idiv (hC : Cx p R s m args meth c D cA xe A SL sx dep k) (hW : Wd D cA xe A s xa G H locs) (hL : lR xa xe ls (mMax k) L) (ho : chkE k (pc, (.idiv, nx, aux), j) = true) (h : dstep SL sx dep k pc (.idiv, nx, aux) L st G = some (.inl (pc', L', st', G'))) (hg : cells + (G'.length - G.length) ≤ R.cells ∧ slots + (szG G' - szG G) ≤ R.slots) (kk : KK p l e R s m args below meth c Q D cA xe A k xa G cells slots pc' L' st' G') : W p l e R s m args below meth c H locs cells slots Q (F0 m pc ls (st.map (mvv xa xe))) := by
  obtain ⟨⟨hx, hb, hr, hlk, hml, hown, hts, hin⟩, hK, hE, hA, hR, hxe⟩ := id hC
  obtain ⟨hd, rfl, hq⟩ := ckd (fun _ => rfl) ho
  rw [dq_idiv] at h
  obtain ⟨⟨y, r1⟩, h1, h⟩ := Option.bind_eq_some_iff.mp h
  obtain ⟨⟨x, r⟩, h2, h⟩ := Option.bind_eq_some_iff.mp h
  obtain ⟨hb1, h⟩ := gc1_eq h
  obtain ⟨rfl, rfl, rfl, rfl⟩ := go_eq h
  obtain rfl := pI_eq h1
  obtain rfl := pI_eq h2
  exact lv_idiv (x := x) (y := y) (rest := r.map (mvv xa xe)) hx hb hd (of_decide_eq_true hb1) (kk.pure hW hL)
theorem s_irem (hC : Cx p R s m args meth c D cA xe A SL sx dep k) (hW : Wd D cA xe A s xa G H locs) (hL : lR xa xe ls (mMax k) L) (ho : chkE k (pc, (.irem, nx, aux), j) = true) (h : dstep SL sx dep k pc (.irem, nx, aux) L st G = some (.inl (pc', L', st', G'))) (hg : cells + (G'.length - G.length) ≤ R.cells ∧ slots + (szG G' - szG G) ≤ R.slots) (kk : KK p l e R s m args below meth c Q D cA xe A k xa G cells slots pc' L' st' G') : W p l e R s m args below meth c H locs cells slots Q (F0 m pc ls (st.map (mvv xa xe))) := by
  obtain ⟨⟨hx, hb, hr, hlk, hml, hown, hts, hin⟩, hK, hE, hA, hR, hxe⟩ := id hC
  obtain ⟨hd, rfl, hq⟩ := ckd (fun _ => rfl) ho
  rw [dq_irem] at h
  obtain ⟨⟨y, r1⟩, h1, h⟩ := Option.bind_eq_some_iff.mp h
  obtain ⟨⟨x, r⟩, h2, h⟩ := Option.bind_eq_some_iff.mp h
  obtain ⟨hb1, h⟩ := gc1_eq h
  obtain ⟨rfl, rfl, rfl, rfl⟩ := go_eq h
  obtain rfl := pI_eq h1
  obtain rfl := pI_eq h2
  exact lv_irem (x := x) (y := y) (rest := r.map (mvv xa xe)) hx hb hd (of_decide_eq_true hb1) (kk.pure hW hL)
theorem s_ldiv (hC : Cx p R s m args meth c D cA xe A SL sx dep k) (hW : Wd D cA xe A s xa G H locs) (hL : lR xa xe ls (mMax k) L) (ho : chkE k (pc, (.ldiv, nx, aux), j) = true) (h : dstep SL sx dep k pc (.ldiv, nx, aux) L st G = some (.inl (pc', L', st', G'))) (hg : cells + (G'.length - G.length) ≤ R.cells ∧ slots + (szG G' - szG G) ≤ R.slots) (kk : KK p l e R s m args below meth c Q D cA xe A k xa G cells slots pc' L' st' G') : W p l e R s m args below meth c H locs cells slots Q (F0 m pc ls (st.map (mvv xa xe))) := by
  obtain ⟨⟨hx, hb, hr, hlk, hml, hown, hts, hin⟩, hK, hE, hA, hR, hxe⟩ := id hC
  obtain ⟨hd, rfl, hq⟩ := ckd (fun _ => rfl) ho
  rw [dq_ldiv] at h
  obtain ⟨⟨y, r1⟩, h1, h⟩ := Option.bind_eq_some_iff.mp h
  obtain ⟨⟨x, r⟩, h2, h⟩ := Option.bind_eq_some_iff.mp h
  obtain ⟨hb1, h⟩ := gc1_eq h
  obtain ⟨rfl, rfl, rfl, rfl⟩ := go_eq h
  obtain rfl := pJ_eq h1
  obtain rfl := pJ_eq h2
  exact lv_ldiv (x := x) (y := y) (rest := r.map (mvv xa xe)) hx hb hd (of_decide_eq_true hb1) (kk.pure hW hL)
theorem s_lrem (hC : Cx p R s m args meth c D cA xe A SL sx dep k) (hW : Wd D cA xe A s xa G H locs) (hL : lR xa xe ls (mMax k) L) (ho : chkE k (pc, (.lrem, nx, aux), j) = true) (h : dstep SL sx dep k pc (.lrem, nx, aux) L st G = some (.inl (pc', L', st', G'))) (hg : cells + (G'.length - G.length) ≤ R.cells ∧ slots + (szG G' - szG G) ≤ R.slots) (kk : KK p l e R s m args below meth c Q D cA xe A k xa G cells slots pc' L' st' G') : W p l e R s m args below meth c H locs cells slots Q (F0 m pc ls (st.map (mvv xa xe))) := by
  obtain ⟨⟨hx, hb, hr, hlk, hml, hown, hts, hin⟩, hK, hE, hA, hR, hxe⟩ := id hC
  obtain ⟨hd, rfl, hq⟩ := ckd (fun _ => rfl) ho
  rw [dq_lrem] at h
  obtain ⟨⟨y, r1⟩, h1, h⟩ := Option.bind_eq_some_iff.mp h
  obtain ⟨⟨x, r⟩, h2, h⟩ := Option.bind_eq_some_iff.mp h
  obtain ⟨hb1, h⟩ := gc1_eq h
  obtain ⟨rfl, rfl, rfl, rfl⟩ := go_eq h
  obtain rfl := pJ_eq h1
  obtain rfl := pJ_eq h2
  exact lv_lrem (x := x) (y := y) (rest := r.map (mvv xa xe)) hx hb hd (of_decide_eq_true hb1) (kk.pure hW hL)
theorem s_ladd (hC : Cx p R s m args meth c D cA xe A SL sx dep k) (hW : Wd D cA xe A s xa G H locs) (hL : lR xa xe ls (mMax k) L) (ho : chkE k (pc, (.ladd, nx, aux), j) = true) (h : dstep SL sx dep k pc (.ladd, nx, aux) L st G = some (.inl (pc', L', st', G'))) (hg : cells + (G'.length - G.length) ≤ R.cells ∧ slots + (szG G' - szG G) ≤ R.slots) (kk : KK p l e R s m args below meth c Q D cA xe A k xa G cells slots pc' L' st' G') : W p l e R s m args below meth c H locs cells slots Q (F0 m pc ls (st.map (mvv xa xe))) := by
  obtain ⟨⟨hx, hb, hr, hlk, hml, hown, hts, hin⟩, hK, hE, hA, hR, hxe⟩ := id hC
  obtain ⟨hd, rfl, hq⟩ := ckd (fun _ => rfl) ho
  rw [dq_ladd] at h
  obtain ⟨⟨y, r1⟩, h1, h⟩ := Option.bind_eq_some_iff.mp h
  obtain ⟨⟨x, r⟩, h2, h⟩ := Option.bind_eq_some_iff.mp h
  obtain ⟨rfl, rfl, rfl, rfl⟩ := go_eq h
  obtain rfl := pJ_eq h1
  obtain rfl := pJ_eq h2
  exact lv_ladd (x := x) (y := y) (rest := r.map (mvv xa xe)) hx hb hd (kk.pure hW hL)
theorem s_lsub (hC : Cx p R s m args meth c D cA xe A SL sx dep k) (hW : Wd D cA xe A s xa G H locs) (hL : lR xa xe ls (mMax k) L) (ho : chkE k (pc, (.lsub, nx, aux), j) = true) (h : dstep SL sx dep k pc (.lsub, nx, aux) L st G = some (.inl (pc', L', st', G'))) (hg : cells + (G'.length - G.length) ≤ R.cells ∧ slots + (szG G' - szG G) ≤ R.slots) (kk : KK p l e R s m args below meth c Q D cA xe A k xa G cells slots pc' L' st' G') : W p l e R s m args below meth c H locs cells slots Q (F0 m pc ls (st.map (mvv xa xe))) := by
  obtain ⟨⟨hx, hb, hr, hlk, hml, hown, hts, hin⟩, hK, hE, hA, hR, hxe⟩ := id hC
  obtain ⟨hd, rfl, hq⟩ := ckd (fun _ => rfl) ho
  rw [dq_lsub] at h
  obtain ⟨⟨y, r1⟩, h1, h⟩ := Option.bind_eq_some_iff.mp h
  obtain ⟨⟨x, r⟩, h2, h⟩ := Option.bind_eq_some_iff.mp h
  obtain ⟨rfl, rfl, rfl, rfl⟩ := go_eq h
  obtain rfl := pJ_eq h1
  obtain rfl := pJ_eq h2
  exact lv_lsub (x := x) (y := y) (rest := r.map (mvv xa xe)) hx hb hd (kk.pure hW hL)
theorem s_lmul (hC : Cx p R s m args meth c D cA xe A SL sx dep k) (hW : Wd D cA xe A s xa G H locs) (hL : lR xa xe ls (mMax k) L) (ho : chkE k (pc, (.lmul, nx, aux), j) = true) (h : dstep SL sx dep k pc (.lmul, nx, aux) L st G = some (.inl (pc', L', st', G'))) (hg : cells + (G'.length - G.length) ≤ R.cells ∧ slots + (szG G' - szG G) ≤ R.slots) (kk : KK p l e R s m args below meth c Q D cA xe A k xa G cells slots pc' L' st' G') : W p l e R s m args below meth c H locs cells slots Q (F0 m pc ls (st.map (mvv xa xe))) := by
  obtain ⟨⟨hx, hb, hr, hlk, hml, hown, hts, hin⟩, hK, hE, hA, hR, hxe⟩ := id hC
  obtain ⟨hd, rfl, hq⟩ := ckd (fun _ => rfl) ho
  rw [dq_lmul] at h
  obtain ⟨⟨y, r1⟩, h1, h⟩ := Option.bind_eq_some_iff.mp h
  obtain ⟨⟨x, r⟩, h2, h⟩ := Option.bind_eq_some_iff.mp h
  obtain ⟨rfl, rfl, rfl, rfl⟩ := go_eq h
  obtain rfl := pJ_eq h1
  obtain rfl := pJ_eq h2
  exact lv_lmul (x := x) (y := y) (rest := r.map (mvv xa xe)) hx hb hd (kk.pure hW hL)
theorem s_lcmp (hC : Cx p R s m args meth c D cA xe A SL sx dep k) (hW : Wd D cA xe A s xa G H locs) (hL : lR xa xe ls (mMax k) L) (ho : chkE k (pc, (.lcmp, nx, aux), j) = true) (h : dstep SL sx dep k pc (.lcmp, nx, aux) L st G = some (.inl (pc', L', st', G'))) (hg : cells + (G'.length - G.length) ≤ R.cells ∧ slots + (szG G' - szG G) ≤ R.slots) (kk : KK p l e R s m args below meth c Q D cA xe A k xa G cells slots pc' L' st' G') : W p l e R s m args below meth c H locs cells slots Q (F0 m pc ls (st.map (mvv xa xe))) := by
  obtain ⟨⟨hx, hb, hr, hlk, hml, hown, hts, hin⟩, hK, hE, hA, hR, hxe⟩ := id hC
  obtain ⟨hd, rfl, hq⟩ := ckd (fun _ => rfl) ho
  rw [dq_lcmp] at h
  obtain ⟨⟨y, r1⟩, h1, h⟩ := Option.bind_eq_some_iff.mp h
  obtain ⟨⟨x, r⟩, h2, h⟩ := Option.bind_eq_some_iff.mp h
  obtain ⟨rfl, rfl, rfl, rfl⟩ := go_eq h
  obtain rfl := pJ_eq h1
  obtain rfl := pJ_eq h2
  exact W.lcmp (x := x) (y := y) (rest := r.map (mvv xa xe)) hx hb hd (kk.pure hW hL)
theorem s_ineg (hC : Cx p R s m args meth c D cA xe A SL sx dep k) (hW : Wd D cA xe A s xa G H locs) (hL : lR xa xe ls (mMax k) L) (ho : chkE k (pc, (.ineg, nx, aux), j) = true) (h : dstep SL sx dep k pc (.ineg, nx, aux) L st G = some (.inl (pc', L', st', G'))) (hg : cells + (G'.length - G.length) ≤ R.cells ∧ slots + (szG G' - szG G) ≤ R.slots) (kk : KK p l e R s m args below meth c Q D cA xe A k xa G cells slots pc' L' st' G') : W p l e R s m args below meth c H locs cells slots Q (F0 m pc ls (st.map (mvv xa xe))) := by
  obtain ⟨⟨hx, hb, hr, hlk, hml, hown, hts, hin⟩, hK, hE, hA, hR, hxe⟩ := id hC
  obtain ⟨hd, rfl, hq⟩ := ckd (fun _ => rfl) ho
  rw [dq_ineg] at h
  obtain ⟨⟨x, r⟩, h1, h⟩ := Option.bind_eq_some_iff.mp h
  obtain ⟨rfl, rfl, rfl, rfl⟩ := go_eq h
  obtain rfl := pI_eq h1
  exact lv_ineg (x := x) (rest := r.map (mvv xa xe)) hx hb hd (kk.pure hW hL)
theorem s_lneg (hC : Cx p R s m args meth c D cA xe A SL sx dep k) (hW : Wd D cA xe A s xa G H locs) (hL : lR xa xe ls (mMax k) L) (ho : chkE k (pc, (.lneg, nx, aux), j) = true) (h : dstep SL sx dep k pc (.lneg, nx, aux) L st G = some (.inl (pc', L', st', G'))) (hg : cells + (G'.length - G.length) ≤ R.cells ∧ slots + (szG G' - szG G) ≤ R.slots) (kk : KK p l e R s m args below meth c Q D cA xe A k xa G cells slots pc' L' st' G') : W p l e R s m args below meth c H locs cells slots Q (F0 m pc ls (st.map (mvv xa xe))) := by
  obtain ⟨⟨hx, hb, hr, hlk, hml, hown, hts, hin⟩, hK, hE, hA, hR, hxe⟩ := id hC
  obtain ⟨hd, rfl, hq⟩ := ckd (fun _ => rfl) ho
  rw [dq_lneg] at h
  obtain ⟨⟨x, r⟩, h1, h⟩ := Option.bind_eq_some_iff.mp h
  obtain ⟨rfl, rfl, rfl, rfl⟩ := go_eq h
  obtain rfl := pJ_eq h1
  exact lv_lneg (x := x) (rest := r.map (mvv xa xe)) hx hb hd (kk.pure hW hL)
theorem s_i2l (hC : Cx p R s m args meth c D cA xe A SL sx dep k) (hW : Wd D cA xe A s xa G H locs) (hL : lR xa xe ls (mMax k) L) (ho : chkE k (pc, (.i2l, nx, aux), j) = true) (h : dstep SL sx dep k pc (.i2l, nx, aux) L st G = some (.inl (pc', L', st', G'))) (hg : cells + (G'.length - G.length) ≤ R.cells ∧ slots + (szG G' - szG G) ≤ R.slots) (kk : KK p l e R s m args below meth c Q D cA xe A k xa G cells slots pc' L' st' G') : W p l e R s m args below meth c H locs cells slots Q (F0 m pc ls (st.map (mvv xa xe))) := by
  obtain ⟨⟨hx, hb, hr, hlk, hml, hown, hts, hin⟩, hK, hE, hA, hR, hxe⟩ := id hC
  obtain ⟨hd, rfl, hq⟩ := ckd (fun _ => rfl) ho
  rw [dq_i2l] at h
  obtain ⟨⟨x, r⟩, h1, h⟩ := Option.bind_eq_some_iff.mp h
  obtain ⟨rfl, rfl, rfl, rfl⟩ := go_eq h
  obtain rfl := pI_eq h1
  exact lv_i2l (x := x) (rest := r.map (mvv xa xe)) hx hb hd rfl (kk.pure hW hL)
theorem s_l2i (hC : Cx p R s m args meth c D cA xe A SL sx dep k) (hW : Wd D cA xe A s xa G H locs) (hL : lR xa xe ls (mMax k) L) (ho : chkE k (pc, (.l2i, nx, aux), j) = true) (h : dstep SL sx dep k pc (.l2i, nx, aux) L st G = some (.inl (pc', L', st', G'))) (hg : cells + (G'.length - G.length) ≤ R.cells ∧ slots + (szG G' - szG G) ≤ R.slots) (kk : KK p l e R s m args below meth c Q D cA xe A k xa G cells slots pc' L' st' G') : W p l e R s m args below meth c H locs cells slots Q (F0 m pc ls (st.map (mvv xa xe))) := by
  obtain ⟨⟨hx, hb, hr, hlk, hml, hown, hts, hin⟩, hK, hE, hA, hR, hxe⟩ := id hC
  obtain ⟨hd, rfl, hq⟩ := ckd (fun _ => rfl) ho
  rw [dq_l2i] at h
  obtain ⟨⟨x, r⟩, h1, h⟩ := Option.bind_eq_some_iff.mp h
  obtain ⟨rfl, rfl, rfl, rfl⟩ := go_eq h
  obtain rfl := pJ_eq h1
  exact lv_l2i (x := x) (rest := r.map (mvv xa xe)) hx hb hd rfl (kk.pure hW hL)
theorem s_i2b (hC : Cx p R s m args meth c D cA xe A SL sx dep k) (hW : Wd D cA xe A s xa G H locs) (hL : lR xa xe ls (mMax k) L) (ho : chkE k (pc, (.i2b, nx, aux), j) = true) (h : dstep SL sx dep k pc (.i2b, nx, aux) L st G = some (.inl (pc', L', st', G'))) (hg : cells + (G'.length - G.length) ≤ R.cells ∧ slots + (szG G' - szG G) ≤ R.slots) (kk : KK p l e R s m args below meth c Q D cA xe A k xa G cells slots pc' L' st' G') : W p l e R s m args below meth c H locs cells slots Q (F0 m pc ls (st.map (mvv xa xe))) := by
  obtain ⟨⟨hx, hb, hr, hlk, hml, hown, hts, hin⟩, hK, hE, hA, hR, hxe⟩ := id hC
  obtain ⟨hd, rfl, hq⟩ := ckd (fun _ => rfl) ho
  rw [dq_i2b] at h
  obtain ⟨⟨x, r⟩, h1, h⟩ := Option.bind_eq_some_iff.mp h
  obtain ⟨rfl, rfl, rfl, rfl⟩ := go_eq h
  obtain rfl := pI_eq h1
  exact lv_i2b (x := x) (rest := r.map (mvv xa xe)) hx hb hd rfl (kk.pure hW hL)
theorem s_i2c (hC : Cx p R s m args meth c D cA xe A SL sx dep k) (hW : Wd D cA xe A s xa G H locs) (hL : lR xa xe ls (mMax k) L) (ho : chkE k (pc, (.i2c, nx, aux), j) = true) (h : dstep SL sx dep k pc (.i2c, nx, aux) L st G = some (.inl (pc', L', st', G'))) (hg : cells + (G'.length - G.length) ≤ R.cells ∧ slots + (szG G' - szG G) ≤ R.slots) (kk : KK p l e R s m args below meth c Q D cA xe A k xa G cells slots pc' L' st' G') : W p l e R s m args below meth c H locs cells slots Q (F0 m pc ls (st.map (mvv xa xe))) := by
  obtain ⟨⟨hx, hb, hr, hlk, hml, hown, hts, hin⟩, hK, hE, hA, hR, hxe⟩ := id hC
  obtain ⟨hd, rfl, hq⟩ := ckd (fun _ => rfl) ho
  rw [dq_i2c] at h
  obtain ⟨⟨x, r⟩, h1, h⟩ := Option.bind_eq_some_iff.mp h
  obtain ⟨rfl, rfl, rfl, rfl⟩ := go_eq h
  obtain rfl := pI_eq h1
  exact lv_i2c (x := x) (rest := r.map (mvv xa xe)) hx hb hd rfl (kk.pure hW hL)
theorem s_dup (hC : Cx p R s m args meth c D cA xe A SL sx dep k) (hW : Wd D cA xe A s xa G H locs) (hL : lR xa xe ls (mMax k) L) (ho : chkE k (pc, (.dup, nx, aux), j) = true) (h : dstep SL sx dep k pc (.dup, nx, aux) L st G = some (.inl (pc', L', st', G'))) (hg : cells + (G'.length - G.length) ≤ R.cells ∧ slots + (szG G' - szG G) ≤ R.slots) (kk : KK p l e R s m args below meth c Q D cA xe A k xa G cells slots pc' L' st' G') : W p l e R s m args below meth c H locs cells slots Q (F0 m pc ls (st.map (mvv xa xe))) := by
  obtain ⟨⟨hx, hb, hr, hlk, hml, hown, hts, hin⟩, hK, hE, hA, hR, hxe⟩ := id hC
  obtain ⟨hd, rfl, hq⟩ := ckd (fun _ => rfl) ho
  rw [dq_dup] at h
  rcases st with _ | ⟨v, r⟩
  · cases h
  obtain ⟨hb1, h⟩ := gc1_eq h
  obtain ⟨rfl, rfl, rfl, rfl⟩ := go_eq h
  exact lv_dup (va := mvv xa xe v) (rest := r.map (mvv xa xe)) hx hb hd (by rw [mvv_cat hxe]; exact Nat.eq_of_beq_eq_true hb1) (kk.pure hW hL)
theorem s_pop (hC : Cx p R s m args meth c D cA xe A SL sx dep k) (hW : Wd D cA xe A s xa G H locs) (hL : lR xa xe ls (mMax k) L) (ho : chkE k (pc, (.pop, nx, aux), j) = true) (h : dstep SL sx dep k pc (.pop, nx, aux) L st G = some (.inl (pc', L', st', G'))) (hg : cells + (G'.length - G.length) ≤ R.cells ∧ slots + (szG G' - szG G) ≤ R.slots) (kk : KK p l e R s m args below meth c Q D cA xe A k xa G cells slots pc' L' st' G') : W p l e R s m args below meth c H locs cells slots Q (F0 m pc ls (st.map (mvv xa xe))) := by
  obtain ⟨⟨hx, hb, hr, hlk, hml, hown, hts, hin⟩, hK, hE, hA, hR, hxe⟩ := id hC
  obtain ⟨hd, rfl, hq⟩ := ckd (fun _ => rfl) ho
  rw [dq_pop] at h
  rcases st with _ | ⟨v, r⟩
  · cases h
  obtain ⟨hb1, h⟩ := gc1_eq h
  obtain ⟨rfl, rfl, rfl, rfl⟩ := go_eq h
  exact lv_pop (va := mvv xa xe v) (rest := r.map (mvv xa xe)) hx hb hd (by rw [mvv_cat hxe]; exact Nat.eq_of_beq_eq_true hb1) (kk.pure hW hL)
theorem s_dup2 (hC : Cx p R s m args meth c D cA xe A SL sx dep k) (hW : Wd D cA xe A s xa G H locs) (hL : lR xa xe ls (mMax k) L) (ho : chkE k (pc, (.dup2, nx, aux), j) = true) (h : dstep SL sx dep k pc (.dup2, nx, aux) L st G = some (.inl (pc', L', st', G'))) (hg : cells + (G'.length - G.length) ≤ R.cells ∧ slots + (szG G' - szG G) ≤ R.slots) (kk : KK p l e R s m args below meth c Q D cA xe A k xa G cells slots pc' L' st' G') : W p l e R s m args below meth c H locs cells slots Q (F0 m pc ls (st.map (mvv xa xe))) := by
  obtain ⟨⟨hx, hb, hr, hlk, hml, hown, hts, hin⟩, hK, hE, hA, hR, hxe⟩ := id hC
  obtain ⟨hd, rfl, hq⟩ := ckd (fun _ => rfl) ho
  rw [dq_dup2] at h
  rcases st with _ | ⟨v, _ | ⟨w, r⟩⟩
  · cases h
  · cases h
  obtain ⟨hb1, h⟩ := gc1_eq h
  obtain ⟨rfl, rfl, rfl, rfl⟩ := go_eq h
  rw [Bool.and_eq_true] at hb1
  exact lv_dup2_11 (va := mvv xa xe v) (vb := mvv xa xe w) (rest := r.map (mvv xa xe)) hx hb hd (by rw [mvv_cat hxe]; exact Nat.eq_of_beq_eq_true hb1.1) (by rw [mvv_cat hxe]; exact Nat.eq_of_beq_eq_true hb1.2) (kk.pure hW hL)
theorem s_if_eq {o : Int} (hC : Cx p R s m args meth c D cA xe A SL sx dep k) (hW : Wd D cA xe A s xa G H locs) (hL : lR xa xe ls (mMax k) L) (ho : chkE k (pc, (.ifCond .eq o, nx, aux), j) = true) (h : dstep SL sx dep k pc (.ifCond .eq o, nx, aux) L st G = some (.inl (pc', L', st', G'))) (hg : cells + (G'.length - G.length) ≤ R.cells ∧ slots + (szG G' - szG G) ≤ R.slots) (kk : KK p l e R s m args below meth c Q D cA xe A k xa G cells slots pc' L' st' G') : W p l e R s m args below meth c H locs cells slots Q (F0 m pc ls (st.map (mvv xa xe))) := by
  obtain ⟨⟨hx, hb, hr, hlk, hml, hown, hts, hin⟩, hK, hE, hA, hR, hxe⟩ := id hC
  obtain ⟨hd, rfl, hq⟩ := ckd (fun _ => rfl) ho
  rw [dq_ifCond] at h
  obtain ⟨⟨x, r⟩, h1, h⟩ := Option.bind_eq_some_iff.mp h
  simp only [Option.some.injEq, Sum.inl.injEq, Prod.mk.injEq] at h
  obtain ⟨rfl, rfl, rfl, rfl⟩ := h
  obtain rfl := pI_eq h1
  refine lv_if_eq (x := x) (rest := r.map (mvv xa xe)) (tgt := aux) hx hb hd (of_decide_eq_true hq) (fun hc => ?_) (fun hc => ?_)
  · rw [show cnd .eq x 0 = true from decide_eq_true hc, bte] at kk
    exact kk.pure hW hL
  · rw [show cnd .eq x 0 = false from by simp only [cnd, decide_eq_false_iff_not]; first | exact hc | exact fun q => q hc, bfe] at kk
    exact kk.pure hW hL
theorem s_icmp_eq {o : Int} (hC : Cx p R s m args meth c D cA xe A SL sx dep k) (hW : Wd D cA xe A s xa G H locs) (hL : lR xa xe ls (mMax k) L) (ho : chkE k (pc, (.if_icmp .eq o, nx, aux), j) = true) (h : dstep SL sx dep k pc (.if_icmp .eq o, nx, aux) L st G = some (.inl (pc', L', st', G'))) (hg : cells + (G'.length - G.length) ≤ R.cells ∧ slots + (szG G' - szG G) ≤ R.slots) (kk : KK p l e R s m args below meth c Q D cA xe A k xa G cells slots pc' L' st' G') : W p l e R s m args below meth c H locs cells slots Q (F0 m pc ls (st.map (mvv xa xe))) := by
  obtain ⟨⟨hx, hb, hr, hlk, hml, hown, hts, hin⟩, hK, hE, hA, hR, hxe⟩ := id hC
  obtain ⟨hd, rfl, hq⟩ := ckd (fun _ => rfl) ho
  rw [dq_if_icmp] at h
  obtain ⟨⟨y, r1⟩, h1, h⟩ := Option.bind_eq_some_iff.mp h
  obtain ⟨⟨x, r⟩, h2, h⟩ := Option.bind_eq_some_iff.mp h
  simp only [Option.some.injEq, Sum.inl.injEq, Prod.mk.injEq] at h
  obtain ⟨rfl, rfl, rfl, rfl⟩ := h
  obtain rfl := pI_eq h1
  obtain rfl := pI_eq h2
  refine lv_icmp_eq (x := x) (y := y) (rest := r.map (mvv xa xe)) (tgt := aux) hx hb hd (of_decide_eq_true hq) (fun hc => ?_) (fun hc => ?_)
  · rw [show cnd .eq x y = true from decide_eq_true hc, bte] at kk
    exact kk.pure hW hL
  · rw [show cnd .eq x y = false from by simp only [cnd, decide_eq_false_iff_not]; first | exact hc | exact fun q => q hc, bfe] at kk
    exact kk.pure hW hL
theorem s_if_ne {o : Int} (hC : Cx p R s m args meth c D cA xe A SL sx dep k) (hW : Wd D cA xe A s xa G H locs) (hL : lR xa xe ls (mMax k) L) (ho : chkE k (pc, (.ifCond .ne o, nx, aux), j) = true) (h : dstep SL sx dep k pc (.ifCond .ne o, nx, aux) L st G = some (.inl (pc', L', st', G'))) (hg : cells + (G'.length - G.length) ≤ R.cells ∧ slots + (szG G' - szG G) ≤ R.slots) (kk : KK p l e R s m args below meth c Q D cA xe A k xa G cells slots pc' L' st' G') : W p l e R s m args below meth c H locs cells slots Q (F0 m pc ls (st.map (mvv xa xe))) := by
  obtain ⟨⟨hx, hb, hr, hlk, hml, hown, hts, hin⟩, hK, hE, hA, hR, hxe⟩ := id hC
  obtain ⟨hd, rfl, hq⟩ := ckd (fun _ => rfl) ho
  rw [dq_ifCond] at h
  obtain ⟨⟨x, r⟩, h1, h⟩ := Option.bind_eq_some_iff.mp h
  simp only [Option.some.injEq, Sum.inl.injEq, Prod.mk.injEq] at h
  obtain ⟨rfl, rfl, rfl, rfl⟩ := h
  obtain rfl := pI_eq h1
  refine lv_if_ne (x := x) (rest := r.map (mvv xa xe)) (tgt := aux) hx hb hd (of_decide_eq_true hq) (fun hc => ?_) (fun hc => ?_)
  · rw [show cnd .ne x 0 = true from decide_eq_true hc, bte] at kk
    exact kk.pure hW hL
  · rw [show cnd .ne x 0 = false from by simp only [cnd, decide_eq_false_iff_not]; first | exact hc | exact fun q => q hc, bfe] at kk
    exact kk.pure hW hL
theorem s_icmp_ne {o : Int} (hC : Cx p R s m args meth c D cA xe A SL sx dep k) (hW : Wd D cA xe A s xa G H locs) (hL : lR xa xe ls (mMax k) L) (ho : chkE k (pc, (.if_icmp .ne o, nx, aux), j) = true) (h : dstep SL sx dep k pc (.if_icmp .ne o, nx, aux) L st G = some (.inl (pc', L', st', G'))) (hg : cells + (G'.length - G.length) ≤ R.cells ∧ slots + (szG G' - szG G) ≤ R.slots) (kk : KK p l e R s m args below meth c Q D cA xe A k xa G cells slots pc' L' st' G') : W p l e R s m args below meth c H locs cells slots Q (F0 m pc ls (st.map (mvv xa xe))) := by
  obtain ⟨⟨hx, hb, hr, hlk, hml, hown, hts, hin⟩, hK, hE, hA, hR, hxe⟩ := id hC
  obtain ⟨hd, rfl, hq⟩ := ckd (fun _ => rfl) ho
  rw [dq_if_icmp] at h
  obtain ⟨⟨y, r1⟩, h1, h⟩ := Option.bind_eq_some_iff.mp h
  obtain ⟨⟨x, r⟩, h2, h⟩ := Option.bind_eq_some_iff.mp h
  simp only [Option.some.injEq, Sum.inl.injEq, Prod.mk.injEq] at h
  obtain ⟨rfl, rfl, rfl, rfl⟩ := h
  obtain rfl := pI_eq h1
  obtain rfl := pI_eq h2
  refine lv_icmp_ne (x := x) (y := y) (rest := r.map (mvv xa xe)) (tgt := aux) hx hb hd (of_decide_eq_true hq) (fun hc => ?_) (fun hc => ?_)
  · rw [show cnd .ne x y = true from decide_eq_true hc, bte] at kk
    exact kk.pure hW hL
  · rw [show cnd .ne x y = false from by simp only [cnd, decide_eq_false_iff_not]; first | exact hc | exact fun q => q hc, bfe] at kk
    exact kk.pure hW hL
theorem s_if_lt {o : Int} (hC : Cx p R s m args meth c D cA xe A SL sx dep k) (hW : Wd D cA xe A s xa G H locs) (hL : lR xa xe ls (mMax k) L) (ho : chkE k (pc, (.ifCond .lt o, nx, aux), j) = true) (h : dstep SL sx dep k pc (.ifCond .lt o, nx, aux) L st G = some (.inl (pc', L', st', G'))) (hg : cells + (G'.length - G.length) ≤ R.cells ∧ slots + (szG G' - szG G) ≤ R.slots) (kk : KK p l e R s m args below meth c Q D cA xe A k xa G cells slots pc' L' st' G') : W p l e R s m args below meth c H locs cells slots Q (F0 m pc ls (st.map (mvv xa xe))) := by
  obtain ⟨⟨hx, hb, hr, hlk, hml, hown, hts, hin⟩, hK, hE, hA, hR, hxe⟩ := id hC
  obtain ⟨hd, rfl, hq⟩ := ckd (fun _ => rfl) ho
  rw [dq_ifCond] at h
  obtain ⟨⟨x, r⟩, h1, h⟩ := Option.bind_eq_some_iff.mp h
  simp only [Option.some.injEq, Sum.inl.injEq, Prod.mk.injEq] at h
  obtain ⟨rfl, rfl, rfl, rfl⟩ := h
  obtain rfl := pI_eq h1
  refine lv_if_lt (x := x) (rest := r.map (mvv xa xe)) (tgt := aux) hx hb hd (of_decide_eq_true hq) (fun hc => ?_) (fun hc => ?_)
  · rw [show cnd .lt x 0 = true from decide_eq_true hc, bte] at kk
    exact kk.pure hW hL
  · rw [show cnd .lt x 0 = false from by simp only [cnd, decide_eq_false_iff_not]; first | exact hc | exact fun q => q hc, bfe] at kk
    exact kk.pure hW hL
theorem s_icmp_lt {o : Int} (hC : Cx p R s m args meth c D cA xe A SL sx dep k) (hW : Wd D cA xe A s xa G H locs) (hL : lR xa xe ls (mMax k) L) (ho : chkE k (pc, (.if_icmp .lt o, nx, aux), j) = true) (h : dstep SL sx dep k pc (.if_icmp .lt o, nx, aux) L st G = some (.inl (pc', L', st', G'))) (hg : cells + (G'.length - G.length) ≤ R.cells ∧ slots + (szG G' - szG G) ≤ R.slots) (kk : KK p l e R s m args below meth c Q D cA xe A k xa G cells slots pc' L' st' G') : W p l e R s m args below meth c H locs cells slots Q (F0 m pc ls (st.map (mvv xa xe))) := by
  obtain ⟨⟨hx, hb, hr, hlk, hml, hown, hts, hin⟩, hK, hE, hA, hR, hxe⟩ := id hC
  obtain ⟨hd, rfl, hq⟩ := ckd (fun _ => rfl) ho
  rw [dq_if_icmp] at h
  obtain ⟨⟨y, r1⟩, h1, h⟩ := Option.bind_eq_some_iff.mp h
  obtain ⟨⟨x, r⟩, h2, h⟩ := Option.bind_eq_some_iff.mp h
  simp only [Option.some.injEq, Sum.inl.injEq, Prod.mk.injEq] at h
  obtain ⟨rfl, rfl, rfl, rfl⟩ := h
  obtain rfl := pI_eq h1
  obtain rfl := pI_eq h2
  refine lv_icmp_lt (x := x) (y := y) (rest := r.map (mvv xa xe)) (tgt := aux) hx hb hd (of_decide_eq_true hq) (fun hc => ?_) (fun hc => ?_)
  · rw [show cnd .lt x y = true from decide_eq_true hc, bte] at kk
    exact kk.pure hW hL
  · rw [show cnd .lt x y = false from by simp only [cnd, decide_eq_false_iff_not]; first | exact hc | exact fun q => q hc, bfe] at kk
    exact kk.pure hW hL
theorem s_if_ge {o : Int} (hC : Cx p R s m args meth c D cA xe A SL sx dep k) (hW : Wd D cA xe A s xa G H locs) (hL : lR xa xe ls (mMax k) L) (ho : chkE k (pc, (.ifCond .ge o, nx, aux), j) = true) (h : dstep SL sx dep k pc (.ifCond .ge o, nx, aux) L st G = some (.inl (pc', L', st', G'))) (hg : cells + (G'.length - G.length) ≤ R.cells ∧ slots + (szG G' - szG G) ≤ R.slots) (kk : KK p l e R s m args below meth c Q D cA xe A k xa G cells slots pc' L' st' G') : W p l e R s m args below meth c H locs cells slots Q (F0 m pc ls (st.map (mvv xa xe))) := by
  obtain ⟨⟨hx, hb, hr, hlk, hml, hown, hts, hin⟩, hK, hE, hA, hR, hxe⟩ := id hC
  obtain ⟨hd, rfl, hq⟩ := ckd (fun _ => rfl) ho
  rw [dq_ifCond] at h
  obtain ⟨⟨x, r⟩, h1, h⟩ := Option.bind_eq_some_iff.mp h
  simp only [Option.some.injEq, Sum.inl.injEq, Prod.mk.injEq] at h
  obtain ⟨rfl, rfl, rfl, rfl⟩ := h
  obtain rfl := pI_eq h1
  refine lv_if_ge (x := x) (rest := r.map (mvv xa xe)) (tgt := aux) hx hb hd (of_decide_eq_true hq) (fun hc => ?_) (fun hc => ?_)
  · rw [show cnd .ge x 0 = true from decide_eq_true hc, bte] at kk
    exact kk.pure hW hL
  · rw [show cnd .ge x 0 = false from by simp only [cnd, decide_eq_false_iff_not]; first | exact hc | exact fun q => q hc, bfe] at kk
    exact kk.pure hW hL
theorem s_icmp_ge {o : Int} (hC : Cx p R s m args meth c D cA xe A SL sx dep k) (hW : Wd D cA xe A s xa G H locs) (hL : lR xa xe ls (mMax k) L) (ho : chkE k (pc, (.if_icmp .ge o, nx, aux), j) = true) (h : dstep SL sx dep k pc (.if_icmp .ge o, nx, aux) L st G = some (.inl (pc', L', st', G'))) (hg : cells + (G'.length - G.length) ≤ R.cells ∧ slots + (szG G' - szG G) ≤ R.slots) (kk : KK p l e R s m args below meth c Q D cA xe A k xa G cells slots pc' L' st' G') : W p l e R s m args below meth c H locs cells slots Q (F0 m pc ls (st.map (mvv xa xe))) := by
  obtain ⟨⟨hx, hb, hr, hlk, hml, hown, hts, hin⟩, hK, hE, hA, hR, hxe⟩ := id hC
  obtain ⟨hd, rfl, hq⟩ := ckd (fun _ => rfl) ho
  rw [dq_if_icmp] at h
  obtain ⟨⟨y, r1⟩, h1, h⟩ := Option.bind_eq_some_iff.mp h
  obtain ⟨⟨x, r⟩, h2, h⟩ := Option.bind_eq_some_iff.mp h
  simp only [Option.some.injEq, Sum.inl.injEq, Prod.mk.injEq] at h
  obtain ⟨rfl, rfl, rfl, rfl⟩ := h
  obtain rfl := pI_eq h1
  obtain rfl := pI_eq h2
  refine lv_icmp_ge (x := x) (y := y) (rest := r.map (mvv xa xe)) (tgt := aux) hx hb hd (of_decide_eq_true hq) (fun hc => ?_) (fun hc => ?_)
  · rw [show cnd .ge x y = true from decide_eq_true hc, bte] at kk
    exact kk.pure hW hL
  · rw [show cnd .ge x y = false from by simp only [cnd, decide_eq_false_iff_not]; first | exact hc | exact fun q => q hc, bfe] at kk
    exact kk.pure hW hL
theorem s_if_gt {o : Int} (hC : Cx p R s m args meth c D cA xe A SL sx dep k) (hW : Wd D cA xe A s xa G H locs) (hL : lR xa xe ls (mMax k) L) (ho : chkE k (pc, (.ifCond .gt o, nx, aux), j) = true) (h : dstep SL sx dep k pc (.ifCond .gt o, nx, aux) L st G = some (.inl (pc', L', st', G'))) (hg : cells + (G'.length - G.length) ≤ R.cells ∧ slots + (szG G' - szG G) ≤ R.slots) (kk : KK p l e R s m args below meth c Q D cA xe A k xa G cells slots pc' L' st' G') : W p l e R s m args below meth c H locs cells slots Q (F0 m pc ls (st.map (mvv xa xe))) := by
  obtain ⟨⟨hx, hb, hr, hlk, hml, hown, hts, hin⟩, hK, hE, hA, hR, hxe⟩ := id hC
  obtain ⟨hd, rfl, hq⟩ := ckd (fun _ => rfl) ho
  rw [dq_ifCond] at h
  obtain ⟨⟨x, r⟩, h1, h⟩ := Option.bind_eq_some_iff.mp h
  simp only [Option.some.injEq, Sum.inl.injEq, Prod.mk.injEq] at h
  obtain ⟨rfl, rfl, rfl, rfl⟩ := h
  obtain rfl := pI_eq h1
  refine lv_if_gt (x := x) (rest := r.map (mvv xa xe)) (tgt := aux) hx hb hd (of_decide_eq_true hq) (fun hc => ?_) (fun hc => ?_)
  · rw [show cnd .gt x 0 = true from decide_eq_true hc, bte] at kk
    exact kk.pure hW hL
  · rw [show cnd .gt x 0 = false from by simp only [cnd, decide_eq_false_iff_not]; first | exact hc | exact fun q => q hc, bfe] at kk
    exact kk.pure hW hL
theorem s_icmp_gt {o : Int} (hC : Cx p R s m args meth c D cA xe A SL sx dep k) (hW : Wd D cA xe A s xa G H locs) (hL : lR xa xe ls (mMax k) L) (ho : chkE k (pc, (.if_icmp .gt o, nx, aux), j) = true) (h : dstep SL sx dep k pc (.if_icmp .gt o, nx, aux) L st G = some (.inl (pc', L', st', G'))) (hg : cells + (G'.length - G.length) ≤ R.cells ∧ slots + (szG G' - szG G) ≤ R.slots) (kk : KK p l e R s m args below meth c Q D cA xe A k xa G cells slots pc' L' st' G') : W p l e R s m args below meth c H locs cells slots Q (F0 m pc ls (st.map (mvv xa xe))) := by
  obtain ⟨⟨hx, hb, hr, hlk, hml, hown, hts, hin⟩, hK, hE, hA, hR, hxe⟩ := id hC
  obtain ⟨hd, rfl, hq⟩ := ckd (fun _ => rfl) ho
  rw [dq_if_icmp] at h
  obtain ⟨⟨y, r1⟩, h1, h⟩ := Option.bind_eq_some_iff.mp h
  obtain ⟨⟨x, r⟩, h2, h⟩ := Option.bind_eq_some_iff.mp h
  simp only [Option.some.injEq, Sum.inl.injEq, Prod.mk.injEq] at h
  obtain ⟨rfl, rfl, rfl, rfl⟩ := h
  obtain rfl := pI_eq h1
  obtain rfl := pI_eq h2
  refine lv_icmp_gt (x := x) (y := y) (rest := r.map (mvv xa xe)) (tgt := aux) hx hb hd (of_decide_eq_true hq) (fun hc => ?_) (fun hc => ?_)
  · rw [show cnd .gt x y = true from decide_eq_true hc, bte] at kk
    exact kk.pure hW hL
  · rw [show cnd .gt x y = false from by simp only [cnd, decide_eq_false_iff_not]; first | exact hc | exact fun q => q hc, bfe] at kk
    exact kk.pure hW hL
theorem s_if_le {o : Int} (hC : Cx p R s m args meth c D cA xe A SL sx dep k) (hW : Wd D cA xe A s xa G H locs) (hL : lR xa xe ls (mMax k) L) (ho : chkE k (pc, (.ifCond .le o, nx, aux), j) = true) (h : dstep SL sx dep k pc (.ifCond .le o, nx, aux) L st G = some (.inl (pc', L', st', G'))) (hg : cells + (G'.length - G.length) ≤ R.cells ∧ slots + (szG G' - szG G) ≤ R.slots) (kk : KK p l e R s m args below meth c Q D cA xe A k xa G cells slots pc' L' st' G') : W p l e R s m args below meth c H locs cells slots Q (F0 m pc ls (st.map (mvv xa xe))) := by
  obtain ⟨⟨hx, hb, hr, hlk, hml, hown, hts, hin⟩, hK, hE, hA, hR, hxe⟩ := id hC
  obtain ⟨hd, rfl, hq⟩ := ckd (fun _ => rfl) ho
  rw [dq_ifCond] at h
  obtain ⟨⟨x, r⟩, h1, h⟩ := Option.bind_eq_some_iff.mp h
  simp only [Option.some.injEq, Sum.inl.injEq, Prod.mk.injEq] at h
  obtain ⟨rfl, rfl, rfl, rfl⟩ := h
  obtain rfl := pI_eq h1
  refine lv_if_le (x := x) (rest := r.map (mvv xa xe)) (tgt := aux) hx hb hd (of_decide_eq_true hq) (fun hc => ?_) (fun hc => ?_)
  · rw [show cnd .le x 0 = true from decide_eq_true hc, bte] at kk
    exact kk.pure hW hL
  · rw [show cnd .le x 0 = false from by simp only [cnd, decide_eq_false_iff_not]; first | exact hc | exact fun q => q hc, bfe] at kk
    exact kk.pure hW hL
theorem s_icmp_le {o : Int} (hC : Cx p R s m args meth c D cA xe A SL sx dep k) (hW : Wd D cA xe A s xa G H locs) (hL : lR xa xe ls (mMax k) L) (ho : chkE k (pc, (.if_icmp .le o, nx, aux), j) = true) (h : dstep SL sx dep k pc (.if_icmp .le o, nx, aux) L st G = some (.inl (pc', L', st', G'))) (hg : cells + (G'.length - G.length) ≤ R.cells ∧ slots + (szG G' - szG G) ≤ R.slots) (kk : KK p l e R s m args below meth c Q D cA xe A k xa G cells slots pc' L' st' G') : W p l e R s m args below meth c H locs cells slots Q (F0 m pc ls (st.map (mvv xa xe))) := by
  obtain ⟨⟨hx, hb, hr, hlk, hml, hown, hts, hin⟩, hK, hE, hA, hR, hxe⟩ := id hC
  obtain ⟨hd, rfl, hq⟩ := ckd (fun _ => rfl) ho
  rw [dq_if_icmp] at h
  obtain ⟨⟨y, r1⟩, h1, h⟩ := Option.bind_eq_some_iff.mp h
  obtain ⟨⟨x, r⟩, h2, h⟩ := Option.bind_eq_some_iff.mp h
  simp only [Option.some.injEq, Sum.inl.injEq, Prod.mk.injEq] at h
  obtain ⟨rfl, rfl, rfl, rfl⟩ := h
  obtain rfl := pI_eq h1
  obtain rfl := pI_eq h2
  refine lv_icmp_le (x := x) (y := y) (rest := r.map (mvv xa xe)) (tgt := aux) hx hb hd (of_decide_eq_true hq) (fun hc => ?_) (fun hc => ?_)
  · rw [show cnd .le x y = true from decide_eq_true hc, bte] at kk
    exact kk.pure hW hL
  · rw [show cnd .le x y = false from by simp only [cnd, decide_eq_false_iff_not]; first | exact hc | exact fun q => q hc, bfe] at kk
    exact kk.pure hW hL
theorem s_goto {o : Int} (hC : Cx p R s m args meth c D cA xe A SL sx dep k) (hW : Wd D cA xe A s xa G H locs) (hL : lR xa xe ls (mMax k) L) (ho : chkE k (pc, (.goto o, nx, aux), j) = true) (h : dstep SL sx dep k pc (.goto o, nx, aux) L st G = some (.inl (pc', L', st', G'))) (hg : cells + (G'.length - G.length) ≤ R.cells ∧ slots + (szG G' - szG G) ≤ R.slots) (kk : KK p l e R s m args below meth c Q D cA xe A k xa G cells slots pc' L' st' G') : W p l e R s m args below meth c H locs cells slots Q (F0 m pc ls (st.map (mvv xa xe))) := by
  obtain ⟨⟨hx, hb, hr, hlk, hml, hown, hts, hin⟩, hK, hE, hA, hR, hxe⟩ := id hC
  obtain ⟨hd, rfl, hq⟩ := ckd (fun _ => rfl) ho
  rw [dq_goto] at h
  simp only [Option.some.injEq, Sum.inl.injEq, Prod.mk.injEq] at h
  obtain ⟨rfl, rfl, rfl, rfl⟩ := h
  exact lv_goto (rest := st.map (mvv xa xe)) hx hb hd (of_decide_eq_true hq) (kk.pure hW hL)
theorem s_tableswitch {d lo hi : Int} {offs : Array Int} (hC : Cx p R s m args meth c D cA xe A SL sx dep k) (hW : Wd D cA xe A s xa G H locs) (hL : lR xa xe ls (mMax k) L) (ho : chkE k (pc, (.tableswitch d lo hi offs, nx, aux), j) = true) (h : dstep SL sx dep k pc (.tableswitch d lo hi offs, nx, aux) L st G = some (.inl (pc', L', st', G'))) (hg : cells + (G'.length - G.length) ≤ R.cells ∧ slots + (szG G' - szG G) ≤ R.slots) (kk : KK p l e R s m args below meth c Q D cA xe A k xa G cells slots pc' L' st' G') : W p l e R s m args below meth c H locs cells slots Q (F0 m pc ls (st.map (mvv xa xe))) := by
  obtain ⟨⟨hx, hb, hr, hlk, hml, hown, hts, hin⟩, hK, hE, hA, hR, hxe⟩ := id hC
  obtain ⟨n0, hd, hq⟩ := ckt ho
  rw [dq_tableswitch] at h
  obtain ⟨⟨x, r⟩, h1, h⟩ := Option.bind_eq_some_iff.mp h
  simp only [Option.some.injEq, Sum.inl.injEq, Prod.mk.injEq] at h
  obtain ⟨rfl, rfl, rfl, rfl⟩ := h
  obtain rfl := pI_eq h1
  simp only [chkX, Bool.and_eq_true, decide_eq_true_eq] at hq
  obtain ⟨⟨⟨hq1, hq2⟩, hq3⟩, hq4⟩ := hq
  have hq2 := Nat.eq_of_beq_eq_true hq2
  by_cases ho1 : x.toInt < lo ∨ hi < x.toInt
  · have e1 : (decide (x.toInt < lo) || decide (hi < x.toInt)) = true := by simpa using ho1
    rw [e1, bte] at kk
    exact lv_tableOut (x := x) (rest := r.map (mvv xa xe)) hx hb hd ho1 (Int.toNat_of_nonneg hq1).symm (kk.pure hW hL)
  · have e1 : (decide (x.toInt < lo) || decide (hi < x.toInt)) = false := by simpa using ho1
    rw [e1, bfe] at kk
    have hlt : (x.toInt - lo).toNat < offs.size := by rw [hq2]; omega
    have ho2 : offs[(x.toInt - lo).toNat]? = some (offs.getD (x.toInt - lo).toNat 0) := by simp [hlt]
    have ho3 : 0 ≤ (pc : Int) + offs.getD (x.toInt - lo).toNat 0 := by
      rw [Array.all_eq_true] at hq4
      have := hq4 _ hlt
      simpa [hlt] using this
    exact lv_tableIn (x := x) (rest := r.map (mvv xa xe)) hx hb hd (by omega) (by omega) ho2 (Int.toNat_of_nonneg ho3).symm (kk.pure hW hL)
end STP
end
section
def uPos0 : List Nat := [238, 240, 242]
theorem uw_0 : (List.range 3).all (fun k => hasW (uPos0.getD k 0) (u_lay RX0 TX0 k) && goodWord (u_lay RX0 TX0 k)) = true := by decide +kernel
def uPos1 : List Nat := [307, 309]
theorem uw_1 : (List.range 2).all (fun k => hasW (uPos1.getD k 0) (u_lay RX1 TX1 k) && goodWord (u_lay RX1 TX1 k)) = true := by decide +kernel
def uPos2 : List Nat := [197, 199, 201, 203, 205, 207]
theorem uw_2 : (List.range 6).all (fun k => hasW (uPos2.getD k 0) (u_lay RX2 TX2 k) && goodWord (u_lay RX2 TX2 k)) = true := by decide +kernel
def uPos3 : List Nat := [138, 140, 142, 144]
theorem uw_3 : (List.range 4).all (fun k => hasW (uPos3.getD k 0) (u_lay RX3 TX3 k) && goodWord (u_lay RX3 TX3 k)) = true := by decide +kernel
def uPos4 : List Nat := [119, 121, 123]
theorem uw_4 : (List.range 3).all (fun k => hasW (uPos4.getD k 0) (u_lay RX4 TX4 k) && goodWord (u_lay RX4 TX4 k)) = true := by decide +kernel
def uPos5 : List Nat := [230, 232]
theorem uw_5 : (List.range 2).all (fun k => hasW (uPos5.getD k 0) (u_lay RX5 TX5 k) && goodWord (u_lay RX5 TX5 k)) = true := by decide +kernel
def uPos6 : List Nat := [186, 188]
theorem uw_6 : (List.range 2).all (fun k => hasW (uPos6.getD k 0) (u_lay RX6 TX6 k) && goodWord (u_lay RX6 TX6 k)) = true := by decide +kernel
def uPos7 : List Nat := [320, 322, 324, 326, 328, 330]
theorem uw_7 : (List.range 6).all (fun k => hasW (uPos7.getD k 0) (u_lay RX7 TX7 k) && goodWord (u_lay RX7 TX7 k)) = true := by decide +kernel
def uPos8 : List Nat := [262, 264, 266, 268, 270, 272, 274, 276]
theorem uw_8 : (List.range 8).all (fun k => hasW (uPos8.getD k 0) (u_lay RX8 TX8 k) && goodWord (u_lay RX8 TX8 k)) = true := by decide +kernel
def uPos9 : List Nat := [155, 157]
theorem uw_9 : (List.range 2).all (fun k => hasW (uPos9.getD k 0) (u_lay RX9 TX9 k) && goodWord (u_lay RX9 TX9 k)) = true := by decide +kernel
def uPos10 : List Nat := [360, 362, 364, 366, 368, 370, 372, 374, 376, 378, 380, 382]
theorem uw_10 : (List.range 12).all (fun k => hasW (uPos10.getD k 0) (u_lay RX10 TX10 k) && goodWord (u_lay RX10 TX10 k)) = true := by decide +kernel
def uPos11 : List Nat := [401, 403, 405, 407, 409, 411, 413, 415, 417, 419, 421, 423, 425, 427]
theorem uw_11 : (List.range 14).all (fun k => hasW (uPos11.getD k 0) (u_lay RX11 TX11 k) && goodWord (u_lay RX11 TX11 k)) = true := by decide +kernel
def uPos12 : List Nat := [1201, 1203, 1205, 1207, 1209, 1211, 1213, 1215, 1217, 1219, 1221, 1223, 1225, 1227, 1229, 1231, 1233, 1235, 1237, 1239, 1241, 1243, 1245, 1247, 1249, 1251, 1253, 1255, 1257, 1259, 1261]
theorem uw_12 : (List.range 31).all (fun k => hasW (uPos12.getD k 0) (u_lay RX12 TX12 k) && goodWord (u_lay RX12 TX12 k)) = true := by decide +kernel
theorem uws_of {C : String} {T : u_T} {N : Nat} {ps : List Nat} (h : (List.range N).all (fun k => hasW (ps.getD k 0) (u_lay C T k) && goodWord (u_lay C T k)) = true) : ∀ w ∈ u_ws C T N, w ∈ lwG := by
  intro w hw
  unfold u_ws at hw
  obtain ⟨k, hk, rfl⟩ := List.mem_map.mp hw
  have h1 := List.all_eq_true.mp h k hk
  rw [Bool.and_eq_true] at h1
  exact lwG_mem (hasW_mem h1.1) h1.2
/-- what is known of each class: its words, its fields' types, their names -/
theorem cls_ok {ci : Nat} {q : vw_C} (h : vwCl[ci]? = some q) : (∀ w ∈ u_ws q.1 q.2.1 q.2.2, w ∈ lwG) ∧ ∃ ty0 : Nat → FieldType, (∀ k, k < q.2.2 → parseFieldDescriptor (q.2.1 k).2.2.1 = some (ty0 k)) ∧ (∀ a, a < q.2.2 → ∀ b, b < q.2.2 → a ≠ b → (q.2.1 a).2.1 ≠ (q.2.1 b).2.1) := by
  match ci, h with
  | 0, h => cases h; exact ⟨uws_of uw_0, tyX0, tyX0_ok, nmX0⟩
  | 1, h => cases h; exact ⟨uws_of uw_1, tyX1, tyX1_ok, nmX1⟩
  | 2, h => cases h; exact ⟨uws_of uw_2, tyX2, tyX2_ok, nmX2⟩
  | 3, h => cases h; exact ⟨uws_of uw_3, tyX3, tyX3_ok, nmX3⟩
  | 4, h => cases h; exact ⟨uws_of uw_4, tyX4, tyX4_ok, nmX4⟩
  | 5, h => cases h; exact ⟨uws_of uw_5, tyX5, tyX5_ok, nmX5⟩
  | 6, h => cases h; exact ⟨uws_of uw_6, tyX6, tyX6_ok, nmX6⟩
  | 7, h => cases h; exact ⟨uws_of uw_7, tyX7, tyX7_ok, nmX7⟩
  | 8, h => cases h; exact ⟨uws_of uw_8, tyX8, tyX8_ok, nmX8⟩
  | 9, h => cases h; exact ⟨uws_of uw_9, tyX9, tyX9_ok, nmX9⟩
  | 10, h => cases h; exact ⟨uws_of uw_10, tyX10, tyX10_ok, nmX10⟩
  | 11, h => cases h; exact ⟨uws_of uw_11, tyX11, tyX11_ok, nmX11⟩
  | 12, h => cases h; exact ⟨uws_of uw_12, tyX12, tyX12_ok, nmX12⟩
  | k + 13, h => simp [vwCl] at h
theorem fldT_eq {aux : Nat} {r : String × String × String × Bool} (h : fldT aux = some r) : ∃ q : vw_C, vwCl[aux / 100]? = some q ∧ aux % 100 < q.2.2 ∧ q.2.1 (aux % 100) = r := by
  unfold fldT at h
  obtain ⟨q, h1, h2⟩ := Option.bind_eq_some_iff.mp h
  cases hb : Nat.blt (aux % 100) q.2.2 with
  | false => rw [hb] at h2; cases h2
  | true => rw [hb] at h2; cases h2; exact ⟨q, h1, blt_l hb, rfl⟩
theorem gw_fl {a : String} {i : Nat} {b n d : String} : goodWord (.fieldLink a i b n d) = true := rfl
theorem lenA_eq {SL : Nat} {sx : Nat → Int32} {G : mH} {a n : Nat} (h : lenA SL sx G a = some n) : (1000 ≤ a ∧ ∃ t f, xArr SL sx a = some (t, n, f)) ∨ (a < 1000 ∧ ∃ t x, t ≤ 4 ∧ G[a]? = some (.inl (t, n, x))) := by
  unfold lenA at h
  cases ha : Nat.ble 1000 a with
  | true =>
    rw [ha, cond_true] at h
    obtain ⟨⟨t, n', f⟩, h1, h2⟩ := Option.map_eq_some_iff.mp h
    cases h2
    exact Or.inl ⟨ble_l ha, t, f, h1⟩
  | false =>
    rw [ha, cond_false] at h
    have hlt : a < 1000 := by
      rcases Nat.lt_or_ge a 1000 with q | q
      · exact q
      · rw [ble_t q] at ha; cases ha
    split at h
    · rename_i t n' x q
      cases hb : Nat.ble t 4 with
      | false => rw [hb] at h; cases h
      | true => rw [hb] at h; cases h; exact Or.inr ⟨hlt, t, x, ble_l hb, q⟩
    · cases h
section STH
variable {p : Program} {l : Launch} {e : Env} {R : Room} {s : State} {m : MethodId} {args : Array Value} {below : List Frame} {meth : Method} {c : Code} {Q : State → Prop} {D : va_G} {cA : Nat → ClassId} {xe : Nat → Value} {A : Nat → Prop} {SL : Nat} {sx : Nat → Int32} {dep k pc : Nat} {xa : Nat → Nat} {H : Heap} {locs : List Loc} {cells slots : Nat} {ls : Array Slot} {L st : List Value} {G : mH} {pc' : Nat} {L' st' : List Value} {G' : mH} {nx aux j : Nat}
theorem s_ldc {i : Nat} (hC : Cx p R s m args meth c D cA xe A SL sx dep k) (hW : Wd D cA xe A s xa G H locs) (hL : lR xa xe ls (mMax k) L) (ho : chkE k (pc, (.ldc i, nx, aux), j) = true) (h : dstep SL sx dep k pc (.ldc i, nx, aux) L st G = some (.inl (pc', L', st', G'))) (kk : KK p l e R s m args below meth c Q D cA xe A k xa G cells slots pc' L' st' G') : W p l e R s m args below meth c H locs cells slots Q (F0 m pc ls (st.map (mvv xa xe))) := by
  obtain ⟨⟨hx, hb, hr, hlk, hml, hown, hts, hin⟩, hK, hE, hA, hR, hxe⟩ := id hC
  obtain ⟨hd, rfl, hq⟩ := ckd (fun _ => rfl) ho
  rw [dq_ldc] at h
  unfold chkX at hq
  dsimp only at hq
  cases hlt : Nat.blt aux 4294967296 with
  | true =>
    rw [hlt, cond_true] at h hq
    obtain ⟨rfl, rfl, rfl, rfl⟩ := go_eq h
    exact lv_ldc (rest := st.map (mvv xa xe)) hx hb hown (hts _ (lwG_mem (hasW_mem hq) rfl)) hd (kk.pure hW hL)
  | false =>
    rw [hlt, cond_false] at h hq
    obtain ⟨hb1, h⟩ := gc1_eq h
    obtain ⟨rfl, rfl, rfl, rfl⟩ := go_eq h
    rw [Bool.and_eq_true] at hb1
    have q1 := ble_l hb1.1
    have q2 := ble_l hb1.2
    obtain ⟨-, -, -, ⟨tk, tv, k1, k2, k3, k4, k5, k6⟩, -⟩ := hE
    have hz : ∀ (y : Nat) (tx : String) (o : String) (i0 : Nat), y < 4 → aux = 4294967306 + y → vk_R o i0 tx (tk y) s → (mName k).cls = o → i = i0 → W p l e R s m args below meth c H locs cells slots Q (F0 m pc ls (st.map (mvv xa xe))) := by
      intro y tx o i0 hy ha hv e1 e2
      subst e2
      subst e1
      refine va_ldcS (rest := st.map (mvv xa xe)) hx hb hown hv hd ?_
      have e3 : mvv xa xe (.ref (aux - 4294966296)) = .ref (tk y) := by
        rw [mvv_out (by omega), show aux - 4294966296 - 1000 = 10 + y by omega]
        exact (k1 y hy).2
      rw [← e3]
      exact kk.pure hW hL
    simp only [strOk, Bool.or_eq_true, Bool.and_eq_true, decide_eq_true_eq] at hq
    rcases hq with ⟨e1, (⟨e2, e3⟩ | ⟨e2, e3⟩) | ⟨e2, e3⟩⟩ | ⟨⟨e1, e2⟩, e3⟩
    · have e3 := Nat.eq_of_beq_eq_true e3
      exact hz 0 _ _ _ (by omega) (by omega) k3 e1 (Nat.eq_of_beq_eq_true e2)
    · have e3 := Nat.eq_of_beq_eq_true e3
      exact hz 1 _ _ _ (by omega) (by omega) k4 e1 (Nat.eq_of_beq_eq_true e2)
    · have e3 := Nat.eq_of_beq_eq_true e3
      exact hz 2 _ _ _ (by omega) (by omega) k5 e1 (Nat.eq_of_beq_eq_true e2)
    · have e3 := Nat.eq_of_beq_eq_true e3
      exact hz 3 _ _ _ (by omega) (by omega) k6 e1 (Nat.eq_of_beq_eq_true e2)
theorem s_ldc_w {i : Nat} (hC : Cx p R s m args meth c D cA xe A SL sx dep k) (hW : Wd D cA xe A s xa G H locs) (hL : lR xa xe ls (mMax k) L) (ho : chkE k (pc, (.ldc_w i, nx, aux), j) = true) (h : dstep SL sx dep k pc (.ldc_w i, nx, aux) L st G = some (.inl (pc', L', st', G'))) (kk : KK p l e R s m args below meth c Q D cA xe A k xa G cells slots pc' L' st' G') : W p l e R s m args below meth c H locs cells slots Q (F0 m pc ls (st.map (mvv xa xe))) := by
  obtain ⟨⟨hx, hb, hr, hlk, hml, hown, hts, hin⟩, hK, hE, hA, hR, hxe⟩ := id hC
  obtain ⟨hd, rfl, hq⟩ := ckd (fun _ => rfl) ho
  rw [dq_ldc_w] at h
  obtain ⟨rfl, rfl, rfl, rfl⟩ := go_eq h
  exact lv_ldcw (rest := st.map (mvv xa xe)) hx hb hown (hts _ (lwG_mem (hasW_mem hq) rfl)) hd (kk.pure hW hL)
theorem s_ldc2_w {i : Nat} (hC : Cx p R s m args meth c D cA xe A SL sx dep k) (hW : Wd D cA xe A s xa G H locs) (hL : lR xa xe ls (mMax k) L) (ho : chkE k (pc, (.ldc2_w i, nx, aux), j) = true) (h : dstep SL sx dep k pc (.ldc2_w i, nx, aux) L st G = some (.inl (pc', L', st', G'))) (kk : KK p l e R s m args below meth c Q D cA xe A k xa G cells slots pc' L' st' G') : W p l e R s m args below meth c H locs cells slots Q (F0 m pc ls (st.map (mvv xa xe))) := by
  obtain ⟨⟨hx, hb, hr, hlk, hml, hown, hts, hin⟩, hK, hE, hA, hR, hxe⟩ := id hC
  obtain ⟨hd, rfl, hq⟩ := ckd (fun _ => rfl) ho
  rw [dq_ldc2_w] at h
  obtain ⟨rfl, rfl, rfl, rfl⟩ := go_eq h
  exact lv_ldc2 (rest := st.map (mvv xa xe)) hx hb hown (hts _ (lwG_mem (hasW_mem hq) rfl)) hd (kk.pure hW hL)
theorem s_getfield {i : Nat} (hC : Cx p R s m args meth c D cA xe A SL sx dep k) (hW : Wd D cA xe A s xa G H locs) (hL : lR xa xe ls (mMax k) L) (ho : chkE k (pc, (.getfield i, nx, aux), j) = true) (h : dstep SL sx dep k pc (.getfield i, nx, aux) L st G = some (.inl (pc', L', st', G'))) (kk : KK p l e R s m args below meth c Q D cA xe A k xa G cells slots pc' L' st' G') : W p l e R s m args below meth c H locs cells slots Q (F0 m pc ls (st.map (mvv xa xe))) := by
  obtain ⟨⟨hx, hb, hr, hlk, hml, hown, hts, hin⟩, hK, hE, hA, hR, hxe⟩ := id hC
  obtain ⟨hd, rfl, hq⟩ := ckd (fun _ => rfl) ho
  obtain ⟨hG, hP, hD, hS⟩ := id hW
  rw [dq_getfield] at h
  obtain ⟨⟨a, r⟩, h1, h⟩ := Option.bind_eq_some_iff.mp h
  obtain ⟨v, h2, h⟩ := Option.bind_eq_some_iff.mp h
  obtain ⟨rfl, rfl, rfl, rfl⟩ := go_eq h
  obtain rfl := pA_eq h1
  unfold chkX at hq
  dsimp only at hq
  unfold getF at h2
  show W p l e R s m args below meth c H locs cells slots Q (F0 m pc ls (mvv xa xe (.ref a) :: r.map (mvv xa xe)))
  cases hlt : Nat.ble 5000 aux with
  | true =>
    rw [hlt, cond_true] at h2 hq
    cases ha : Nat.ble 1010 a && Nat.ble a 1013 with
    | false => rw [ha] at h2; cases h2
    | true =>
      rw [ha, cond_true] at h2
      rw [Bool.and_eq_true] at ha
      have a1 := ble_l ha.1
      have a2 := ble_l ha.2
      obtain ⟨-, -, -, ⟨tk, tv, k1, k2, -⟩, -⟩ := hE
      have hi : a - 1010 < 4 := by omega
      obtain ⟨g1, g2, g3, g4⟩ := k2.1 (a - 1010) hi
      have e1 : mvv xa xe (.ref a) = .ref (tk (a - 1010)) := by
        rw [mvv_out (by omega), show a - 1000 = 10 + (a - 1010) by omega]
        exact (k1 (a - 1010) hi).2
      rw [e1]
      cases hz : Nat.beq aux 5000 with
      | true =>
        rw [hz, cond_true] at h2 hq
        cases h2
        refine vk_getf hx hb g3 hS hown (hts _ (lwG_mem (hasW_mem hq) rfl)) (fun _ h9 => h9) hd ?_
        have e2 : mvv xa xe (.ref (a - 7)) = .ref (tv (a - 1010)) := by
          rw [mvv_out (by omega), show a - 7 - 1000 = 3 + (a - 1010) by omega]
          exact (k1 (a - 1010) hi).1
        rw [← e2]
        exact kk.pure hW hL
      | false =>
        rw [hz, cond_false] at h2 hq
        cases h2
        exact vk_getf hx hb g2 hS hown (hts _ (lwG_mem (hasW_mem hq) rfl)) (fun _ h9 => h9) hd (kk.pure hW hL)
  | false =>
    rw [hlt, cond_false] at h2 hq
    obtain ⟨o, h3, h4⟩ := Option.bind_eq_some_iff.mp h2
    have h3 := ownO_eq h3
    cases hoc : Nat.beq o.1 (aux / 100) with
    | false => rw [hoc] at h4; cases h4
    | true =>
      rw [hoc, cond_true] at h4
      have hoc := Nat.eq_of_beq_eq_true hoc
      split at hq
      · rename_i cc n d fin hf
        obtain ⟨q, hq1, hq2, hq3⟩ := fldT_eq hf
        have hlink := hts _ (lwG_mem (hasW_mem hq) rfl)
        have hal := lt_of_at h3
        rw [mvv_own (by omega)]
        have he := wsW_at (cA := cA) (xa := xa) (xe := xe) h3
        obtain ⟨ci, fs⟩ := o
        dsimp only at hoc h4
        subst hoc
        have e1 : (q.2.1 (aux % 100)).1 = cc := by rw [hq3]
        have e2 : (q.2.1 (aux % 100)).2.1 = n := by rw [hq3]
        have e3 : (q.2.1 (aux % 100)).2.2.1 = d := by rw [hq3]
        exact va_get (C := q.1) (T := q.2.1) (N := q.2.2) (ref := cc) hx hb hts (cls_ok hq1).1 hown hK hP a he hq1 (aux % 100) hq2 (by rw [e2, e3]; exact hlink) (fun _ h9 => by rw [e1] at h9; exact h9) (v := mvv xa xe v) (by rw [List.getElem?_map, h4]; rfl) hd (kk.pure hW hL)
      · cases hq
theorem s_putfield {i : Nat} (hC : Cx p R s m args meth c D cA xe A SL sx dep k) (hW : Wd D cA xe A s xa G H locs) (hL : lR xa xe ls (mMax k) L) (ho : chkE k (pc, (.putfield i, nx, aux), j) = true) (h : dstep SL sx dep k pc (.putfield i, nx, aux) L st G = some (.inl (pc', L', st', G'))) (kk : KK p l e R s m args below meth c Q D cA xe A k xa G cells slots pc' L' st' G') : W p l e R s m args below meth c H locs cells slots Q (F0 m pc ls (st.map (mvv xa xe))) := by
  obtain ⟨⟨hx, hb, hr, hlk, hml, hown, hts, hin⟩, hK, hE, hA, hR, hxe⟩ := id hC
  obtain ⟨hd, rfl, hq⟩ := ckd (fun _ => rfl) ho
  obtain ⟨hG, hP, hD, hS⟩ := id hW
  rw [dq_putfield] at h
  split at h
  · rename_i v a r
    obtain ⟨⟨ci, fs⟩, h3, h⟩ := Option.bind_eq_some_iff.mp h
    have h3 := ownO_eq h3
    obtain ⟨hb1, h⟩ := gc1_eq h
    obtain ⟨rfl, rfl, rfl, rfl⟩ := go_eq h
    simp only [Bool.and_eq_true] at hb1
    obtain ⟨⟨⟨c1, c2⟩, c3⟩, c4⟩ := hb1
    have c1 := Nat.eq_of_beq_eq_true c1
    have c2 := blt_l c2
    subst c1
    unfold chkX at hq
    dsimp only at hq
    show W p l e R s m args below meth c H locs cells slots Q (F0 m pc ls (mvv xa xe v :: mvv xa xe (.ref a) :: r.map (mvv xa xe)))
    split at hq
    · rename_i cc n d fin hf
      obtain ⟨q, hq1, hq2, hq3⟩ := fldT_eq hf
      have hlink := hts _ (lwG_mem (hasW_mem hq) rfl)
      have hal := lt_of_at h3
      rw [mvv_own (by omega)]
      have he := wsW_at (cA := cA) (xa := xa) (xe := xe) h3
      have e1 : (q.2.1 (aux % 100)).1 = cc := by rw [hq3]
      have e2 : (q.2.1 (aux % 100)).2.1 = n := by rw [hq3]
      have e3 : (q.2.1 (aux % 100)).2.2.1 = d := by rw [hq3]
      have e4 : (q.2.1 (aux % 100)).2.2.2 = fin := by rw [hq3]
      obtain ⟨hu, ty0, hty, hnm⟩ := cls_ok hq1
      unfold putOk at c3
      rw [hf] at c3
      dsimp only at c3
      rw [Bool.and_eq_true] at c3
      obtain ⟨c5, c6⟩ := c3
      split at c5
      · cases c5
      · rename_i ty hpd
        rw [Bool.and_eq_true] at c5
        have c7 := of_decide_eq_true c5.1
        have c8 := c5.2
        have hkk : ∀ (H1 : Heap) (locs1 : List Loc), va_P D vwCl ((wsW cA xa xe G).set a (xa a, .inr (aux / 100, (fs.map (mvv xa xe)).set (aux % 100) (mvv xa xe v)))) H1 → va_D A ((wsW cA xa xe G).set a (xa a, .inr (aux / 100, (fs.map (mvv xa xe)).set (aux % 100) (mvv xa xe v)))) → va_S A s.heap H1 locs1 → W p l e R s m args below meth c H1 locs1 cells slots Q (F0 m (pc + 3) ls (r.map (mvv xa xe))) := by
          intro H1 locs1 z1 z2 z3
          rw [← List.map_set] at z1 z2
          exact KK.put kk h3 (by simp [szC]) hG z1 z2 z3 hL
        cases fin with
        | false =>
          exact va_put (C := q.1) (T := q.2.1) (N := q.2.2) (ref := cc) (ty := ty) hx hb hts hu ty0 hty hnm hown hK hP hD hS a he hq1 (aux % 100) hq2 (by rw [e2, e3]; exact hlink) (fun _ h9 => by rw [e1] at h9; exact h9) e4 (by rw [e3]; exact hpd) (mvv_nar hxe c7) (mvv_fits hxe c8) (by rw [List.length_map]; exact c2) hd hkk
        | true =>
          simp only [Bool.not_true, Bool.false_or, Bool.and_eq_true] at c6
          exact va_putF (C := q.1) (T := q.2.1) (N := q.2.2) (ref := cc) (ty := ty) hx hb hts hu ty0 hty hnm hown hK hP hD hS a he hq1 (aux % 100) hq2 (by rw [e2, e3]; exact hlink) (fun _ h9 => by rw [e1] at h9; exact h9) e4 (hin (Nat.eq_of_beq_eq_true c6.1)) (by rw [e1]; exact of_decide_eq_true c6.2) (by rw [e3]; exact hpd) (mvv_nar hxe c7) (mvv_fits hxe c8) (by rw [List.length_map]; exact c2) hd hkk
    · cases hq
  · cases h
theorem s_getstatic {i : Nat} (hC : Cx p R s m args meth c D cA xe A SL sx dep k) (hW : Wd D cA xe A s xa G H locs) (hL : lR xa xe ls (mMax k) L) (ho : chkE k (pc, (.getstatic i, nx, aux), j) = true) (h : dstep SL sx dep k pc (.getstatic i, nx, aux) L st G = some (.inl (pc', L', st', G'))) (kk : KK p l e R s m args below meth c Q D cA xe A k xa G cells slots pc' L' st' G') : W p l e R s m args below meth c H locs cells slots Q (F0 m pc ls (st.map (mvv xa xe))) := by
  obtain ⟨⟨hx, hb, hr, hlk, hml, hown, hts, hin⟩, hK, hE, hA, hR, hxe⟩ := id hC
  obtain ⟨hd, rfl, hq⟩ := ckd (fun _ => rfl) ho
  obtain ⟨hG, hP, hD, hS⟩ := id hW
  obtain ⟨-, ⟨t, t1, t2, t3⟩, ⟨u, u1, u2, u3⟩, -, h5, h6, -⟩ := hE
  rw [dq_getstatic] at h
  unfold chkX at hq
  match aux, h, hq with
  | 0, h, hq =>
    obtain ⟨rfl, rfl, rfl, rfl⟩ := go_eq h
    refine va_gets (rest := st.map (mvv xa xe)) hx hb t2 hS hown (hts _ (lwG_mem (hasW_mem hq) rfl)) (fun _ h9 => h9) hd ?_
    rw [← t1]
    exact kk.pure hW hL
  | 1, h, hq =>
    obtain ⟨rfl, rfl, rfl, rfl⟩ := go_eq h
    refine va_gets (rest := st.map (mvv xa xe)) hx hb u2 hS hown (hts _ (lwG_mem (hasW_mem hq) rfl)) (fun _ h9 => h9) hd ?_
    rw [← u1]
    exact kk.pure hW hL
  | 2, h, hq =>
    obtain ⟨rfl, rfl, rfl, rfl⟩ := go_eq h
    exact va_gets (rest := st.map (mvv xa xe)) hx hb h5 hS hown (hts _ (lwG_mem (hasW_mem hq) rfl)) (fun _ h9 => h9) hd (kk.pure hW hL)
  | 3, h, hq =>
    obtain ⟨rfl, rfl, rfl, rfl⟩ := go_eq h
    exact va_gets (rest := st.map (mvv xa xe)) hx hb h6 hS hown (hts _ (lwG_mem (hasW_mem hq) rfl)) (fun _ h9 => h9) hd (kk.pure hW hL)
  | n + 4, h, hq => cases h
theorem s_iaload (hC : Cx p R s m args meth c D cA xe A SL sx dep k) (hW : Wd D cA xe A s xa G H locs) (hL : lR xa xe ls (mMax k) L) (ho : chkE k (pc, (.iaload, nx, aux), j) = true) (h : dstep SL sx dep k pc (.iaload, nx, aux) L st G = some (.inl (pc', L', st', G'))) (kk : KK p l e R s m args below meth c Q D cA xe A k xa G cells slots pc' L' st' G') : W p l e R s m args below meth c H locs cells slots Q (F0 m pc ls (st.map (mvv xa xe))) := by
  obtain ⟨⟨hx, hb, hr, hlk, hml, hown, hts, hin⟩, hK, hE, hA, hR, hxe⟩ := id hC
  obtain ⟨hd, rfl, hq⟩ := ckd (fun _ => rfl) ho
  obtain ⟨hG, hP, hD, hS⟩ := id hW
  rw [dq_iaload] at h
  obtain ⟨⟨i, r1⟩, h1, h⟩ := Option.bind_eq_some_iff.mp h
  obtain ⟨⟨a, r⟩, h2, h⟩ := Option.bind_eq_some_iff.mp h
  obtain ⟨⟨n, f⟩, h3, h⟩ := Option.bind_eq_some_iff.mp h
  obtain ⟨hb1, h⟩ := gc1_eq h
  obtain ⟨rfl, rfl, rfl, rfl⟩ := go_eq h
  obtain rfl := pI_eq h1
  obtain rfl := pA_eq h2
  have hi := inB_in hb1
  show W p l e R s m args below meth c H locs cells slots Q (F0 m pc ls (.int i :: mvv xa xe (.ref a) :: r.map (mvv xa xe)))
  rcases arrI_eq h3 with ⟨ha, h4⟩ | ⟨ha, h4⟩
  · obtain ⟨⟨b, b1, b2, b3, b4⟩, ⟨t, t1, t2, t3⟩, ⟨u, u1, u2, u3⟩, -⟩ := hE
    rcases xArr_eq h4 with ⟨rfl, -, rfl, rfl⟩ | ⟨rfl, -, rfl, rfl⟩ | ⟨rfl, -, rfl, rfl⟩ | ⟨y, -, -, e1, -⟩
    · rw [show mvv xa xe (.ref 1000) = .ref b from (mvv_out (Nat.le_refl _)).trans b1]
      exact va_sld hx hb b2 b3 b4 hS hi hd (kk.pure hW hL)
    · rw [show mvv xa xe (.ref 1001) = .ref t from (mvv_out (by omega)).trans t1]
      exact va_ti hx hb t3 hS hi rfl hd (kk.pure hW hL)
    · rw [show mvv xa xe (.ref 1002) = .ref u from (mvv_out (by omega)).trans u1]
      exact va_ti hx hb u3 hS hi rfl hd (kk.pure hW hL)
    · cases e1
  · rw [mvv_own ha]
    exact va_iald hx hb hK hP a 0 (wsW_at h4) rfl hi hd (kk.pure hW hL)
theorem s_baload (hC : Cx p R s m args meth c D cA xe A SL sx dep k) (hW : Wd D cA xe A s xa G H locs) (hL : lR xa xe ls (mMax k) L) (ho : chkE k (pc, (.baload, nx, aux), j) = true) (h : dstep SL sx dep k pc (.baload, nx, aux) L st G = some (.inl (pc', L', st', G'))) (kk : KK p l e R s m args below meth c Q D cA xe A k xa G cells slots pc' L' st' G') : W p l e R s m args below meth c H locs cells slots Q (F0 m pc ls (st.map (mvv xa xe))) := by
  obtain ⟨⟨hx, hb, hr, hlk, hml, hown, hts, hin⟩, hK, hE, hA, hR, hxe⟩ := id hC
  obtain ⟨hd, rfl, hq⟩ := ckd (fun _ => rfl) ho
  obtain ⟨hG, hP, hD, hS⟩ := id hW
  rw [dq_baload] at h
  obtain ⟨⟨i, r1⟩, h1, h⟩ := Option.bind_eq_some_iff.mp h
  obtain ⟨⟨a, r⟩, h2, h⟩ := Option.bind_eq_some_iff.mp h
  obtain ⟨⟨n, f⟩, h3, h⟩ := Option.bind_eq_some_iff.mp h
  obtain ⟨hb1, h⟩ := gc1_eq h
  obtain ⟨rfl, rfl, rfl, rfl⟩ := go_eq h
  obtain rfl := pI_eq h1
  obtain rfl := pA_eq h2
  have hi := inB_in hb1
  show W p l e R s m args below meth c H locs cells slots Q (F0 m pc ls (.int i :: mvv xa xe (.ref a) :: r.map (mvv xa xe)))
  rcases arrI_eq h3 with ⟨ha, h4⟩ | ⟨ha, h4⟩
  · obtain ⟨-, -, -, ⟨tk, tv, k1, k2, -⟩, -⟩ := hE
    rcases xArr_eq h4 with ⟨-, e1, -⟩ | ⟨-, e1, -⟩ | ⟨-, e1, -⟩ | ⟨y, hy, rfl, -, rfl, rfl⟩
    · cases e1
    · cases e1
    · cases e1
    · rw [show mvv xa xe (.ref (1003 + y)) = .ref (tv y) from (mvv_out (by omega)).trans (by rw [show 1003 + y - 1000 = 3 + y by omega]; exact (k1 y hy).1)]
      exact va_tb hx hb (k2.1 y hy).2.2.2 hS hi rfl hd (kk.pure hW hL)
  · rw [mvv_own ha]
    exact va_bald hx hb hK hP a 1 (wsW_at h4) rfl hi hd (kk.pure hW hL)
theorem s_laload (hC : Cx p R s m args meth c D cA xe A SL sx dep k) (hW : Wd D cA xe A s xa G H locs) (hL : lR xa xe ls (mMax k) L) (ho : chkE k (pc, (.laload, nx, aux), j) = true) (h : dstep SL sx dep k pc (.laload, nx, aux) L st G = some (.inl (pc', L', st', G'))) (kk : KK p l e R s m args below meth c Q D cA xe A k xa G cells slots pc' L' st' G') : W p l e R s m args below meth c H locs cells slots Q (F0 m pc ls (st.map (mvv xa xe))) := by
  obtain ⟨⟨hx, hb, hr, hlk, hml, hown, hts, hin⟩, hK, hE, hA, hR, hxe⟩ := id hC
  obtain ⟨hd, rfl, hq⟩ := ckd (fun _ => rfl) ho
  obtain ⟨hG, hP, hD, hS⟩ := id hW
  rw [dq_laload] at h
  obtain ⟨⟨i, r1⟩, h1, h⟩ := Option.bind_eq_some_iff.mp h
  obtain ⟨⟨a, r⟩, h2, h⟩ := Option.bind_eq_some_iff.mp h
  obtain ⟨⟨n, f⟩, h3, h⟩ := Option.bind_eq_some_iff.mp h
  obtain ⟨hb1, h⟩ := gc1_eq h
  obtain ⟨rfl, rfl, rfl, rfl⟩ := go_eq h
  obtain rfl := pI_eq h1
  obtain rfl := pA_eq h2
  have hi := inB_in hb1
  have h4 := ownJ_eq h3
  have ha := lt_of_at h4
  show W p l e R s m args below meth c H locs cells slots Q (F0 m pc ls (.int i :: mvv xa xe (.ref a) :: r.map (mvv xa xe)))
  rw [mvv_own (by omega)]
  exact va_lald hx hb hK hP a 2 (wsW_at h4) rfl hi hd (kk.pure hW hL)
theorem s_aaload (hC : Cx p R s m args meth c D cA xe A SL sx dep k) (hW : Wd D cA xe A s xa G H locs) (hL : lR xa xe ls (mMax k) L) (ho : chkE k (pc, (.aaload, nx, aux), j) = true) (h : dstep SL sx dep k pc (.aaload, nx, aux) L st G = some (.inl (pc', L', st', G'))) (kk : KK p l e R s m args below meth c Q D cA xe A k xa G cells slots pc' L' st' G') : W p l e R s m args below meth c H locs cells slots Q (F0 m pc ls (st.map (mvv xa xe))) := by
  obtain ⟨⟨hx, hb, hr, hlk, hml, hown, hts, hin⟩, hK, hE, hA, hR, hxe⟩ := id hC
  obtain ⟨hd, rfl, hq⟩ := ckd (fun _ => rfl) ho
  obtain ⟨hG, hP, hD, hS⟩ := id hW
  rw [dq_aaload] at h
  obtain ⟨⟨i, r1⟩, h1, h⟩ := Option.bind_eq_some_iff.mp h
  obtain ⟨⟨a, r⟩, h2, h⟩ := Option.bind_eq_some_iff.mp h
  obtain ⟨⟨t, n, f⟩, h3, h⟩ := Option.bind_eq_some_iff.mp h
  obtain ⟨hb1, hz⟩ := gc1_eq h
  clear h
  obtain rfl := pI_eq h1
  obtain rfl := pA_eq h2
  have hi := inB_in hb1
  obtain ⟨h4, ht, hn⟩ := ownQ_eq h3
  have ha := lt_of_at h4
  cases hv : f.getD i.toNatClampNeg none with
  | none => dsimp only at hz; rw [hv] at hz; cases hz
  | some x =>
    dsimp only at hz
    rw [hv] at hz
    obtain ⟨hb2, hz⟩ := gc1_eq hz
    obtain ⟨rfl, rfl, rfl, rfl⟩ := go_eq hz
    show W p l e R s m args below meth c H locs cells slots Q (F0 m pc ls (.int i :: mvv xa xe (.ref a) :: r.map (mvv xa xe)))
    rw [mvv_own (by omega)]
    have hw := kk.pure hW hL
    rw [List.map_cons, mvv_own (blt_l hb2)] at hw
    have e5 : Value.ref (xa x) = va_rf ((f.getD i.toNatClampNeg none).map xa) := by rw [hv]; rfl
    rw [e5] at hw
    rcases ht with rfl | rfl
    · exact va_aldq hx hb hK hP a 3 (wsW_at h4) rfl hi hd hw
    · exact va_aldq hx hb hK hP a 4 (wsW_at h4) rfl hi hd hw
theorem s_iastore (hC : Cx p R s m args meth c D cA xe A SL sx dep k) (hW : Wd D cA xe A s xa G H locs) (hL : lR xa xe ls (mMax k) L) (ho : chkE k (pc, (.iastore, nx, aux), j) = true) (h : dstep SL sx dep k pc (.iastore, nx, aux) L st G = some (.inl (pc', L', st', G'))) (kk : KK p l e R s m args below meth c Q D cA xe A k xa G cells slots pc' L' st' G') : W p l e R s m args below meth c H locs cells slots Q (F0 m pc ls (st.map (mvv xa xe))) := by
  obtain ⟨⟨hx, hb, hr, hlk, hml, hown, hts, hin⟩, hK, hE, hA, hR, hxe⟩ := id hC
  obtain ⟨hd, rfl, hq⟩ := ckd (fun _ => rfl) ho
  obtain ⟨hG, hP, hD, hS⟩ := id hW
  rw [dq_iastore] at h
  obtain ⟨⟨x, r0⟩, h0, h⟩ := Option.bind_eq_some_iff.mp h
  obtain ⟨⟨i, r1⟩, h1, h⟩ := Option.bind_eq_some_iff.mp h
  obtain ⟨⟨a, r⟩, h2, h⟩ := Option.bind_eq_some_iff.mp h
  obtain ⟨⟨n, f⟩, h3, h⟩ := Option.bind_eq_some_iff.mp h
  obtain ⟨hb1, h⟩ := gc1_eq h
  obtain ⟨rfl, rfl, rfl, rfl⟩ := go_eq h
  obtain rfl := pI_eq h0
  obtain rfl := pI_eq h1
  obtain rfl := pA_eq h2
  have hi := inB_in hb1
  have h4 := ownI_eq h3
  have ha := lt_of_at h4
  show W p l e R s m args below meth c H locs cells slots Q (F0 m pc ls (.int x :: .int i :: mvv xa xe (.ref a) :: r.map (mvv xa xe)))
  rw [mvv_own (by omega)]
  exact va_iast hx hb hK hP hD hS a 0 (wsW_at h4) rfl hi hd (fun H1 locs1 z1 z2 z3 => KK.put kk h4 rfl hG z1 z2 z3 hL)
theorem s_bastore (hC : Cx p R s m args meth c D cA xe A SL sx dep k) (hW : Wd D cA xe A s xa G H locs) (hL : lR xa xe ls (mMax k) L) (ho : chkE k (pc, (.bastore, nx, aux), j) = true) (h : dstep SL sx dep k pc (.bastore, nx, aux) L st G = some (.inl (pc', L', st', G'))) (kk : KK p l e R s m args below meth c Q D cA xe A k xa G cells slots pc' L' st' G') : W p l e R s m args below meth c H locs cells slots Q (F0 m pc ls (st.map (mvv xa xe))) := by
  obtain ⟨⟨hx, hb, hr, hlk, hml, hown, hts, hin⟩, hK, hE, hA, hR, hxe⟩ := id hC
  obtain ⟨hd, rfl, hq⟩ := ckd (fun _ => rfl) ho
  obtain ⟨hG, hP, hD, hS⟩ := id hW
  rw [dq_bastore] at h
  obtain ⟨⟨x, r0⟩, h0, h⟩ := Option.bind_eq_some_iff.mp h
  obtain ⟨⟨i, r1⟩, h1, h⟩ := Option.bind_eq_some_iff.mp h
  obtain ⟨⟨a, r⟩, h2, h⟩ := Option.bind_eq_some_iff.mp h
  obtain ⟨⟨n, f⟩, h3, h⟩ := Option.bind_eq_some_iff.mp h
  obtain ⟨hb1, h⟩ := gc1_eq h
  obtain ⟨rfl, rfl, rfl, rfl⟩ := go_eq h
  obtain rfl := pI_eq h0
  obtain rfl := pI_eq h1
  obtain rfl := pA_eq h2
  have hi := inB_in hb1
  have h4 := ownI_eq h3
  have ha := lt_of_at h4
  show W p l e R s m args below meth c H locs cells slots Q (F0 m pc ls (.int x :: .int i :: mvv xa xe (.ref a) :: r.map (mvv xa xe)))
  rw [mvv_own (by omega)]
  exact va_bast hx hb hK hP hD hS a 1 (wsW_at h4) rfl hi hd (fun H1 locs1 z1 z2 z3 => KK.put kk h4 rfl hG z1 z2 z3 hL)
theorem s_lastore (hC : Cx p R s m args meth c D cA xe A SL sx dep k) (hW : Wd D cA xe A s xa G H locs) (hL : lR xa xe ls (mMax k) L) (ho : chkE k (pc, (.lastore, nx, aux), j) = true) (h : dstep SL sx dep k pc (.lastore, nx, aux) L st G = some (.inl (pc', L', st', G'))) (kk : KK p l e R s m args below meth c Q D cA xe A k xa G cells slots pc' L' st' G') : W p l e R s m args below meth c H locs cells slots Q (F0 m pc ls (st.map (mvv xa xe))) := by
  obtain ⟨⟨hx, hb, hr, hlk, hml, hown, hts, hin⟩, hK, hE, hA, hR, hxe⟩ := id hC
  obtain ⟨hd, rfl, hq⟩ := ckd (fun _ => rfl) ho
  obtain ⟨hG, hP, hD, hS⟩ := id hW
  rw [dq_lastore] at h
  obtain ⟨⟨x, r0⟩, h0, h⟩ := Option.bind_eq_some_iff.mp h
  obtain ⟨⟨i, r1⟩, h1, h⟩ := Option.bind_eq_some_iff.mp h
  obtain ⟨⟨a, r⟩, h2, h⟩ := Option.bind_eq_some_iff.mp h
  obtain ⟨⟨n, f⟩, h3, h⟩ := Option.bind_eq_some_iff.mp h
  obtain ⟨hb1, h⟩ := gc1_eq h
  obtain ⟨rfl, rfl, rfl, rfl⟩ := go_eq h
  obtain rfl := pJ_eq h0
  obtain rfl := pI_eq h1
  obtain rfl := pA_eq h2
  have hi := inB_in hb1
  have h4 := ownJ_eq h3
  have ha := lt_of_at h4
  show W p l e R s m args below meth c H locs cells slots Q (F0 m pc ls (.long x :: .int i :: mvv xa xe (.ref a) :: r.map (mvv xa xe)))
  rw [mvv_own (by omega)]
  exact va_last hx hb hK hP hD hS a 2 (wsW_at h4) rfl hi hd (fun H1 locs1 z1 z2 z3 => KK.put kk h4 rfl hG z1 z2 z3 hL)
theorem s_arraylength (hC : Cx p R s m args meth c D cA xe A SL sx dep k) (hW : Wd D cA xe A s xa G H locs) (hL : lR xa xe ls (mMax k) L) (ho : chkE k (pc, (.arraylength, nx, aux), j) = true) (h : dstep SL sx dep k pc (.arraylength, nx, aux) L st G = some (.inl (pc', L', st', G'))) (kk : KK p l e R s m args below meth c Q D cA xe A k xa G cells slots pc' L' st' G') : W p l e R s m args below meth c H locs cells slots Q (F0 m pc ls (st.map (mvv xa xe))) := by
  obtain ⟨⟨hx, hb, hr, hlk, hml, hown, hts, hin⟩, hK, hE, hA, hR, hxe⟩ := id hC
  obtain ⟨hd, rfl, hq⟩ := ckd (fun _ => rfl) ho
  obtain ⟨hG, hP, hD, hS⟩ := id hW
  rw [dq_arraylength] at h
  obtain ⟨⟨a, r⟩, h2, h⟩ := Option.bind_eq_some_iff.mp h
  obtain ⟨n, h3, h⟩ := Option.bind_eq_some_iff.mp h
  obtain ⟨rfl, rfl, rfl, rfl⟩ := go_eq h
  obtain rfl := pA_eq h2
  show W p l e R s m args below meth c H locs cells slots Q (F0 m pc ls (mvv xa xe (.ref a) :: r.map (mvv xa xe)))
  rcases lenA_eq h3 with ⟨ha, t0, f, h4⟩ | ⟨ha, t0, x, ht0, h4⟩
  · obtain ⟨⟨b, b1, b2, b3, b4⟩, ⟨t, t1, t2, t3⟩, ⟨u, u1, u2, u3⟩, ⟨tk, tv, k1, k2, -⟩, -⟩ := hE
    rcases xArr_eq h4 with ⟨rfl, -, rfl, rfl⟩ | ⟨rfl, -, rfl, rfl⟩ | ⟨rfl, -, rfl, rfl⟩ | ⟨y, hy, rfl, -, rfl, rfl⟩
    · rw [show mvv xa xe (.ref 1000) = .ref b from (mvv_out (Nat.le_refl _)).trans b1]
      exact va_slen hx hb b2 b3 b4 hS hd (kk.pure hW hL)
    · rw [show mvv xa xe (.ref 1001) = .ref t from (mvv_out (by omega)).trans t1]
      exact va_tlen hx hb t3 hS rfl hd (kk.pure hW hL)
    · rw [show mvv xa xe (.ref 1002) = .ref u from (mvv_out (by omega)).trans u1]
      exact va_tlen hx hb u3 hS rfl hd (kk.pure hW hL)
    · rw [show mvv xa xe (.ref (1003 + y)) = .ref (tv y) from (mvv_out (by omega)).trans (by rw [show 1003 + y - 1000 = 3 + y by omega]; exact (k1 y hy).1)]
      exact va_tlen hx hb (k2.1 y hy).2.2.2 hS rfl hd (kk.pure hW hL)
  · rw [mvv_own ha]
    have he := wsW_at (cA := cA) (xa := xa) (xe := xe) h4
    have hcell : ∃ x', cellW cA xa xe (.inl (t0, n, x)) = .inl (cA t0, n, x') := by
      rcases x with f | f | f
      · exact ⟨_, rfl⟩
      · exact ⟨_, rfl⟩
      · exact ⟨_, rfl⟩
    obtain ⟨x', hx'⟩ := hcell
    rw [hx'] at he
    have hty : ∃ ty, (tysW cA)[t0]? = some (cA t0, ty) := by
      match t0, ht0 with
      | 0, _ => exact ⟨_, rfl⟩
      | 1, _ => exact ⟨_, rfl⟩
      | 2, _ => exact ⟨_, rfl⟩
      | 3, _ => exact ⟨_, rfl⟩
      | 4, _ => exact ⟨_, rfl⟩
    obtain ⟨ty, hty⟩ := hty
    exact va_alen hx hb hK hP a t0 he hty rfl hd (kk.pure hW hL)
theorem s_aastore (hC : Cx p R s m args meth c D cA xe A SL sx dep k) (hW : Wd D cA xe A s xa G H locs) (hL : lR xa xe ls (mMax k) L) (ho : chkE k (pc, (.aastore, nx, aux), j) = true) (h : dstep SL sx dep k pc (.aastore, nx, aux) L st G = some (.inl (pc', L', st', G'))) (kk : KK p l e R s m args below meth c Q D cA xe A k xa G cells slots pc' L' st' G') : W p l e R s m args below meth c H locs cells slots Q (F0 m pc ls (st.map (mvv xa xe))) := by
  obtain ⟨⟨hx, hb, hr, hlk, hml, hown, hts, hin⟩, hK, hE, hA, hR, hxe⟩ := id hC
  obtain ⟨hd, rfl, hq⟩ := ckd (fun _ => rfl) ho
  obtain ⟨hG, hP, hD, hS⟩ := id hW
  rw [dq_aastore] at h
  obtain ⟨⟨x, r0⟩, h0, h⟩ := Option.bind_eq_some_iff.mp h
  obtain ⟨⟨i, r1⟩, h1, h⟩ := Option.bind_eq_some_iff.mp h
  obtain ⟨⟨a, r⟩, h2, h⟩ := Option.bind_eq_some_iff.mp h
  obtain ⟨⟨t, n, f⟩, h3, h⟩ := Option.bind_eq_some_iff.mp h
  obtain ⟨⟨ci, vs⟩, h5, h⟩ := Option.bind_eq_some_iff.mp h
  obtain ⟨hb1, h⟩ := gc1_eq h
  obtain ⟨rfl, rfl, rfl, rfl⟩ := go_eq h
  obtain rfl := pA_eq h0
  obtain rfl := pI_eq h1
  obtain rfl := pA_eq h2
  simp only [Bool.and_eq_true] at hb1
  obtain ⟨⟨c1, c2⟩, c3⟩ := hb1
  have hi := inB_in c1
  have c2 := blt_l c2
  have c3 := Nat.eq_of_beq_eq_true c3
  obtain ⟨h4, ht, hn⟩ := ownQ_eq h3
  have h5 := ownO_eq h5
  have ha := lt_of_at h4
  show W p l e R s m args below meth c H locs cells slots Q (F0 m pc ls (mvv xa xe (.ref x) :: .int i :: mvv xa xe (.ref a) :: r.map (mvv xa xe)))
  rw [mvv_own (k := x) c2, mvv_own (k := a) (Nat.lt_of_lt_of_le ha hG)]
  have hlt : i.toNatClampNeg < f.length := by
    have : ¬ n ≤ i.toNatClampNeg := fun q => hi (Or.inr q)
    omega
  have ef : (va_up (fun j => (f.getD j none).map xa) i.toNatClampNeg (some (xa x))) = fun j => ((f.set i.toNatClampNeg (some x)).getD j none).map xa := by
    funext j
    unfold va_up
    by_cases hj : j = i.toNatClampNeg
    · subst hj
      simp [hlt]
    · rw [if_neg hj]
      simp only [List.getD_eq_getElem?_getD, List.getElem?_set]
      rw [if_neg (fun q => hj q.symm)]
  have hkk : ∀ (H1 : Heap) (locs1 : List Loc), va_P D vwCl ((wsW cA xa xe G).set a (xa a, .inl (cA t, n, .inr (.inr (.inr (.inr (va_up (fun j => (f.getD j none).map xa) i.toNatClampNeg (some (xa x))))))))) H1 → va_D A ((wsW cA xa xe G).set a (xa a, .inl (cA t, n, .inr (.inr (.inr (.inr (va_up (fun j => (f.getD j none).map xa) i.toNatClampNeg (some (xa x))))))))) → va_S A s.heap H1 locs1 → W p l e R s m args below meth c H1 locs1 cells slots Q (F0 m (pc + 1) ls (r.map (mvv xa xe))) := by
    intro H1 locs1 z1 z2 z3
    rw [ef] at z1 z2
    exact KK.put kk h4 rfl hG z1 z2 z3 hL
  rcases ht with rfl | rfl
  · have c4 : ci = 6 := c3
    subst c4
    exact va_astq hx hb hK hP hD hS a 3 x 6 (wsW_at h4) (r := (RX6, TX6, 2)) rfl (wsW_at h5) rfl hi hd hkk
  · have c4 : ci = 1 := c3
    subst c4
    exact va_astq hx hb hK hP hD hS a 4 x 1 (wsW_at h4) (r := (RX1, TX1, 2)) rfl (wsW_at h5) rfl hi hd hkk
end STH
end
section
theorem w_aint : Cond.arrayClass .int ∈ lwG := lwG_mem (hasW_mem (h := 127) (by decide +kernel)) rfl
theorem w_abyte : Cond.arrayClass .byte ∈ lwG := lwG_mem (hasW_mem (h := 126) (by decide +kernel)) rfl
theorem w_along : Cond.arrayClass .long ∈ lwG := lwG_mem (hasW_mem (h := 210) (by decide +kernel)) rfl
theorem w_acnat : Cond.native arraycopyName ∈ lwG := lwG_mem (hasW_mem (h := 642) (by decide +kernel)) rfl
theorem w_acst : Cond.static arraycopyName ∈ lwG := lwG_mem (hasW_mem (h := 641) (by decide +kernel)) rfl
theorem w_sys : Cond.initialized "java/lang/System" ∈ lwG := lwG_mem (hasW_mem (h := 96) (by decide +kernel)) rfl
theorem w_math : Cond.initialized "java/lang/Math" ∈ lwG := lwG_mem (hasW_mem (h := 90) (by decide +kernel)) rfl
theorem w_maxst : Cond.static Lib.Math.max.name ∈ lwG := lwG_mem (hasW_mem (h := 458) (by decide +kernel)) rfl
theorem w_maxc : Cond.code Lib.Math.max.name Lib.Math.max.code 2 (some .int) ∈ lwG := lwG_mem (hasW_mem (h := 459) (by decide +kernel)) rfl
theorem w_minst : Cond.static Lib.Math.min.name ∈ lwG := lwG_mem (hasW_mem (h := 455) (by decide +kernel)) rfl
theorem w_minc : Cond.code Lib.Math.min.name Lib.Math.min.code 2 (some .int) ∈ lwG := lwG_mem (hasW_mem (h := 456) (by decide +kernel)) rfl
theorem w_obi : Cond.instanceMethod objectInit ∈ lwG := lwG_mem (hasW_mem (h := 103) (by decide +kernel)) rfl
theorem w_obc : Cond.code objectInit ⟨#[0xb1]⟩ 1 none ∈ lwG := lwG_mem (hasW_mem (h := 104) (by decide +kernel)) rfl
theorem mvv_agree {xa xa' : Nat → Nat} {xe : Nat → Value} {n : Nat} (ha : ∀ j, j < n → xa' j = xa j) (hn : n ≤ 1000) {v : Value} (hv : wfV n v = true) : mvv xa' xe v = mvv xa xe v := by
  cases v with
  | ref k =>
    unfold wfV at hv
    rw [Bool.or_eq_true] at hv
    rcases hv with h | h
    · have := blt_l h
      rw [mvv_own (by omega), mvv_own (by omega), ha k this]
    · have := ble_l h
      rw [mvv_out this, mvv_out this]
  | _ => rfl
theorem map_agree {xa xa' : Nat → Nat} {xe : Nat → Value} {n : Nat} (ha : ∀ j, j < n → xa' j = xa j) (hn : n ≤ 1000) {st : List Value} (hv : st.all (wfV n) = true) : st.map (mvv xa' xe) = st.map (mvv xa xe) :=
  List.map_congr_left fun v h => mvv_agree ha hn (List.all_eq_true.mp hv v h)
theorem cell_agree {cA : Nat → ClassId} {xa xa' : Nat → Nat} {xe : Nat → Value} {n : Nat} (ha : ∀ j, j < n → xa' j = xa j) (hn : n ≤ 1000) {q : mC} (hq : wfC n q = true) : cellW cA xa' xe q = cellW cA xa xe q := by
  rcases q with ⟨t, len, f | f | f⟩ | ⟨ci, fs⟩
  · rfl
  · rfl
  · show (Sum.inl (cA t, len, Sum.inr (Sum.inr (Sum.inr (Sum.inr fun j => (f.getD j none).map xa')))) : va_E) = Sum.inl (cA t, len, Sum.inr (Sum.inr (Sum.inr (Sum.inr fun j => (f.getD j none).map xa))))
    have e : (fun j => (f.getD j none).map xa') = fun j => (f.getD j none).map xa := by
      funext j
      cases hj : f.getD j none with
      | none => rfl
      | some k =>
        have hm : some k ∈ f := by
          rw [List.getD_eq_getElem?_getD] at hj
          cases hq2 : f[j]? with
          | none => rw [hq2] at hj; cases hj
          | some z => rw [hq2] at hj; cases hj; exact List.mem_of_getElem? hq2
        have h1 := List.all_eq_true.mp hq _ hm
        show some (xa' k) = some (xa k)
        rw [ha k (blt_l h1)]
    rw [e]
  · show (Sum.inr (ci, fs.map (mvv xa' xe)) : va_E) = Sum.inr (ci, fs.map (mvv xa xe))
    rw [map_agree ha hn hq]
theorem lR_agree {xa xa' : Nat → Nat} {xe : Nat → Value} {n nL : Nat} (ha : ∀ j, j < n → xa' j = xa j) (hn : n ≤ 1000) {ls : Array Slot} {L : List Value} (hv : L.all (wfV n) = true) (h : lR xa xe ls nL L) : lR xa' xe ls nL L := by
  refine ⟨h.1, h.2.1, h.2.2.1, ?_⟩
  rintro ⟨j, w⟩ hq
  obtain ⟨u, h1, h2, rfl⟩ := lvO_mem.mp hq
  rw [mvv_agree ha hn (List.all_eq_true.mp hv u (List.mem_of_getElem? h1))]
  exact h.2.2.2 _ (lvO_mem.mpr ⟨u, h1, h2, rfl⟩)
theorem wsW_app {cA : Nat → ClassId} {xa xa' : Nat → Nat} {xe : Nat → Value} {G : mH} {q : mC} (ha : ∀ j, j < G.length → xa' j = xa j) (hn : G.length ≤ 1000) (hG : G.all (wfC G.length) = true) : wsW cA xa' xe (G ++ [q]) = wsW cA xa xe G ++ [(xa' G.length, cellW cA xa' xe q)] := by
  unfold wsW
  rw [List.mapIdx_concat]
  congr 1
  apply List.ext_getElem?
  intro i
  rw [List.getElem?_mapIdx, List.getElem?_mapIdx]
  cases hi : G[i]? with
  | none => rfl
  | some z =>
    have h1 := lt_of_at hi
    have h2 := List.all_eq_true.mp hG z (List.mem_of_getElem? hi)
    show some (xa' i, cellW cA xa' xe z) = some (xa i, cellW cA xa xe z)
    rw [ha i h1, cell_agree ha hn h2]
theorem szG_app {G : mH} {q : mC} : szG (G ++ [q]) = szG G + szC q := by
  unfold szG
  simp
section STN
variable {p : Program} {l : Launch} {e : Env} {R : Room} {s : State} {m : MethodId} {args : Array Value} {below : List Frame} {meth : Method} {c : Code} {Q : State → Prop} {D : va_G} {cA : Nat → ClassId} {xe : Nat → Value} {A : Nat → Prop} {SL : Nat} {sx : Nat → Int32} {dep k pc : Nat} {xa : Nat → Nat} {H : Heap} {locs : List Loc} {cells slots : Nat} {ls : Array Slot} {L st : List Value} {G : mH} {pc' : Nat} {L' st' : List Value} {G' : mH} {nx aux j : Nat}
theorem KK.grow {r : List Value} {q : mC} {a : Nat} (kk : KK p l e R s m args below meth c Q D cA xe A k xa G cells slots pc' L' (.ref G.length :: r) (G ++ [q])) (hw : wfA L' r G = true)
    (hP : va_P D vwCl (wsW cA xa xe G ++ [(a, cellW cA (fun j => if j = G.length then a else xa j) xe q)]) H) (hD : va_D A (wsW cA xa xe G ++ [(a, cellW cA (fun j => if j = G.length then a else xa j) xe q)])) (hS : va_S A s.heap H locs) (hL : lR xa xe ls (mMax k) L') : W p l e R s m args below meth c H locs (cells + 1) (slots + szC q) Q (F0 m pc' ls (.ref a :: r.map (mvv xa xe))) := by
  unfold wfA at hw
  simp only [Bool.and_eq_true] at hw
  obtain ⟨⟨⟨w1, w2⟩, w3⟩, w4⟩ := hw
  have w4 := blt_l w4
  have ha : ∀ j, j < G.length → (fun j => if j = G.length then a else xa j) j = xa j := fun j hj => if_neg (Nat.ne_of_lt hj)
  have hn : G.length ≤ 1000 := by omega
  have e1 : (fun j => if j = G.length then a else xa j) G.length = a := if_pos rfl
  have e2 := wsW_app (cA := cA) (xe := xe) (q := q) ha hn w3
  rw [if_pos rfl] at e2
  have z := kk (fun j => if j = G.length then a else xa j) H locs ls (cells + 1) (slots + szC q) (by simp) (by rw [szG_app]; omega) ha (fun h => absurd h (by simp)) ⟨by simp; omega, by rw [e2]; exact hP, by rw [e2]; exact hD, hS⟩ (lR_agree ha hn w1 hL)
  rw [List.map_cons, map_agree ha hn w2, mvv_own (by omega), if_pos rfl] at z
  exact z
theorem s_new {i : Nat} (hC : Cx p R s m args meth c D cA xe A SL sx dep k) (hW : Wd D cA xe A s xa G H locs) (hL : lR xa xe ls (mMax k) L) (ho : chkE k (pc, (.new i, nx, aux), j) = true) (h : dstep SL sx dep k pc (.new i, nx, aux) L st G = some (.inl (pc', L', st', G'))) (hg : cells + (G'.length - G.length) ≤ R.cells ∧ slots + (szG G' - szG G) ≤ R.slots) (kk : KK p l e R s m args below meth c Q D cA xe A k xa G cells slots pc' L' st' G') : W p l e R s m args below meth c H locs cells slots Q (F0 m pc ls (st.map (mvv xa xe))) := by
  obtain ⟨⟨hx, hb, hr, hlk, hml, hown, hts, hin⟩, hK, hE, hA, hR, hxe⟩ := id hC
  obtain ⟨hd, rfl, hq⟩ := ckd (fun _ => rfl) ho
  obtain ⟨hG, hP, hD, hS⟩ := id hW
  rw [dq_new] at h
  obtain ⟨hw, h⟩ := gc1_eq h
  obtain ⟨fs, h1, h⟩ := Option.bind_eq_some_iff.mp h
  obtain ⟨rfl, rfl, rfl, rfl⟩ := go_eq h
  unfold chkX at hq
  dsimp only at hq
  unfold newO at h1
  obtain ⟨q, hq1, hq2⟩ := Option.map_eq_some_iff.mp h1
  rw [hq1] at hq
  simp only [Bool.and_eq_true] at hq
  obtain ⟨⟨x1, x2⟩, x3⟩ := hq
  obtain ⟨hu, ty0, hty, hnm⟩ := cls_ok hq1
  have hlen : fs.length = q.2.2 := by rw [← hq2]; simp
  have hat : ∀ j, j < q.2.2 → fs[j]? = some (defaultValue (ty0 j)) := by
    intro j hj
    rw [← hq2, List.getElem?_map, List.getElem?_range hj]
    show some (match parseFieldDescriptor (q.2.1 j).2.2.1 with
      | some ty => defaultValue ty
      | none => .null) = _
    rw [hty j hj]
  have hmap : ∀ f : Nat → Nat, fs.map (mvv f xe) = fs := by
    intro f
    apply List.ext_getElem?
    intro j
    rw [List.getElem?_map]
    by_cases hj : j < q.2.2
    · rw [hat j hj]
      show some (mvv f xe (defaultValue (ty0 j))) = _
      cases ty0 j <;> rfl
    · rw [List.getElem?_eq_none (by omega)]; rfl
  have g1 : cells + 1 ≤ R.cells := by have := hg.1; simp at this; exact this
  have g2 : slots + q.2.2 ≤ R.slots := by
    have := hg.2
    rw [szG_app, show szC (.inr (aux, fs)) = fs.length from rfl, hlen] at this
    omega
  refine va_new (ci := aux) (fs := fs) (C := q.1) (T := q.2.1) (N := q.2.2) hx hb hts hu ty0 hty hown (hts _ (lwG_mem (hasW_mem x1) rfl)) (hts _ (lwG_mem (hasW_mem x2) rfl)) (hts _ (lwG_mem (hasW_mem x3) rfl)) hK hP hD hS hA hq1 (fun j hj => ?_) g1 g2 hd (fun a H1 z1 z2 z3 => ?_)
  · unfold vp_V
    rw [List.getD_eq_getElem?_getD, hat j hj]; rfl
  · have e1 : cellW cA (fun j => if j = G.length then a else xa j) xe (.inr (aux, fs)) = .inr (aux, fs) := by
      show (Sum.inr (aux, fs.map _) : va_E) = _
      rw [hmap]
    have z := KK.grow (a := a) kk hw (by rw [e1]; exact z1) (by rw [e1]; exact z2) z3 hL
    rw [show szC (.inr (aux, fs)) = fs.length from rfl, hlen] at z
    exact z
theorem s_newarray {i : ArrayType} (hC : Cx p R s m args meth c D cA xe A SL sx dep k) (hW : Wd D cA xe A s xa G H locs) (hL : lR xa xe ls (mMax k) L) (ho : chkE k (pc, (.newarray i, nx, aux), j) = true) (h : dstep SL sx dep k pc (.newarray i, nx, aux) L st G = some (.inl (pc', L', st', G'))) (hg : cells + (G'.length - G.length) ≤ R.cells ∧ slots + (szG G' - szG G) ≤ R.slots) (kk : KK p l e R s m args below meth c Q D cA xe A k xa G cells slots pc' L' st' G') : W p l e R s m args below meth c H locs cells slots Q (F0 m pc ls (st.map (mvv xa xe))) := by
  obtain ⟨⟨hx, hb, hr, hlk, hml, hown, hts, hin⟩, hK, hE, hA, hR, hxe⟩ := id hC
  obtain ⟨hd, rfl, hq⟩ := ckd (fun _ => rfl) ho
  obtain ⟨hG, hP, hD, hS⟩ := id hW
  rw [dq_newarray] at h
  obtain ⟨⟨n, r⟩, h1, h⟩ := Option.bind_eq_some_iff.mp h
  obtain ⟨hw, hz⟩ := gc1_eq h
  clear h
  obtain rfl := pI_eq h1
  simp only [Bool.and_eq_true] at hw
  obtain ⟨⟨w1, w2⟩, w3⟩ := hw
  have w2 := of_decide_eq_true w2
  have w3 := ble_l w3
  unfold chkX at hq
  match aux, hz, hq with
  | 0, h, hq =>
    obtain ⟨rfl, rfl, rfl, rfl⟩ := go_eq h
    obtain rfl := of_decide_eq_true hq
    have g1 : cells + 1 ≤ R.cells := by have := hg.1; simp at this; exact this
    have g2 : slots + n.toNatClampNeg ≤ R.slots := by
      have := hg.2
      rw [szG_app] at this
      have e0 : szC (.inl (0, n.toNatClampNeg, .inl (fun _ => 0))) = n.toNatClampNeg := rfl
      rw [e0] at this
      omega
    refine va_newa (atype := .int) (rest := r.map (mvv xa xe)) (a0 := (n.toNatClampNeg, .inl (fun _ => 0))) hx hb (hts _ w_aint) rfl hK hP hD hS hA (fun cA => rfl) w2 rfl (by show n.toNatClampNeg * 4 ≤ _; omega) g1 g2 hd (fun a cA' H1 hK' z1 z2 z3 => ?_)
    have e2 : cA' = cA 0 := Option.some.inj ((show s.vm.findClass _ = some cA' from (hK'.2 5 _ rfl).2).symm.trans (hK.2 0 _ rfl).2)
    subst e2
    exact KK.grow (a := a) kk w1 z1 z2 z3 hL
  | 1, h, hq =>
    obtain ⟨rfl, rfl, rfl, rfl⟩ := go_eq h
    obtain rfl := of_decide_eq_true hq
    have g1 : cells + 1 ≤ R.cells := by have := hg.1; simp at this; exact this
    have g2 : slots + n.toNatClampNeg ≤ R.slots := by
      have := hg.2
      rw [szG_app] at this
      have e0 : szC (.inl (1, n.toNatClampNeg, .inl (fun _ => 0))) = n.toNatClampNeg := rfl
      rw [e0] at this
      omega
    refine va_newa (atype := .byte) (rest := r.map (mvv xa xe)) (a0 := (n.toNatClampNeg, .inl (fun _ => 0))) hx hb (hts _ w_abyte) rfl hK hP hD hS hA (fun cA => rfl) w2 rfl (by show n.toNatClampNeg * 1 ≤ _; omega) g1 g2 hd (fun a cA' H1 hK' z1 z2 z3 => ?_)
    have e2 : cA' = cA 1 := Option.some.inj ((show s.vm.findClass _ = some cA' from (hK'.2 5 _ rfl).2).symm.trans (hK.2 1 _ rfl).2)
    subst e2
    exact KK.grow (a := a) kk w1 z1 z2 z3 hL
  | 2, h, hq =>
    obtain ⟨rfl, rfl, rfl, rfl⟩ := go_eq h
    obtain rfl := of_decide_eq_true hq
    have g1 : cells + 1 ≤ R.cells := by have := hg.1; simp at this; exact this
    have g2 : slots + n.toNatClampNeg ≤ R.slots := by
      have := hg.2
      rw [szG_app] at this
      have e0 : szC (.inl (2, n.toNatClampNeg, .inr (.inl (fun _ => 0)))) = n.toNatClampNeg := rfl
      rw [e0] at this
      omega
    refine va_newa (atype := .long) (rest := r.map (mvv xa xe)) (a0 := (n.toNatClampNeg, .inr (.inl (fun _ => 0)))) hx hb (hts _ w_along) rfl hK hP hD hS hA (fun cA => rfl) w2 rfl (by show n.toNatClampNeg * 8 ≤ _; omega) g1 g2 hd (fun a cA' H1 hK' z1 z2 z3 => ?_)
    have e2 : cA' = cA 2 := Option.some.inj ((show s.vm.findClass _ = some cA' from (hK'.2 5 _ rfl).2).symm.trans (hK.2 2 _ rfl).2)
    subst e2
    exact KK.grow (a := a) kk w1 z1 z2 z3 hL
  | y + 3, h, hq => cases h
theorem s_anewarray {i : Nat} (hC : Cx p R s m args meth c D cA xe A SL sx dep k) (hW : Wd D cA xe A s xa G H locs) (hL : lR xa xe ls (mMax k) L) (ho : chkE k (pc, (.anewarray i, nx, aux), j) = true) (h : dstep SL sx dep k pc (.anewarray i, nx, aux) L st G = some (.inl (pc', L', st', G'))) (hg : cells + (G'.length - G.length) ≤ R.cells ∧ slots + (szG G' - szG G) ≤ R.slots) (kk : KK p l e R s m args below meth c Q D cA xe A k xa G cells slots pc' L' st' G') : W p l e R s m args below meth c H locs cells slots Q (F0 m pc ls (st.map (mvv xa xe))) := by
  obtain ⟨⟨hx, hb, hr, hlk, hml, hown, hts, hin⟩, hK, hE, hA, hR, hxe⟩ := id hC
  obtain ⟨hd, rfl, hq⟩ := ckd (fun _ => rfl) ho
  obtain ⟨hG, hP, hD, hS⟩ := id hW
  rw [dq_anewarray] at h
  obtain ⟨⟨n, r⟩, h1, h⟩ := Option.bind_eq_some_iff.mp h
  obtain ⟨hw, h⟩ := gc1_eq h
  obtain ⟨rfl, rfl, rfl, rfl⟩ := go_eq h
  obtain rfl := pI_eq h1
  simp only [Bool.and_eq_true, Bool.or_eq_true] at hw
  obtain ⟨⟨⟨w1, w2⟩, w3⟩, w4⟩ := hw
  have w2 := of_decide_eq_true w2
  have w3 := ble_l w3
  obtain ⟨-, -, -, -, -, -, -, h8, h9⟩ := hE
  unfold chkX at hq
  dsimp only at hq
  have g1 : cells + 1 ≤ R.cells := by have := hg.1; simp at this; exact this
  have g2 : slots + n.toNatClampNeg ≤ R.slots := by
    have := hg.2
    rw [szG_app] at this
    have e0 : szC (.inl (aux, n.toNatClampNeg, .inr (.inr (List.replicate n.toNatClampNeg none)))) = n.toNatClampNeg := rfl
    rw [e0] at this
    omega
  have ef : ∀ f : Nat → Nat, (fun j => ((List.replicate n.toNatClampNeg (none : Option Nat)).getD j none).map f) = fun _ => none := by
    intro f
    funext j
    rw [List.getD_eq_getElem?_getD, List.getElem?_replicate]
    split <;> rfl
  have ec : ∀ (t : Nat) (f : Nat → Nat), cellW cA f xe (.inl (t, n.toNatClampNeg, .inr (.inr (List.replicate n.toNatClampNeg none)))) = .inl (cA t, n.toNatClampNeg, .inr (.inr (.inr (.inr (fun _ => none))))) := by
    intro t f
    show (Sum.inl (cA t, n.toNatClampNeg, Sum.inr (Sum.inr (Sum.inr (Sum.inr _)))) : va_E) = _
    rw [ef]
  rcases w4 with w4 | w4
  · obtain rfl := Nat.eq_of_beq_eq_true w4
    refine va_newq (rest := r.map (mvv xa xe)) hx hb hown (hts _ (lwG_mem (hasW_mem hq) rfl)) h8 hK hP hD hS hA w2 rfl (by omega) g1 g2 hd (fun a cA' H1 hK' z1 z2 z3 => ?_)
    obtain ⟨_, _, _, _, _, y1⟩ := (hK'.2 5 _ rfl).2
    obtain ⟨_, _, _, _, _, y2⟩ := (hK.2 3 _ rfl).2
    have e2 : cA' = cA 3 := Option.some.inj (y1.symm.trans y2)
    subst e2
    exact KK.grow (a := a) kk w1 (by rw [ec]; exact z1) (by rw [ec]; exact z2) z3 hL
  · obtain rfl := Nat.eq_of_beq_eq_true w4
    refine va_newq (rest := r.map (mvv xa xe)) hx hb hown (hts _ (lwG_mem (hasW_mem hq) rfl)) h9 hK hP hD hS hA w2 rfl (by omega) g1 g2 hd (fun a cA' H1 hK' z1 z2 z3 => ?_)
    obtain ⟨_, _, _, _, _, y1⟩ := (hK'.2 5 _ rfl).2
    obtain ⟨_, _, _, _, _, y2⟩ := (hK.2 4 _ rfl).2
    have e2 : cA' = cA 4 := Option.some.inj (y1.symm.trans y2)
    subst e2
    exact KK.grow (a := a) kk w1 (by rw [ec]; exact z1) (by rw [ec]; exact z2) z3 hL
theorem s_static {i : Nat} (hC : Cx p R s m args meth c D cA xe A SL sx dep k) (hW : Wd D cA xe A s xa G H locs) (hL : lR xa xe ls (mMax k) L) (ho : chkE k (pc, (.invokestatic i, nx, aux), j) = true) (h : dstep SL sx dep k pc (.invokestatic i, nx, aux) L st G = some (.inl (pc', L', st', G'))) (hg : cells + (G'.length - G.length) ≤ R.cells ∧ slots + (szG G' - szG G) ≤ R.slots) (kk : KK p l e R s m args below meth c Q D cA xe A k xa G cells slots pc' L' st' G') : W p l e R s m args below meth c H locs cells slots Q (F0 m pc ls (st.map (mvv xa xe))) := by
  obtain ⟨⟨hx, hb, hr, hlk, hml, hown, hts, hin⟩, hK, hE, hA, hR, hxe⟩ := id hC
  obtain ⟨hd, rfl, hq⟩ := ckd (fun _ => rfl) ho
  obtain ⟨hG, hP, hD, hS⟩ := id hW
  have hsz : c.maxLocals = ls.size := by rw [hml]; exact hL.2.1.symm
  rw [dq_invokestatic] at h
  unfold chkX at hq
  dsimp only at hq
  cases h1 : Nat.beq aux 901 with
  | true =>
    rw [h1, cond_true] at h hq
    split at h
    · rename_i n dp b sp a r
      obtain ⟨⟨n0, f⟩, h2, h⟩ := Option.bind_eq_some_iff.mp h
      obtain ⟨⟨n1, g⟩, h3, h⟩ := Option.bind_eq_some_iff.mp h
      obtain ⟨hw, h⟩ := gc1_eq h
      obtain ⟨rfl, rfl, rfl, rfl⟩ := go_eq h
      simp only [Bool.and_eq_true, decide_eq_true_eq] at hw
      obtain ⟨⟨⟨⟨⟨⟨w1, w2⟩, w3⟩, w4⟩, w5⟩, w6⟩, w7⟩ := hw
      have w4 := ble_l w4
      have w5 := ble_l w5
      have w6 := blt_l w6
      have w7 := ble_l w7
      have h2 := ownI_eq h2
      have h3 := ownI_eq h3
      have ha := lt_of_at h2
      have hb2 := lt_of_at h3
      show W p l e R s m args below meth c H locs cells slots Q (F0 m pc ls (.int n :: .int dp :: mvv xa xe (.ref b) :: .int sp :: mvv xa xe (.ref a) :: r.map (mvv xa xe)))
      rw [mvv_own (k := b) (Nat.lt_of_lt_of_le hb2 hG), mvv_own (k := a) (Nat.lt_of_lt_of_le ha hG)]
      refine va_copyi (ty := .int) hx hb hsz hown (hts _ (lwG_mem (hasW_mem hq) rfl)) (hts _ w_acnat) (hts _ w_acst) (hts _ w_sys) hK hP hD hS a b 0 0 (wsW_at h2) (wsW_at h3) rfl rfl rfl w1 w2 w3 w4 w5 (fun _ _ => rfl) (by omega) ?_ hd (fun H1 locs1 z1 z2 z3 => KK.put kk h3 rfl hG z1 z2 z3 hL)
      rw [mvv_catS hxe]
      have e0 : nativeFrameWords "java/lang/System" "arraycopy" 5 = 7 := by decide
      rw [e0]
      omega
    · cases h
  | false =>
    rw [h1, cond_false] at h hq
    cases h2 : Nat.beq aux 902 with
    | true =>
      rw [h2, cond_true] at h hq
      obtain ⟨⟨y, r1⟩, h3, h⟩ := Option.bind_eq_some_iff.mp h
      obtain ⟨⟨x, r⟩, h4, h⟩ := Option.bind_eq_some_iff.mp h
      obtain ⟨hw, h⟩ := gc1_eq h
      obtain ⟨rfl, rfl, rfl, rfl⟩ := go_eq h
      obtain rfl := pI_eq h3
      obtain rfl := pI_eq h4
      rw [Bool.and_eq_true] at hw
      have w1 := blt_l hw.1
      have w2 := ble_l hw.2
      exact va_mmax (x := x) (y := y) (rest := r.map (mvv xa xe)) hx hb hsz hown (hts _ (lwG_mem (hasW_mem hq) rfl)) (hts _ w_maxst) (hts _ w_math) (hts _ w_maxc) (by omega) (by rw [mvv_catS hxe]; have : catS r ≤ 8 := w2; omega) (by have := hg.1; omega) (by have := hg.2; omega) hd (kk.pure hW hL)
    | false =>
      rw [h2, cond_false] at h hq
      cases h3 : Nat.beq aux 903 with
      | true =>
        rw [h3, cond_true] at h hq
        obtain ⟨⟨y, r1⟩, h4, h⟩ := Option.bind_eq_some_iff.mp h
        obtain ⟨⟨x, r⟩, h5, h⟩ := Option.bind_eq_some_iff.mp h
        obtain ⟨hw, h⟩ := gc1_eq h
        obtain ⟨rfl, rfl, rfl, rfl⟩ := go_eq h
        obtain rfl := pI_eq h4
        obtain rfl := pI_eq h5
        rw [Bool.and_eq_true] at hw
        have w1 := blt_l hw.1
        have w2 := ble_l hw.2
        exact va_mmin (x := x) (y := y) (rest := r.map (mvv xa xe)) hx hb hsz hown (hts _ (lwG_mem (hasW_mem hq) rfl)) (hts _ w_minst) (hts _ w_math) (hts _ w_minc) (by omega) (by rw [mvv_catS hxe]; have : catS r ≤ 8 := w2; omega) (by have := hg.1; omega) (by have := hg.2; omega) hd (kk.pure hW hL)
      | false =>
        rw [h3, cond_false] at h
        obtain ⟨_, h⟩ := gc1_eq h
        unfold call0 at h
        obtain ⟨_, h⟩ := gc1_eq h
        cases h
theorem s_special {i : Nat} (hC : Cx p R s m args meth c D cA xe A SL sx dep k) (hW : Wd D cA xe A s xa G H locs) (hL : lR xa xe ls (mMax k) L) (ho : chkE k (pc, (.invokespecial i, nx, aux), j) = true) (h : dstep SL sx dep k pc (.invokespecial i, nx, aux) L st G = some (.inl (pc', L', st', G'))) (kk : KK p l e R s m args below meth c Q D cA xe A k xa G cells slots pc' L' st' G') : W p l e R s m args below meth c H locs cells slots Q (F0 m pc ls (st.map (mvv xa xe))) := by
  obtain ⟨⟨hx, hb, hr, hlk, hml, hown, hts, hin⟩, hK, hE, hA, hR, hxe⟩ := id hC
  obtain ⟨hd, rfl, hq⟩ := ckd (fun _ => rfl) ho
  rw [dq_invokespecial] at h
  unfold chkX at hq
  dsimp only at hq
  cases h1 : Nat.beq aux 900 with
  | true =>
    rw [h1, cond_true] at h hq
    split at h
    · rename_i a r
      obtain ⟨hw, h⟩ := gc1_eq h
      obtain ⟨rfl, rfl, rfl, rfl⟩ := go_eq h
      simp only [Bool.and_eq_true] at hw
      obtain ⟨⟨w1, w2⟩, w3⟩ := hw
      have w2 := blt_l w2
      have w3 := ble_l w3
      show W p l e R s m args below meth c H locs cells slots Q (F0 m pc ls (mvv xa xe (.ref a) :: r.map (mvv xa xe)))
      rw [mvv_own (blt_l w1)]
      refine W.objInit hx hb hown (hts _ (lwG_mem (hasW_mem hq) rfl)) (hts _ w_obi) (hts _ w_obc) rfl (by rw [hml]; exact hL.2.1) rfl hd (by omega) ?_ (kk.pure hW hL)
      show 2 * 0 + _ + 12 ≤ _
      rw [mvv_catS hxe]
      omega
    · cases h
  | false =>
    rw [h1, cond_false] at h
    obtain ⟨_, h⟩ := gc1_eq h
    unfold call0 at h
    obtain ⟨_, h⟩ := gc1_eq h
    cases h
end STN
end
section
/-! ANY INSTRUCTION -/
def grw (G : mH) : Option mR → Prop
  | some (.inl q) => G.length ≤ q.2.2.2.length ∧ szG G ≤ szG q.2.2.2
  | _ => True
theorem grw_bind {G : mH} {α : Type} {o : Option α} {f : α → Option mR} (h : ∀ x, o = some x → grw G (f x)) : grw G (o.bind f) := by
  cases o with
  | none => trivial
  | some x => exact h x rfl
theorem grw_gc {G : mH} {b : Bool} {r : Option mR} (h : grw G r) : grw G (gc1 b r) := by
  cases b with
  | false => trivial
  | true => exact h
theorem grw_go {G : mH} {e : mI} {L st : List Value} : grw G (go e L st G) := ⟨Nat.le_refl _, Nat.le_refl _⟩
theorem grw_same {G : mH} {pc : Nat} {L st : List Value} : grw G (some (.inl (pc, L, st, G))) := ⟨Nat.le_refl _, Nat.le_refl _⟩
theorem grw_set {G : mH} {e : mI} {L st : List Value} {a : Nat} {q q' : mC} (h : G[a]? = some q) (hz : szC q' = szC q) : grw G (go e L st (G.set a q')) := ⟨by simp, by rw [szG_set h hz]; exact Nat.le_refl _⟩
theorem grw_app {G : mH} {e : mI} {L st : List Value} {q : mC} : grw G (go e L st (G ++ [q])) := ⟨by simp, by rw [szG_app]; omega⟩
theorem grw_call {G : mH} {k : Nat} {e : mI} {st : List Value} : grw G (call0 k e st) := by
  unfold call0
  exact grw_gc trivial
theorem grw_none {G : mH} : grw G none := trivial
theorem dstep_grw (SL : Nat) (sx : Nat → Int32) (dep k pc : Nat) (i : Instr) (nx aux : Nat) (L st : List Value) (G : mH) : grw G (dstep SL sx dep k pc (i, nx, aux) L st G) := by
  cases i with
  | iconst _ => rw [dq_iconst]; repeat' first | exact grw_go | exact grw_same | (refine grw_bind fun _ _ => ?_) | refine grw_gc ?_
  | bipush _ => rw [dq_bipush]; repeat' first | exact grw_go | exact grw_same | (refine grw_bind fun _ _ => ?_) | refine grw_gc ?_
  | sipush _ => rw [dq_sipush]; repeat' first | exact grw_go | exact grw_same | (refine grw_bind fun _ _ => ?_) | refine grw_gc ?_
  | lconst _ => rw [dq_lconst]; repeat' first | exact grw_go | exact grw_same | (refine grw_bind fun _ _ => ?_) | refine grw_gc ?_
  | iload_n _ => rw [dq_iload_n]; repeat' first | exact grw_go | exact grw_same | (refine grw_bind fun _ _ => ?_) | refine grw_gc ?_
  | iload _ => rw [dq_iload]; repeat' first | exact grw_go | exact grw_same | (refine grw_bind fun _ _ => ?_) | refine grw_gc ?_
  | lload_n _ => rw [dq_lload_n]; repeat' first | exact grw_go | exact grw_same | (refine grw_bind fun _ _ => ?_) | refine grw_gc ?_
  | lload _ => rw [dq_lload]; repeat' first | exact grw_go | exact grw_same | (refine grw_bind fun _ _ => ?_) | refine grw_gc ?_
  | aload_n _ => rw [dq_aload_n]; repeat' first | exact grw_go | exact grw_same | (refine grw_bind fun _ _ => ?_) | refine grw_gc ?_
  | aload _ => rw [dq_aload]; repeat' first | exact grw_go | exact grw_same | (refine grw_bind fun _ _ => ?_) | refine grw_gc ?_
  | istore_n _ => rw [dq_istore_n]; repeat' first | exact grw_go | exact grw_same | (refine grw_bind fun _ _ => ?_) | refine grw_gc ?_
  | istore _ => rw [dq_istore]; repeat' first | exact grw_go | exact grw_same | (refine grw_bind fun _ _ => ?_) | refine grw_gc ?_
  | lstore_n _ => rw [dq_lstore_n]; repeat' first | exact grw_go | exact grw_same | (refine grw_bind fun _ _ => ?_) | refine grw_gc ?_
  | lstore _ => rw [dq_lstore]; repeat' first | exact grw_go | exact grw_same | (refine grw_bind fun _ _ => ?_) | refine grw_gc ?_
  | astore_n _ => rw [dq_astore_n]; repeat' first | exact grw_go | exact grw_same | (refine grw_bind fun _ _ => ?_) | refine grw_gc ?_
  | astore _ => rw [dq_astore]; repeat' first | exact grw_go | exact grw_same | (refine grw_bind fun _ _ => ?_) | refine grw_gc ?_
  | iinc _ _ => rw [dq_iinc]; repeat' first | exact grw_go | exact grw_same | (refine grw_bind fun _ _ => ?_) | refine grw_gc ?_
  | iadd => rw [dq_iadd]; repeat' first | exact grw_go | exact grw_same | (refine grw_bind fun _ _ => ?_) | refine grw_gc ?_
  | isub => rw [dq_isub]; repeat' first | exact grw_go | exact grw_same | (refine grw_bind fun _ _ => ?_) | refine grw_gc ?_
  | imul => rw [dq_imul]; repeat' first | exact grw_go | exact grw_same | (refine grw_bind fun _ _ => ?_) | refine grw_gc ?_
  | iand => rw [dq_iand]; repeat' first | exact grw_go | exact grw_same | (refine grw_bind fun _ _ => ?_) | refine grw_gc ?_
  | ior => rw [dq_ior]; repeat' first | exact grw_go | exact grw_same | (refine grw_bind fun _ _ => ?_) | refine grw_gc ?_
  | ixor => rw [dq_ixor]; repeat' first | exact grw_go | exact grw_same | (refine grw_bind fun _ _ => ?_) | refine grw_gc ?_
  | ishl => rw [dq_ishl]; repeat' first | exact grw_go | exact grw_same | (refine grw_bind fun _ _ => ?_) | refine grw_gc ?_
  | ishr => rw [dq_ishr]; repeat' first | exact grw_go | exact grw_same | (refine grw_bind fun _ _ => ?_) | refine grw_gc ?_
  | iushr => rw [dq_iushr]; repeat' first | exact grw_go | exact grw_same | (refine grw_bind fun _ _ => ?_) | refine grw_gc ?_
  | idiv => rw [dq_idiv]; repeat' first | exact grw_go | exact grw_same | (refine grw_bind fun _ _ => ?_) | refine grw_gc ?_
  | irem => rw [dq_irem]; repeat' first | exact grw_go | exact grw_same | (refine grw_bind fun _ _ => ?_) | refine grw_gc ?_
  | ineg => rw [dq_ineg]; repeat' first | exact grw_go | exact grw_same | (refine grw_bind fun _ _ => ?_) | refine grw_gc ?_
  | ladd => rw [dq_ladd]; repeat' first | exact grw_go | exact grw_same | (refine grw_bind fun _ _ => ?_) | refine grw_gc ?_
  | lsub => rw [dq_lsub]; repeat' first | exact grw_go | exact grw_same | (refine grw_bind fun _ _ => ?_) | refine grw_gc ?_
  | lmul => rw [dq_lmul]; repeat' first | exact grw_go | exact grw_same | (refine grw_bind fun _ _ => ?_) | refine grw_gc ?_
  | ldiv => rw [dq_ldiv]; repeat' first | exact grw_go | exact grw_same | (refine grw_bind fun _ _ => ?_) | refine grw_gc ?_
  | lrem => rw [dq_lrem]; repeat' first | exact grw_go | exact grw_same | (refine grw_bind fun _ _ => ?_) | refine grw_gc ?_
  | lneg => rw [dq_lneg]; repeat' first | exact grw_go | exact grw_same | (refine grw_bind fun _ _ => ?_) | refine grw_gc ?_
  | lcmp => rw [dq_lcmp]; repeat' first | exact grw_go | exact grw_same | (refine grw_bind fun _ _ => ?_) | refine grw_gc ?_
  | i2l => rw [dq_i2l]; repeat' first | exact grw_go | exact grw_same | (refine grw_bind fun _ _ => ?_) | refine grw_gc ?_
  | l2i => rw [dq_l2i]; repeat' first | exact grw_go | exact grw_same | (refine grw_bind fun _ _ => ?_) | refine grw_gc ?_
  | i2b => rw [dq_i2b]; repeat' first | exact grw_go | exact grw_same | (refine grw_bind fun _ _ => ?_) | refine grw_gc ?_
  | i2c => rw [dq_i2c]; repeat' first | exact grw_go | exact grw_same | (refine grw_bind fun _ _ => ?_) | refine grw_gc ?_
  | ldc_w _ => rw [dq_ldc_w]; repeat' first | exact grw_go | exact grw_same | (refine grw_bind fun _ _ => ?_) | refine grw_gc ?_
  | ldc2_w _ => rw [dq_ldc2_w]; repeat' first | exact grw_go | exact grw_same | (refine grw_bind fun _ _ => ?_) | refine grw_gc ?_
  | getfield _ => rw [dq_getfield]; repeat' first | exact grw_go | exact grw_same | (refine grw_bind fun _ _ => ?_) | refine grw_gc ?_
  | iaload => rw [dq_iaload]; repeat' first | exact grw_go | exact grw_same | (refine grw_bind fun _ _ => ?_) | refine grw_gc ?_
  | baload => rw [dq_baload]; repeat' first | exact grw_go | exact grw_same | (refine grw_bind fun _ _ => ?_) | refine grw_gc ?_
  | laload => rw [dq_laload]; repeat' first | exact grw_go | exact grw_same | (refine grw_bind fun _ _ => ?_) | refine grw_gc ?_
  | arraylength => rw [dq_arraylength]; repeat' first | exact grw_go | exact grw_same | (refine grw_bind fun _ _ => ?_) | refine grw_gc ?_
  | ifCond _ _ => rw [dq_ifCond]; repeat' first | exact grw_same | (refine grw_bind fun _ _ => ?_) | refine grw_gc ?_
  | if_icmp _ _ => rw [dq_if_icmp]; repeat' first | exact grw_same | (refine grw_bind fun _ _ => ?_) | refine grw_gc ?_
  | goto _ => rw [dq_goto]; repeat' first | exact grw_same | (refine grw_bind fun _ _ => ?_) | refine grw_gc ?_
  | tableswitch _ _ _ _ => rw [dq_tableswitch]; repeat' first | exact grw_same | (refine grw_bind fun _ _ => ?_) | refine grw_gc ?_
  | dup => rw [dq_dup]; split <;> first | exact grw_none | exact grw_gc grw_go
  | dup2 => rw [dq_dup2]; split <;> first | exact grw_none | exact grw_gc grw_go
  | pop => rw [dq_pop]; split <;> first | exact grw_none | exact grw_gc grw_go
  | ldc _ => rw [dq_ldc]; cases Nat.blt aux 4294967296 <;> first | exact grw_go | exact grw_gc grw_go
  | getstatic _ => rw [dq_getstatic]; split <;> first | exact grw_go | exact grw_none
  | aaload =>
    rw [dq_aaload]
    refine grw_bind fun _ _ => grw_bind fun _ _ => grw_bind fun _ _ => grw_gc ?_
    split <;> first | exact grw_none | exact grw_gc grw_go
  | putfield _ =>
    rw [dq_putfield]
    split
    · refine grw_bind fun o ho => grw_gc (grw_set (ownO_eq ho) (by simp [szC]))
    · exact grw_none
  | iastore =>
    rw [dq_iastore]
    refine grw_bind fun _ _ => grw_bind fun _ _ => grw_bind fun _ _ => grw_bind fun o ho => grw_gc (grw_set (ownI_eq (n := o.1) (f := o.2) ho) rfl)
  | bastore =>
    rw [dq_bastore]
    refine grw_bind fun _ _ => grw_bind fun _ _ => grw_bind fun _ _ => grw_bind fun o ho => grw_gc (grw_set (ownI_eq (n := o.1) (f := o.2) ho) rfl)
  | lastore =>
    rw [dq_lastore]
    refine grw_bind fun _ _ => grw_bind fun _ _ => grw_bind fun _ _ => grw_bind fun o ho => grw_gc (grw_set (ownJ_eq (n := o.1) (f := o.2) ho) rfl)
  | aastore =>
    rw [dq_aastore]
    refine grw_bind fun _ _ => grw_bind fun _ _ => grw_bind fun _ _ => grw_bind fun o ho => grw_bind fun _ _ => grw_gc (grw_set (ownQ_eq (t := o.1) (n := o.2.1) (f := o.2.2) ho).1 rfl)
  | new _ => rw [dq_new]; exact grw_gc (grw_bind fun _ _ => grw_app)
  | newarray _ =>
    rw [dq_newarray]
    refine grw_bind fun _ _ => grw_gc ?_
    split <;> first | exact grw_app | exact grw_none
  | anewarray _ => rw [dq_anewarray]; exact grw_bind fun _ _ => grw_gc grw_app
  | invokevirtual _ => rw [dq_invokevirtual]; exact grw_gc grw_call
  | invokestatic _ =>
    rw [dq_invokestatic]
    cases Nat.beq aux 901 with
    | true =>
      rw [cond_true]
      split
      · exact grw_bind fun _ _ => grw_bind fun o ho => grw_gc (grw_set (ownI_eq (n := o.1) (f := o.2) ho) rfl)
      · exact grw_none
    | false =>
      rw [cond_false]
      cases Nat.beq aux 902 with
      | true => exact grw_bind fun _ _ => grw_bind fun _ _ => grw_gc grw_go
      | false =>
        rw [cond_false]
        cases Nat.beq aux 903 with
        | true => exact grw_bind fun _ _ => grw_bind fun _ _ => grw_gc grw_go
        | false => exact grw_gc grw_call
  | invokespecial _ =>
    rw [dq_invokespecial]
    cases Nat.beq aux 900 with
    | true =>
      rw [cond_true]
      split
      · exact grw_gc grw_go
      · exact grw_none
    | false => exact grw_gc grw_call
  | ireturn =>
    rw [dq_ireturn]
    split
    · exact grw_gc trivial
    · exact grw_none
  | areturn =>
    rw [dq_areturn]
    split
    · exact grw_gc trivial
    · exact grw_none
  | return_ =>
    rw [dq_return_]
    split
    · exact grw_gc trivial
    · exact grw_none
  | _ => exact grw_none
theorem dexec_grw {SL : Nat} {sx : Nat → Int32} : ∀ (n dep k pc : Nat) (L st : List Value) (G : mH) (r : Option Value) (G' : mH), dexec SL sx n dep k pc L st G = some (r, G') → G.length ≤ G'.length ∧ szG G ≤ szG G' := by
  intro n
  induction n with
  | zero => intro dep k pc L st G r G' h; cases h
  | succ n ih =>
    intro dep k pc L st G r G' h
    unfold dexec at h
    cases hp : prog k pc with
    | none => rw [hp] at h; cases h
    | some e =>
      rw [hp] at h
      dsimp only at h
      obtain ⟨i, nx, aux⟩ := e
      have hgr := dstep_grw SL sx dep k pc i nx aux L st G
      cases hs : dstep SL sx dep k pc (i, nx, aux) L st G with
      | none => rw [hs] at h; cases h
      | some q =>
        rw [hs] at h hgr
        rcases q with ⟨pc1, L1, st1, G1⟩ | r1 | ⟨k1, as, pc1, rest⟩
        · dsimp only at h
          obtain ⟨z1, z2⟩ := ih _ _ _ _ _ _ _ _ h
          have z3 : G.length ≤ G1.length ∧ szG G ≤ szG G1 := hgr
          exact ⟨Nat.le_trans z3.1 z1, Nat.le_trans z3.2 z2⟩
        · dsimp only at h
          cases h
          exact ⟨Nat.le_refl _, Nat.le_refl _⟩
        · dsimp only at h
          cases dep with
          | zero => cases h
          | succ d =>
            dsimp only at h
            cases hc : dexec SL sx n d k1 0 (entL (mMax k1) as) [] G with
            | none => rw [hc] at h; cases h
            | some z =>
              obtain ⟨r1, G1⟩ := z
              rw [hc] at h
              dsimp only at h
              cases hb : wfB G.length G1.length L rest G with
              | false => rw [hb] at h; cases h
              | true =>
                rw [hb, cond_true] at h
                obtain ⟨y1, y2⟩ := ih _ _ _ _ _ _ _ _ hc
                obtain ⟨z1, z2⟩ := ih _ _ _ _ _ _ _ _ h
                exact ⟨Nat.le_trans y1 z1, Nat.le_trans y2 z2⟩
section STA
variable {p : Program} {l : Launch} {e : Env} {R : Room} {s : State} {m : MethodId} {args : Array Value} {below : List Frame} {meth : Method} {c : Code} {Q : State → Prop} {D : va_G} {cA : Nat → ClassId} {xe : Nat → Value} {A : Nat → Prop} {SL : Nat} {sx : Nat → Int32} {dep k pc : Nat} {xa : Nat → Nat} {H : Heap} {locs : List Loc} {cells slots : Nat} {ls : Array Slot} {L st : List Value} {G : mH} {pc' : Nat} {L' st' : List Value} {G' : mH} {nx aux j : Nat}
theorem none_inl {α : Prop} (h : (none : Option mR) = some (.inl (pc', L', st', G'))) : α := by cases h
theorem step_ok {i : Instr} (hC : Cx p R s m args meth c D cA xe A SL sx dep k) (hW : Wd D cA xe A s xa G H locs) (hL : lR xa xe ls (mMax k) L) (ho : chkE k (pc, (i, nx, aux), j) = true) (h : dstep SL sx dep k pc (i, nx, aux) L st G = some (.inl (pc', L', st', G'))) (hg : cells + (G'.length - G.length) ≤ R.cells ∧ slots + (szG G' - szG G) ≤ R.slots) (kk : KK p l e R s m args below meth c Q D cA xe A k xa G cells slots pc' L' st' G') : W p l e R s m args below meth c H locs cells slots Q (F0 m pc ls (st.map (mvv xa xe))) := by
  cases i with
  | iconst _ => exact s_iconst hC hW hL ho h hg kk
  | bipush _ => exact s_bipush hC hW hL ho h hg kk
  | sipush _ => exact s_sipush hC hW hL ho h hg kk
  | lconst _ => exact s_lconst hC hW hL ho h hg kk
  | iload_n _ => exact s_iload_n hC hW hL ho h hg kk
  | iload _ => exact s_iload hC hW hL ho h hg kk
  | lload_n _ => exact s_lload_n hC hW hL ho h hg kk
  | lload _ => exact s_lload hC hW hL ho h hg kk
  | aload_n _ => exact s_aload_n hC hW hL ho h hg kk
  | aload _ => exact s_aload hC hW hL ho h hg kk
  | istore_n _ => exact s_istore_n hC hW hL ho h hg kk
  | istore _ => exact s_istore hC hW hL ho h hg kk
  | lstore_n _ => exact s_lstore_n hC hW hL ho h hg kk
  | lstore _ => exact s_lstore hC hW hL ho h hg kk
  | astore_n _ => exact s_astore_n hC hW hL ho h hg kk
  | astore _ => exact s_astore hC hW hL ho h hg kk
  | iinc _ _ => exact s_iinc hC hW hL ho h hg kk
  | iadd => exact s_iadd hC hW hL ho h hg kk
  | isub => exact s_isub hC hW hL ho h hg kk
  | imul => exact s_imul hC hW hL ho h hg kk
  | iand => exact s_iand hC hW hL ho h hg kk
  | ior => exact s_ior hC hW hL ho h hg kk
  | ixor => exact s_ixor hC hW hL ho h hg kk
  | ishl => exact s_ishl hC hW hL ho h hg kk
  | ishr => exact s_ishr hC hW hL ho h hg kk
  | iushr => exact s_iushr hC hW hL ho h hg kk
  | idiv => exact s_idiv hC hW hL ho h hg kk
  | irem => exact s_irem hC hW hL ho h hg kk
  | ineg => exact s_ineg hC hW hL ho h hg kk
  | ladd => exact s_ladd hC hW hL ho h hg kk
  | lsub => exact s_lsub hC hW hL ho h hg kk
  | lmul => exact s_lmul hC hW hL ho h hg kk
  | ldiv => exact s_ldiv hC hW hL ho h hg kk
  | lrem => exact s_lrem hC hW hL ho h hg kk
  | lneg => exact s_lneg hC hW hL ho h hg kk
  | lcmp => exact s_lcmp hC hW hL ho h hg kk
  | i2l => exact s_i2l hC hW hL ho h hg kk
  | l2i => exact s_l2i hC hW hL ho h hg kk
  | i2b => exact s_i2b hC hW hL ho h hg kk
  | i2c => exact s_i2c hC hW hL ho h hg kk
  | dup => exact s_dup hC hW hL ho h hg kk
  | dup2 => exact s_dup2 hC hW hL ho h hg kk
  | pop => exact s_pop hC hW hL ho h hg kk
  | goto _ => exact s_goto hC hW hL ho h hg kk
  | tableswitch _ _ _ _ => exact s_tableswitch hC hW hL ho h hg kk
  | ldc _ => exact s_ldc hC hW hL ho h kk
  | ldc_w _ => exact s_ldc_w hC hW hL ho h kk
  | ldc2_w _ => exact s_ldc2_w hC hW hL ho h kk
  | getfield _ => exact s_getfield hC hW hL ho h kk
  | putfield _ => exact s_putfield hC hW hL ho h kk
  | getstatic _ => exact s_getstatic hC hW hL ho h kk
  | iaload => exact s_iaload hC hW hL ho h kk
  | baload => exact s_baload hC hW hL ho h kk
  | laload => exact s_laload hC hW hL ho h kk
  | aaload => exact s_aaload hC hW hL ho h kk
  | iastore => exact s_iastore hC hW hL ho h kk
  | bastore => exact s_bastore hC hW hL ho h kk
  | lastore => exact s_lastore hC hW hL ho h kk
  | aastore => exact s_aastore hC hW hL ho h kk
  | arraylength => exact s_arraylength hC hW hL ho h kk
  | new _ => exact s_new hC hW hL ho h hg kk
  | newarray _ => exact s_newarray hC hW hL ho h hg kk
  | anewarray _ => exact s_anewarray hC hW hL ho h hg kk
  | ifCond co _ => cases co with
    | eq => exact s_if_eq hC hW hL ho h hg kk
    | ne => exact s_if_ne hC hW hL ho h hg kk
    | lt => exact s_if_lt hC hW hL ho h hg kk
    | ge => exact s_if_ge hC hW hL ho h hg kk
    | gt => exact s_if_gt hC hW hL ho h hg kk
    | le => exact s_if_le hC hW hL ho h hg kk
  | if_icmp co _ => cases co with
    | eq => exact s_icmp_eq hC hW hL ho h hg kk
    | ne => exact s_icmp_ne hC hW hL ho h hg kk
    | lt => exact s_icmp_lt hC hW hL ho h hg kk
    | ge => exact s_icmp_ge hC hW hL ho h hg kk
    | gt => exact s_icmp_gt hC hW hL ho h hg kk
    | le => exact s_icmp_le hC hW hL ho h hg kk
  | invokestatic _ => exact s_static hC hW hL ho h hg kk
  | invokespecial _ => exact s_special hC hW hL ho h kk
  | invokevirtual _ =>
    rw [dq_invokevirtual] at h
    obtain ⟨_, h⟩ := gc1_eq h
    unfold call0 at h
    obtain ⟨_, h⟩ := gc1_eq h
    cases h
  | ireturn =>
    rw [dq_ireturn] at h
    split at h
    · obtain ⟨_, h⟩ := gc1_eq h
      cases h
    · cases h
  | areturn =>
    rw [dq_areturn] at h
    split at h
    · obtain ⟨_, h⟩ := gc1_eq h
      cases h
    · cases h
  | return_ =>
    rw [dq_return_] at h
    split at h
    · obtain ⟨_, h⟩ := gc1_eq h
      cases h
    · cases h
  | _ => exact none_inl h
end STA
end
section
def inl (r : Option mR) : Prop := match r with
  | some (.inr _) => False
  | _ => True
theorem inl_bind {α : Type} {o : Option α} {f : α → Option mR} (h : ∀ x, inl (f x)) : inl (o.bind f) := by
  cases o with
  | none => trivial
  | some x => exact h x
theorem inl_gc {b : Bool} {r : Option mR} (h : inl r) : inl (gc1 b r) := by
  cases b with
  | false => trivial
  | true => exact h
theorem inl_go {e : mI} {L st : List Value} {G : mH} : inl (go e L st G) := trivial
theorem inl_same {q : Nat × List Value × List Value × mH} : inl (some (.inl q)) := trivial
theorem inl_none : inl none := trivial
theorem inl_not {r : Option mR} {q : Option Value ⊕ (Nat × List Value × Nat × List Value)} (h : inl r) (e : r = some (.inr q)) : False := by
  subst e
  exact h
theorem leaves {SL : Nat} {sx : Nat → Int32} {dep k pc : Nat} {i : Instr} {nx aux : Nat} {L st : List Value} {G : mH} {q : Option Value ⊕ (Nat × List Value × Nat × List Value)} (h : dstep SL sx dep k pc (i, nx, aux) L st G = some (.inr q)) : (∃ a, i = .invokevirtual a) ∨ (∃ a, i = .invokestatic a) ∨ (∃ a, i = .invokespecial a) ∨ i = .ireturn ∨ i = .areturn ∨ i = .return_ := by
  cases i with
  | iconst _ => exact (inl_not (by rw [dq_iconst]; repeat' first | exact inl_go | exact inl_same | (refine inl_bind fun _ => ?_) | refine inl_gc ?_) h).elim
  | bipush _ => exact (inl_not (by rw [dq_bipush]; repeat' first | exact inl_go | exact inl_same | (refine inl_bind fun _ => ?_) | refine inl_gc ?_) h).elim
  | sipush _ => exact (inl_not (by rw [dq_sipush]; repeat' first | exact inl_go | exact inl_same | (refine inl_bind fun _ => ?_) | refine inl_gc ?_) h).elim
  | lconst _ => exact (inl_not (by rw [dq_lconst]; repeat' first | exact inl_go | exact inl_same | (refine inl_bind fun _ => ?_) | refine inl_gc ?_) h).elim
  | iload_n _ => exact (inl_not (by rw [dq_iload_n]; repeat' first | exact inl_go | exact inl_same | (refine inl_bind fun _ => ?_) | refine inl_gc ?_) h).elim
  | iload _ => exact (inl_not (by rw [dq_iload]; repeat' first | exact inl_go | exact inl_same | (refine inl_bind fun _ => ?_) | refine inl_gc ?_) h).elim
  | lload_n _ => exact (inl_not (by rw [dq_lload_n]; repeat' first | exact inl_go | exact inl_same | (refine inl_bind fun _ => ?_) | refine inl_gc ?_) h).elim
  | lload _ => exact (inl_not (by rw [dq_lload]; repeat' first | exact inl_go | exact inl_same | (refine inl_bind fun _ => ?_) | refine inl_gc ?_) h).elim
  | aload_n _ => exact (inl_not (by rw [dq_aload_n]; repeat' first | exact inl_go | exact inl_same | (refine inl_bind fun _ => ?_) | refine inl_gc ?_) h).elim
  | aload _ => exact (inl_not (by rw [dq_aload]; repeat' first | exact inl_go | exact inl_same | (refine inl_bind fun _ => ?_) | refine inl_gc ?_) h).elim
  | istore_n _ => exact (inl_not (by rw [dq_istore_n]; repeat' first | exact inl_go | exact inl_same | (refine inl_bind fun _ => ?_) | refine inl_gc ?_) h).elim
  | istore _ => exact (inl_not (by rw [dq_istore]; repeat' first | exact inl_go | exact inl_same | (refine inl_bind fun _ => ?_) | refine inl_gc ?_) h).elim
  | lstore_n _ => exact (inl_not (by rw [dq_lstore_n]; repeat' first | exact inl_go | exact inl_same | (refine inl_bind fun _ => ?_) | refine inl_gc ?_) h).elim
  | lstore _ => exact (inl_not (by rw [dq_lstore]; repeat' first | exact inl_go | exact inl_same | (refine inl_bind fun _ => ?_) | refine inl_gc ?_) h).elim
  | astore_n _ => exact (inl_not (by rw [dq_astore_n]; repeat' first | exact inl_go | exact inl_same | (refine inl_bind fun _ => ?_) | refine inl_gc ?_) h).elim
  | astore _ => exact (inl_not (by rw [dq_astore]; repeat' first | exact inl_go | exact inl_same | (refine inl_bind fun _ => ?_) | refine inl_gc ?_) h).elim
  | iinc _ _ => exact (inl_not (by rw [dq_iinc]; repeat' first | exact inl_go | exact inl_same | (refine inl_bind fun _ => ?_) | refine inl_gc ?_) h).elim
  | iadd => exact (inl_not (by rw [dq_iadd]; repeat' first | exact inl_go | exact inl_same | (refine inl_bind fun _ => ?_) | refine inl_gc ?_) h).elim
  | isub => exact (inl_not (by rw [dq_isub]; repeat' first | exact inl_go | exact inl_same | (refine inl_bind fun _ => ?_) | refine inl_gc ?_) h).elim
  | imul => exact (inl_not (by rw [dq_imul]; repeat' first | exact inl_go | exact inl_same | (refine inl_bind fun _ => ?_) | refine inl_gc ?_) h).elim
  | iand => exact (inl_not (by rw [dq_iand]; repeat' first | exact inl_go | exact inl_same | (refine inl_bind fun _ => ?_) | refine inl_gc ?_) h).elim
  | ior => exact (inl_not (by rw [dq_ior]; repeat' first | exact inl_go | exact inl_same | (refine inl_bind fun _ => ?_) | refine inl_gc ?_) h).elim
  | ixor => exact (inl_not (by rw [dq_ixor]; repeat' first | exact inl_go | exact inl_same | (refine inl_bind fun _ => ?_) | refine inl_gc ?_) h).elim
  | ishl => exact (inl_not (by rw [dq_ishl]; repeat' first | exact inl_go | exact inl_same | (refine inl_bind fun _ => ?_) | refine inl_gc ?_) h).elim
  | ishr => exact (inl_not (by rw [dq_ishr]; repeat' first | exact inl_go | exact inl_same | (refine inl_bind fun _ => ?_) | refine inl_gc ?_) h).elim
  | iushr => exact (inl_not (by rw [dq_iushr]; repeat' first | exact inl_go | exact inl_same | (refine inl_bind fun _ => ?_) | refine inl_gc ?_) h).elim
  | idiv => exact (inl_not (by rw [dq_idiv]; repeat' first | exact inl_go | exact inl_same | (refine inl_bind fun _ => ?_) | refine inl_gc ?_) h).elim
  | irem => exact (inl_not (by rw [dq_irem]; repeat' first | exact inl_go | exact inl_same | (refine inl_bind fun _ => ?_) | refine inl_gc ?_) h).elim
  | ineg => exact (inl_not (by rw [dq_ineg]; repeat' first | exact inl_go | exact inl_same | (refine inl_bind fun _ => ?_) | refine inl_gc ?_) h).elim
  | ladd => exact (inl_not (by rw [dq_ladd]; repeat' first | exact inl_go | exact inl_same | (refine inl_bind fun _ => ?_) | refine inl_gc ?_) h).elim
  | lsub => exact (inl_not (by rw [dq_lsub]; repeat' first | exact inl_go | exact inl_same | (refine inl_bind fun _ => ?_) | refine inl_gc ?_) h).elim
  | lmul => exact (inl_not (by rw [dq_lmul]; repeat' first | exact inl_go | exact inl_same | (refine inl_bind fun _ => ?_) | refine inl_gc ?_) h).elim
  | ldiv => exact (inl_not (by rw [dq_ldiv]; repeat' first | exact inl_go | exact inl_same | (refine inl_bind fun _ => ?_) | refine inl_gc ?_) h).elim
  | lrem => exact (inl_not (by rw [dq_lrem]; repeat' first | exact inl_go | exact inl_same | (refine inl_bind fun _ => ?_) | refine inl_gc ?_) h).elim
  | lneg => exact (inl_not (by rw [dq_lneg]; repeat' first | exact inl_go | exact inl_same | (refine inl_bind fun _ => ?_) | refine inl_gc ?_) h).elim
  | lcmp => exact (inl_not (by rw [dq_lcmp]; repeat' first | exact inl_go | exact inl_same | (refine inl_bind fun _ => ?_) | refine inl_gc ?_) h).elim
  | i2l => exact (inl_not (by rw [dq_i2l]; repeat' first | exact inl_go | exact inl_same | (refine inl_bind fun _ => ?_) | refine inl_gc ?_) h).elim
  | l2i => exact (inl_not (by rw [dq_l2i]; repeat' first | exact inl_go | exact inl_same | (refine inl_bind fun _ => ?_) | refine inl_gc ?_) h).elim
  | i2b => exact (inl_not (by rw [dq_i2b]; repeat' first | exact inl_go | exact inl_same | (refine inl_bind fun _ => ?_) | refine inl_gc ?_) h).elim
  | i2c => exact (inl_not (by rw [dq_i2c]; repeat' first | exact inl_go | exact inl_same | (refine inl_bind fun _ => ?_) | refine inl_gc ?_) h).elim
  | goto _ => exact (inl_not (by rw [dq_goto]; repeat' first | exact inl_go | exact inl_same | (refine inl_bind fun _ => ?_) | refine inl_gc ?_) h).elim
  | tableswitch _ _ _ _ => exact (inl_not (by rw [dq_tableswitch]; repeat' first | exact inl_go | exact inl_same | (refine inl_bind fun _ => ?_) | refine inl_gc ?_) h).elim
  | ldc_w _ => exact (inl_not (by rw [dq_ldc_w]; repeat' first | exact inl_go | exact inl_same | (refine inl_bind fun _ => ?_) | refine inl_gc ?_) h).elim
  | ldc2_w _ => exact (inl_not (by rw [dq_ldc2_w]; repeat' first | exact inl_go | exact inl_same | (refine inl_bind fun _ => ?_) | refine inl_gc ?_) h).elim
  | getfield _ => exact (inl_not (by rw [dq_getfield]; repeat' first | exact inl_go | exact inl_same | (refine inl_bind fun _ => ?_) | refine inl_gc ?_) h).elim
  | iaload => exact (inl_not (by rw [dq_iaload]; repeat' first | exact inl_go | exact inl_same | (refine inl_bind fun _ => ?_) | refine inl_gc ?_) h).elim
  | baload => exact (inl_not (by rw [dq_baload]; repeat' first | exact inl_go | exact inl_same | (refine inl_bind fun _ => ?_) | refine inl_gc ?_) h).elim
  | laload => exact (inl_not (by rw [dq_laload]; repeat' first | exact inl_go | exact inl_same | (refine inl_bind fun _ => ?_) | refine inl_gc ?_) h).elim
  | arraylength => exact (inl_not (by rw [dq_arraylength]; repeat' first | exact inl_go | exact inl_same | (refine inl_bind fun _ => ?_) | refine inl_gc ?_) h).elim
  | iastore => exact (inl_not (by rw [dq_iastore]; repeat' first | exact inl_go | exact inl_same | (refine inl_bind fun _ => ?_) | refine inl_gc ?_) h).elim
  | bastore => exact (inl_not (by rw [dq_bastore]; repeat' first | exact inl_go | exact inl_same | (refine inl_bind fun _ => ?_) | refine inl_gc ?_) h).elim
  | lastore => exact (inl_not (by rw [dq_lastore]; repeat' first | exact inl_go | exact inl_same | (refine inl_bind fun _ => ?_) | refine inl_gc ?_) h).elim
  | aastore => exact (inl_not (by rw [dq_aastore]; repeat' first | exact inl_go | exact inl_same | (refine inl_bind fun _ => ?_) | refine inl_gc ?_) h).elim
  | new _ => exact (inl_not (by rw [dq_new]; repeat' first | exact inl_go | exact inl_same | (refine inl_bind fun _ => ?_) | refine inl_gc ?_) h).elim
  | anewarray _ => exact (inl_not (by rw [dq_anewarray]; repeat' first | exact inl_go | exact inl_same | (refine inl_bind fun _ => ?_) | refine inl_gc ?_) h).elim
  | ifCond _ _ => exact (inl_not (by rw [dq_ifCond]; repeat' first | exact inl_go | exact inl_same | (refine inl_bind fun _ => ?_) | refine inl_gc ?_) h).elim
  | if_icmp _ _ => exact (inl_not (by rw [dq_if_icmp]; repeat' first | exact inl_go | exact inl_same | (refine inl_bind fun _ => ?_) | refine inl_gc ?_) h).elim
  | dup => exact (inl_not (by rw [dq_dup]; split <;> first | exact inl_none | exact inl_gc inl_go) h).elim
  | dup2 => exact (inl_not (by rw [dq_dup2]; split <;> first | exact inl_none | exact inl_gc inl_go) h).elim
  | pop => exact (inl_not (by rw [dq_pop]; split <;> first | exact inl_none | exact inl_gc inl_go) h).elim
  | ldc _ => exact (inl_not (by rw [dq_ldc]; cases Nat.blt aux 4294967296 <;> first | exact inl_go | exact inl_gc inl_go) h).elim
  | getstatic _ => exact (inl_not (by rw [dq_getstatic]; split <;> first | exact inl_go | exact inl_none) h).elim
  | aaload => exact (inl_not (by
    rw [dq_aaload]
    refine inl_bind fun _ => inl_bind fun _ => inl_bind fun _ => inl_gc ?_
    split <;> first | exact inl_none | exact inl_gc inl_go) h).elim
  | putfield _ => exact (inl_not (by
    rw [dq_putfield]
    split
    · exact inl_bind fun o => inl_gc inl_go
    · exact inl_none) h).elim
  | newarray _ => exact (inl_not (by
    rw [dq_newarray]
    refine inl_bind fun _ => inl_gc ?_
    split <;> first | exact inl_go | exact inl_none) h).elim
  | invokevirtual a => exact Or.inl ⟨a, rfl⟩
  | invokestatic a => exact Or.inr (Or.inl ⟨a, rfl⟩)
  | invokespecial a => exact Or.inr (Or.inr (Or.inl ⟨a, rfl⟩))
  | ireturn => exact Or.inr (Or.inr (Or.inr (Or.inl rfl)))
  | areturn => exact Or.inr (Or.inr (Or.inr (Or.inr (Or.inl rfl))))
  | return_ => exact Or.inr (Or.inr (Or.inr (Or.inr (Or.inr rfl))))
  | _ => exact (inl_not inl_none h).elim
set_option maxRecDepth 100000 in
theorem w_nl : lw_tbl.all (fun w => match w with
  | .methodLink _ _ y => decide (y.cls ≠ "DeckBenchLaw")
  | _ => true) = true := by decide +kernel
theorem w_nolaw {own : String} {i : Nat} : ¬ Cond.methodLink own i (mName 0) ∈ lw_tbl := by
  intro h
  have h1 := List.all_eq_true.mp w_nl _ h
  exact absurd (of_decide_eq_true h1) (by decide +kernel)
end
section
/-! A WHOLE RUN: what the small machine does, the great one does -/
def rOk (op : Instr) (r : Option Value) (rt : Option FieldType) : Prop :=
  (∃ v ty, r = some (.int v) ∧ op = .ireturn ∧ rt = some ty ∧ narrow ty (.int v) = .int v) ∨ (∃ a n, r = some (.ref a) ∧ op = .areturn ∧ rt = some (.object n) ∧ a < 1000) ∨ (r = none ∧ op = .return_ ∧ rt = none)
def RT (p : Program) (l : Launch) (e : Env) (R : Room) (s : State) (m : MethodId) (args : Array Value) (below : List Frame) (meth : Method) (c : Code) (Q : State → Prop) (D : va_G) (cA : Nat → ClassId) (xe : Nat → Value) (A : Nat → Prop) (k : Nat) (xa : Nat → Nat) (G : mH) (cells slots : Nat) (r : Option Value) (G' : mH) : Prop :=
  ∀ (xa' : Nat → Nat) (H' : Heap) (locs' : List Loc) (ls' : Array Slot) (cells' slots' pc' : Nat) (op : Instr), cells' = cells + (G'.length - G.length) → slots' = slots + (szG G' - szG G) → (∀ j, j < G.length → xa' j = xa j) → (G'.length = G.length → xa' = xa) → Wd D cA xe A s xa' G' H' locs' → decode (mCode k) pc' = .ok (op, 1) → rOk op r (mRet k) →
    W p l e R s m args below meth c H' locs' cells' slots' Q (F0 m pc' ls' (r.toList.map (mvv xa' xe)))
def Snd (l : Launch) (SL : Nat) (sx : Nat → Int32) (n : Nat) : Prop := ∀ (dep k pc : Nat) (L st : List Value) (G : mH) (r : Option Value) (G' : mH), dexec SL sx n dep k pc L st G = some (r, G') →
  ∀ (p : Program) (e : Env) (R : Room) (s : State) (m : MethodId) (args : Array Value) (below : List Frame) (meth : Method) (c : Code) (Q : State → Prop) (D : va_G) (cA : Nat → ClassId) (xe : Nat → Value) (A : Nat → Prop) (xa : Nat → Nat) (H : Heap) (locs : List Loc) (cells slots : Nat) (ls : Array Slot),
    Cx p R s m args meth c D cA xe A SL sx dep k → Wd D cA xe A s xa G H locs → lR xa xe ls (mMax k) L → (cells + (G'.length - G.length) ≤ R.cells ∧ slots + (szG G' - szG G) ≤ R.slots) → RT p l e R s m args below meth c Q D cA xe A k xa G cells slots r G' →
    W p l e R s m args below meth c H locs cells slots Q (F0 m pc ls (st.map (mvv xa xe)))
def wsM (k : Nat) : List Cond := Cond.code (mName k) (mCode k) (mMax k) (mRet k) :: lwG
theorem lwG_good {w : Cond} (h : w ∈ lwG) : w ∈ lwG ∧ ((w.onTables && w.keeps) = true ∨ ∃ ty, w = .arrayClass ty) := ⟨h, good_of_word (List.mem_filter.mp h).2⟩
theorem chkM_eq {k : Nat} (h : chkM k = true) : Cond.code (mName k) (mCode k) (mMax k) (mRet k) ∈ lwG ∧ Cond.initialized (mName k).cls ∈ lwG ∧ ((mName k).cls ≠ "java/lang/invoke/MethodHandle" ∧ (mName k).cls ≠ "java/lang/invoke/VarHandle") ∧ mMax k ≤ 40 ∧ Jvm.plainName (mName k).cls = true := by
  unfold chkM at h
  simp only [Bool.and_eq_true] at h
  obtain ⟨⟨⟨⟨⟨⟨h1, h2⟩, h3⟩, h4⟩, h5⟩, h6⟩, -⟩ := h
  exact ⟨lwG_mem (hasW_mem h1) rfl, lwG_mem (hasW_mem h2) rfl, ⟨of_decide_eq_true h3, of_decide_eq_true h4⟩, ble_l h5, h6⟩
theorem chkM_0 {k : Nat} (h : chkM k = true) (hk : mKind k = 0) : Cond.static (mName k) ∈ lwG ∧ (parseMethodDescriptor (mName k).desc).map (fun d => d.parameters.length) = some (mArgs k) := by
  unfold chkM at h
  rw [hk] at h
  simp only [Bool.and_eq_true] at h
  exact ⟨lwG_mem (hasW_mem h.2.1) rfl, of_decide_eq_true h.2.2⟩
theorem chkM_1 {k : Nat} (h : chkM k = true) (hk : mKind k = 1) : Cond.instanceMethod (mName k) ∈ lwG ∧ Cond.selects (mName k).cls (mName k) (mName k) ∈ lwG ∧ (parseMethodDescriptor (mName k).desc).map (fun d => d.parameters.length + 1) = some (mArgs k) ∧ ((Nat.beq (mCls k) 50 = true ∧ (mName k).cls = "java/lang/String") ∨ (Nat.beq (mCls k) 50 = false ∧ ∃ q : vw_C, vwCl[mCls k]? = some q ∧ q.1 = (mName k).cls)) := by
  unfold chkM at h
  rw [hk] at h
  simp only [Bool.and_eq_true] at h
  obtain ⟨-, ⟨⟨h1, h2⟩, h3⟩, h4⟩ := h
  refine ⟨lwG_mem (hasW_mem h1) rfl, lwG_mem (hasW_mem h2) rfl, of_decide_eq_true h3, ?_⟩
  cases hb : Nat.beq (mCls k) 50 with
  | true => rw [hb, cond_true] at h4; exact Or.inl ⟨rfl, of_decide_eq_true h4⟩
  | false =>
    rw [hb, cond_false] at h4
    obtain ⟨q, q1, q2⟩ := Option.map_eq_some_iff.mp (of_decide_eq_true h4)
    exact Or.inr ⟨rfl, q, q1, q2⟩
theorem chkM_2 {k : Nat} (h : chkM k = true) (hk : mKind k = 2) : Cond.instanceMethod (mName k) ∈ lwG ∧ (mName k).name = "<init>" ∧ mRet k = none ∧ (parseMethodDescriptor (mName k).desc).map (fun d => d.parameters.length + 1) = some (mArgs k) := by
  unfold chkM at h
  rw [hk] at h
  simp only [Bool.and_eq_true] at h
  obtain ⟨-, ⟨⟨h1, h2⟩, h3⟩, h4⟩ := h
  exact ⟨lwG_mem (hasW_mem h1) rfl, of_decide_eq_true h2, of_decide_eq_true h3, of_decide_eq_true h4⟩
theorem par_1 {d : String} {n : Nat} (h : (parseMethodDescriptor d).map (fun d => d.parameters.length + 1) = some n) : (parseMethodDescriptor d).map (fun d => d.parameters.length) = some (n - 1) ∧ 1 ≤ n := by
  obtain ⟨q, q1, q2⟩ := Option.map_eq_some_iff.mp h
  rw [q1]
  refine ⟨?_, by omega⟩
  show some _ = some _
  rw [← q2]; rfl
theorem good_wsM {k : Nat} (h : chkM k = true) : GoodIn lwG (wsM k) := by
  intro w hw
  rcases List.mem_cons.mp hw with rfl | hw
  · exact lwG_good (chkM_eq h).1
  · exact lwG_good hw
/-- the locals at a method's entry -/
theorem ent_args {xa : Nat → Nat} {xe : Nat → Value} (hx : xeOk xe) : ∀ (as : List Value) (i j : Nat) (u : Value), (wrds as)[j]? = some u → u ≠ .null → (i + j, mvv xa xe u) ∈ lv_args i (as.map (mvv xa xe)) := by
  intro as
  induction as with
  | nil => intro i j u h; simp [wrds] at h
  | cons v as ih =>
    intro i j u h hu
    show (i + j, mvv xa xe u) ∈ (i, mvv xa xe v) :: lv_args (if (mvv xa xe v).category = 2 then i + 2 else i + 1) (as.map (mvv xa xe))
    rw [mvv_cat hx]
    by_cases hc : v.category = 2
    · rw [if_pos hc]
      have e1 : wrds (v :: as) = v :: .null :: wrds as := by
        show wrd v (wrds as) = _
        unfold wrd
        rw [hc]; rfl
      rw [e1] at h
      match j, h with
      | 0, h => cases h; exact List.mem_cons_self
      | 1, h => cases h; exact absurd rfl hu
      | j + 2, h =>
        have := ih (i + 2) j u h hu
        rw [show i + 2 + j = i + (j + 2) by omega] at this
        exact List.mem_cons_of_mem _ this
    · rw [if_neg hc]
      have e1 : wrds (v :: as) = v :: wrds as := by
        show wrd v (wrds as) = _
        unfold wrd
        cases hb : Nat.beq v.category 2 with
        | true => exact absurd (Nat.eq_of_beq_eq_true hb) hc
        | false => rfl
      rw [e1] at h
      cases j with
      | zero => cases h; exact List.mem_cons_self
      | succ j =>
        have := ih (i + 1) j u h hu
        rw [show i + 1 + j = i + (j + 1) by omega] at this
        exact List.mem_cons_of_mem _ this
theorem wrds_len {xa : Nat → Nat} {xe : Nat → Value} (hx : xeOk xe) (as : List Value) : (lg_sl (as.map (mvv xa xe))).length = (wrds as).length := by
  induction as with
  | nil => rfl
  | cons v as ih =>
    show ((if (mvv xa xe v).category = 2 then [Slot.val (mvv xa xe v), .second] else [.val (mvv xa xe v)]) ++ lg_sl (as.map (mvv xa xe))).length = (wrd v (wrds as)).length
    rw [mvv_cat hx]
    unfold wrd
    by_cases hc : v.category = 2
    · rw [if_pos hc, hc, List.length_append, ih]
      show 2 + _ = _
      simp
      omega
    · rw [if_neg hc, List.length_append, ih]
      cases hb : Nat.beq v.category 2 with
      | true => exact absurd (Nat.eq_of_beq_eq_true hb) hc
      | false =>
        show 1 + _ = _
        simp
        omega
theorem lR_ent {xa : Nat → Nat} {xe : Nat → Value} (hx : xeOk xe) {as : List Value} {n : Nat} (h : (wrds as).length ≤ n) : lR xa xe ((lg_sl (as.map (mvv xa xe)) ++ List.replicate (n - (lg_sl (as.map (mvv xa xe))).length) Slot.unset).toArray) n (entL n as) := by
  have h1 := lv_entry (as.map (mvv xa xe)) (n := n) (by rw [wrds_len hx]; exact h)
  refine ⟨by unfold entL; simp; omega, h1.1, h1.2.1, ?_⟩
  rintro ⟨j, w⟩ hq
  obtain ⟨u, h2, h3, rfl⟩ := lvO_mem.mp hq
  unfold entL at h2
  have h4 : (wrds as)[j]? = some u := by
    rw [List.getElem?_append] at h2
    split at h2
    · exact h2
    · rw [List.getElem?_replicate] at h2
      split at h2
      · cases h2; exact absurd rfl h3
      · cases h2
  have h5 := ent_args (xa := xa) hx as 0 j u h4 h3
  rw [Nat.zero_add] at h5
  exact h1.2.2 _ h5
theorem wrds_rev (as : List Value) : (wrds as.reverse).length = (wrds as).length := by
  have h : ∀ l : List Value, (wrds l).length = (l.map fun v => bif Nat.beq v.category 2 then 2 else 1).sum := by
    intro l
    induction l with
    | nil => rfl
    | cons v l ih =>
      show (wrd v (wrds l)).length = _
      unfold wrd
      rw [List.map_cons, List.sum_cons, ← ih]
      cases Nat.beq v.category 2 <;> simp <;> omega
  rw [h, h, List.map_reverse, List.sum_reverse]
section SND
variable {l : Launch} {D : va_G} {cA : Nat → ClassId} {xe : Nat → Value} {SL : Nat} {sx : Nat → Int32}
/-- a method's start: the world holds G -/
def mPc (D : va_G) (cA : Nat → ClassId) (xe : Nat → Value) (SL : Nat) (sx : Nat → Int32) (xa : Nat → Nat) (G : mH) (sz : Nat) (as : List Value) : Array Value → State → Prop :=
  va_Pc (as.map (mvv xa xe)) (fun U => U.heap.size = sz ∧ va_P D vwCl (wsW cA xa xe G) U.heap ∧ va_K D vwCl (tysW cA) U ∧ va_D (fun _ => True) (wsW cA xa xe G) ∧ Ext SL sx xe (va_A (wsW cA xa xe G) sz) U U.heap)
/-- and its end: it holds G' -/
def mQc (D : va_G) (cA : Nat → ClassId) (xe : Nat → Value) (xa : Nat → Nat) (G : mH) (sz : Nat) (r : Option Value) (G' : mH) : Array Value → State → Outcome → State → Prop :=
  fun _ st oc t => (∃ xa' : Nat → Nat, (∀ j, j < G.length → xa' j = xa j) ∧ (G'.length = G.length → xa' = xa) ∧ oc = .returned (r.map (mvv xa' xe)) ∧ G'.length ≤ 1000 ∧ va_P D vwCl (wsW cA xa' xe G') t.heap ∧ va_D (va_A (wsW cA xa xe G) sz) (wsW cA xa' xe G')) ∧ va_F (va_A (wsW cA xa xe G) sz) st t
theorem mPc_blind {xa : Nat → Nat} {G : mH} {sz : Nat} {as : List Value} : FrameBlind (mPc D cA xe SL sx xa G sz as) := by
  intro a U g mk h
  obtain ⟨h1, h2, h3, h4, h5, h6⟩ := h
  exact ⟨h1, h2, h3, va_K.moved (u := U) (U := U.calling g mk a) (Vm.Alike.refl U.vm) h4, h5, Ext.same (u := U) (U := U.calling g mk a) rfl h6⟩
def rmM (d mc ms : Nat) : Room := { frames := d, cells := mc, slots := ms, locals := 64 * d }
theorem met_of {n d k : Nat} {as : List Value} {G G' : mH} {r : Option Value} (IH : Snd l SL sx n) (hxe : xeOk xe) (h : dexec SL sx n d k 0 (entL (mMax k) as) [] G = some (r, G')) (hw : (wrds as).length ≤ mMax k) (hG : G.length ≤ 1000) (hk : chkM k = true) (xa : Nat → Nat) (sz : Nat) :
    Met l (mName k) (wsM k) (rmM d (G'.length - G.length) (szG G' - szG G)) (mPc D cA xe SL sx xa G sz as) (mQc D cA xe xa G sz r G') (G'.length - G.length) (szG G' - szG G) (va_A (wsW cA xa xe G) sz) := by
  obtain ⟨m1, m2, m3, m4, m5⟩ := chkM_eq hk
  refine Met.ofW (cc := mCode k) (maxL := mMax k) (ret := mRet k) m5 rfl ?_
  intro p e s m args below meth c s₁ B hml hv
  obtain ⟨rfl, hsz, hP, hK, hD0, hE⟩ := hv
  have hts0 := atoms_spec (ws := wsM k) B.pre
  have hts : ∀ w ∈ lwG, w.before (as.map (mvv xa xe)).toArray s = true := fun w hw => hts0 w (List.mem_cons_of_mem _ hw)
  have hown : s.vm.findClass (mName k).cls = some m.cls := findClass_of_methodNamed B.named
  have hin : mKind k = 2 → meth.name = "<init>" := fun h2 => by rw [(name_of_methodNamed B.named B.method).1]; exact (chkM_2 hk h2).2.1
  subst hsz
  have hlocks := B.notSynchronized
  have hC : Cx p (rmM d (G'.length - G.length) (szG G' - szG G)) s m (as.map (mvv xa xe)).toArray meth c D cA xe (va_A (wsW cA xa xe G) s.heap.size) SL sx d k := ⟨⟨B.exec, B.bytes, B.returns, hlocks, hml, hown, hts, hin⟩, hK, hE, fun q hq => Or.inr hq, ⟨Nat.le_refl _, Nat.le_refl _⟩, hxe⟩
  rw [lg_entry_eq]
  refine IH d k 0 _ [] G r G' h p e (rmM d (G'.length - G.length) (szG G' - szG G)) s m _ below meth c _ D cA xe _ xa s.heap [] 0 0 _ hC ⟨hG, hP, hD0.self, va_S.rf⟩ (lR_ent hxe hw) ⟨by rw [Nat.zero_add]; exact Nat.le_refl _, by rw [Nat.zero_add]; exact Nat.le_refl _⟩ ?_
  intro xa' H' locs' ls' cells' slots' pc' op hc hs hx1 hx2 hW' hd hro
  rw [Nat.zero_add] at hc hs
  subst hc
  subst hs
  obtain ⟨w1, w2, w3, w4⟩ := hW'
  have hq : ∀ t : State, t.heap = H' → mQc D cA xe xa G s.heap.size r G' (as.map (mvv xa xe)).toArray s (.returned (r.map (mvv xa' xe))) t := fun t ht => ⟨⟨xa', hx1, hx2, rfl, w1, by rw [ht]; exact w2, w3⟩, w4.F ht⟩
  rcases hro with ⟨v, ty, rfl, rfl, hrt, hn⟩ | ⟨a, nm, rfl, rfl, hrt, ha⟩ | ⟨rfl, rfl, hrt⟩
  · exact W.zret (ty := ty) B.exec B.bytes (by rw [B.returns]; exact hrt) hn (fun t ht _ => hq t ht) w4.2.2 hd
  · exact W.aret (v := mvv xa' xe (.ref a)) (rt := .object nm) B.exec B.bytes (by rw [B.returns]; exact hrt) (Or.inl ⟨_, rfl⟩) (Or.inr ⟨_, mvv_own ha⟩) (fun t ht _ => hq t ht) w4.2.2 hd
  · exact W.vret B.exec B.bytes (by rw [B.returns]; exact hrt) (fun t ht _ => hq t ht) w4.2.2 hd
end SND
end
section
/-! CALLS, AND THE WHOLE RUN -/
section RUN
variable {p : Program} {l : Launch} {e : Env} {R : Room} {s : State} {m : MethodId} {args : Array Value} {below : List Frame} {meth : Method} {c : Code} {Q : State → Prop} {D : va_G} {cA : Nat → ClassId} {xe : Nat → Value} {A : Nat → Prop} {SL : Nat} {sx : Nat → Int32} {dep k pc : Nat} {xa : Nat → Nat} {H : Heap} {locs : List Loc} {cells slots : Nat} {ls : Array Slot} {L st : List Value} {G : mH} {nx aux j : Nat}
theorem call0_eq {i : Instr} {k1 pc1 : Nat} {as rest : List Value} (h : call0 k (i, nx, aux) st = some (.inr (.inr (k1, as, pc1, rest)))) : k1 = aux ∧ pc1 = nx ∧ st = as.reverse ++ rest ∧ as.length = mArgs aux ∧ catS rest ≤ 8 ∧ (wrds as).length ≤ mMax aux := by
  unfold call0 at h
  obtain ⟨hw, h⟩ := gc1_eq h
  simp only [Option.some.injEq, Sum.inr.injEq, Prod.mk.injEq] at h
  obtain ⟨rfl, rfl, rfl, rfl⟩ := h
  simp only [Bool.and_eq_true] at hw
  obtain ⟨⟨w1, w2⟩, w3⟩ := hw
  have w1 := ble_l w1
  exact ⟨rfl, rfl, by rw [List.reverse_reverse, List.take_append_drop], by rw [List.length_reverse, List.length_take]; exact Nat.min_eq_left w1, ble_l w2, by rw [wrds_rev]; exact ble_l w3⟩
theorem free_up (hW : Wd D cA xe A s xa G H locs) (hA : ∀ q, s.heap.size ≤ q → A q) : ∀ q, va_A (wsW cA xa xe G) H.size q → A q := by
  intro q h
  rcases h with ⟨k, e, h⟩ | h
  · exact hW.2.2.1.2 k (q, e) h
  · exact hA q (Nat.le_trans hW.2.2.2.1 h)
theorem pre_up (hC : Cx p R s m args meth c D cA xe A SL sx dep k) (hW : Wd D cA xe A s xa G H locs) (as : List Value) : ∀ U : State, U.heap = H → s.WarmedH U.vm → mPc D cA xe SL sx xa G H.size as (as.map (mvv xa xe)).toArray U := by
  intro U hU hWm
  obtain ⟨hF, hK, hE, hA, hR, hxe⟩ := hC
  refine ⟨rfl, by rw [hU], by rw [hU]; exact hW.2.1, va_K.moved hWm.alike hK, hW.2.2.1.weaken (fun _ _ _ _ => trivial), ?_⟩
  rw [hU]
  exact hE.to hWm hW.2.2.2 (free_up hW hA)
/-- behind a call -/
theorem run_go {r : Option Value} {G' : mH} {st0 rest : List Value} {a : Array Value} {mc ms : Nat} (hr : va_Run p l e R s m args below meth c H locs cells slots mc ms (F0 m pc ls st0) rest (mQc D cA xe xa G H.size r G' a) (va_A (wsW cA xa xe G) H.size)) (hW : Wd D cA xe A s xa G H locs) (hA : ∀ q, s.heap.size ≤ q → A q)
    (kk : ∀ (xa' : Nat → Nat) (H' : Heap) (locs' : List Loc), (∀ j, j < G.length → xa' j = xa j) → (G'.length = G.length → xa' = xa) → Wd D cA xe A s xa' G' H' locs' → W p l e R s m args below meth c H' locs' (cells + mc) (slots + ms) Q (F0 m (pc + 3) ls ((r.toList.map (mvv xa' xe)) ++ rest))) : W p l e R s m args below meth c H locs cells slots Q (F0 m pc ls st0) := by
  intro T hT X
  obtain ⟨v, st₀, t, T', Lc, h0, X', hL', e1, e2, ⟨⟨xa', x1, x2, x3, x4, x5, x6⟩, hz, hk⟩, stp⟩ := hr T hT X
  rw [h0] at hz hk
  have hup := free_up hW hA
  have hS := hW.2.2.2
  have ev : v = r.map (mvv xa' xe) := by
    injection x3
  subst ev
  have hW' : Wd D cA xe A s xa' G' T'.heap (locs ++ Lc) := by
    refine ⟨x4, by rw [e1]; exact x5, x6.weaken (fun _ q _ h => hup q.1 h), Nat.le_trans hS.1 (by rw [e1]; exact hz), fun q h1 h2 => ?_, fun q hq => ?_⟩
    · rw [e1, hk q (Nat.lt_of_lt_of_le h1 hS.1) (fun z => h2 (hup q z))]
      exact hS.2.1 q h1 h2
    · rcases List.mem_append.mp hq with h | h
      · exact hS.2.2 q h
      · exact hup _ (hL' q h)
  obtain ⟨t2, a1, b1⟩ := kk xa' T'.heap (locs ++ Lc) x1 x2 hW' T' rfl X'
  refine ⟨t2, stp t2 ?_, b1⟩
  have ee : (r.map (mvv xa' xe)).toList ++ rest = r.toList.map (mvv xa' xe) ++ rest := by cases r <;> rfl
  rw [ee]
  exact a1
theorem rcv_eq {v : Value} (h : rcv G aux (some v) = true) : ∃ a : Nat, v = .ref a ∧ ((Nat.beq (mCls aux) 50 = true ∧ 1010 ≤ a ∧ a ≤ 1013) ∨ (Nat.beq (mCls aux) 50 = false ∧ ∃ fs, G[a]? = some (.inr (mCls aux, fs)))) := by
  cases v with
  | ref a =>
    refine ⟨a, rfl, ?_⟩
    unfold rcv at h
    dsimp only at h
    cases hb : Nat.beq (mCls aux) 50 with
    | true =>
      rw [hb, cond_true, Bool.and_eq_true] at h
      exact Or.inl ⟨rfl, ble_l h.1, ble_l h.2⟩
    | false =>
      rw [hb, cond_false] at h
      cases ho : ownO G a with
      | none => rw [ho] at h; cases h
      | some o =>
        rw [ho] at h
        have h1 := ownO_eq ho
        have h2 := Nat.eq_of_beq_eq_true h
        rw [← h2]
        exact Or.inr ⟨rfl, o.2, h1⟩
  | _ => cases h
theorem call_ok {n d : Nat} {i : Instr} {k1 pc1 : Nat} {as rest : List Value} {r : Option Value} {G' : mH} (IH : Snd l SL sx n) (hC : Cx p R s m args meth c D cA xe A SL sx (d + 1) k) (hW : Wd D cA xe A s xa G H locs) (hL : lR xa xe ls (mMax k) L) (ho : chkE k (pc, (i, nx, aux), j) = true)
    (h : dstep SL sx (d + 1) k pc (i, nx, aux) L st G = some (.inr (.inr (k1, as, pc1, rest)))) (hc : dexec SL sx n d k1 0 (entL (mMax k1) as) [] G = some (r, G')) (hg : cells + (G'.length - G.length) ≤ R.cells ∧ slots + (szG G' - szG G) ≤ R.slots)
    (kk : ∀ (xa' : Nat → Nat) (H' : Heap) (locs' : List Loc), (∀ j, j < G.length → xa' j = xa j) → (G'.length = G.length → xa' = xa) → Wd D cA xe A s xa' G' H' locs' → W p l e R s m args below meth c H' locs' (cells + (G'.length - G.length)) (slots + (szG G' - szG G)) Q (F0 m pc1 ls ((r.toList.map (mvv xa' xe)) ++ rest.map (mvv xa xe)))) : W p l e R s m args below meth c H locs cells slots Q (F0 m pc ls (st.map (mvv xa xe))) := by
  obtain ⟨⟨hx, hb, hr, hlk, hml, hown, hts, hin⟩, hK, hE, hA, hR, hxe⟩ := id hC
  have hS := hW.2.2.2
  have hfix : CallFix p m c (mCode k) (mMax k) s args lwG (mName k).cls := ⟨hx, hb, hml, hown, hts⟩
  have hroom : ∀ k0, chkM k0 = true → (rmM d (G'.length - G.length) (szG G' - szG G)).frames + 1 ≤ R.frames ∧ 8 + (mMax k0 + 11) + (rmM d (G'.length - G.length) (szG G' - szG G)).locals ≤ R.locals := by
    intro k0 hk0
    have h4 := (chkM_eq hk0).2.2.2.1
    refine ⟨?_, ?_⟩
    · show d + 1 ≤ _
      exact hR.1
    · show 8 + (mMax k0 + 11) + 64 * d ≤ _
      have := hR.2
      omega
  cases i with
  | invokestatic i =>
    obtain ⟨hd, rfl, hq⟩ := ckd (fun _ => rfl) ho
    rw [dq_invokestatic] at h
    unfold chkX at hq
    dsimp only at hq
    cases h1 : Nat.beq aux 901 with
    | true =>
      rw [h1, cond_true] at h
      split at h
      · obtain ⟨_, _, h⟩ := Option.bind_eq_some_iff.mp h
        obtain ⟨_, _, h⟩ := Option.bind_eq_some_iff.mp h
        obtain ⟨_, h⟩ := gc1_eq h
        cases h
      · cases h
    | false =>
      rw [h1, cond_false] at h hq
      cases h2 : Nat.beq aux 902 with
      | true =>
        rw [h2, cond_true] at h
        obtain ⟨_, _, h⟩ := Option.bind_eq_some_iff.mp h
        obtain ⟨_, _, h⟩ := Option.bind_eq_some_iff.mp h
        obtain ⟨_, h⟩ := gc1_eq h
        cases h
      | false =>
        rw [h2, cond_false] at h hq
        cases h3 : Nat.beq aux 903 with
        | true =>
          rw [h3, cond_true] at h
          obtain ⟨_, _, h⟩ := Option.bind_eq_some_iff.mp h
          obtain ⟨_, _, h⟩ := Option.bind_eq_some_iff.mp h
          obtain ⟨_, h⟩ := gc1_eq h
          cases h
        | false =>
          rw [h3, cond_false] at h hq
          obtain ⟨hk0, h⟩ := gc1_eq h
          obtain ⟨rfl, rfl, rfl, hal, hca, hwr⟩ := call0_eq h
          rw [Bool.and_eq_true] at hq
          have hk0 := Nat.eq_of_beq_eq_true hk0
          have hkp : 0 < k1 := by
            rcases Nat.eq_zero_or_pos k1 with q | q
            · subst q
              exact absurd (hasW_mem hq.1) w_nolaw
            · exact q
          have hm := meth_ok hkp (blt_l hq.2)
          obtain ⟨z1, z2⟩ := chkM_0 hm hk0
          obtain ⟨m1, m2, m3, m4, m5⟩ := chkM_eq hm
          have hM := met_of (D := D) (cA := cA) IH hxe hc hwr hW.1 hm xa H.size
          have hGI : GoodIn lwG (va_wsS (mName k).cls i (mName k1) (wsM k1)) := by
            intro w hw
            rcases List.mem_append.mp hw with h9 | h9
            · simp only [List.mem_cons, List.not_mem_nil, or_false] at h9
              rcases h9 with rfl | rfl | rfl
              · exact lwG_good (lwG_mem (hasW_mem hq.1) rfl)
              · exact lwG_good z1
              · exact lwG_good m2
            · exact good_wsM hm w h9
          have hrun := va_runS (e := e) (below := below) (meth := meth) (locs := locs) (g := F0 m pc ls ((as.reverse ++ rest).map (mvv xa xe))) (As := as.map (mvv xa xe)) (rest := rest.map (mvv xa xe)) hfix hM (va_cwS (mArgs k1) hts hGI rfl rfl rfl ⟨m3.1, m3.2, z2⟩ (hroom k1 hm)) ⟨mPc_blind, pre_up hC hW as⟩ rfl (by rw [List.length_map]; exact hal) hL.2.1 (by rw [List.map_append, List.map_reverse]) (lv_room (by rw [mvv_catS hxe]; exact hca)) hd hg
          exact run_go hrun hW hA kk
  | invokevirtual i =>
    obtain ⟨hd, rfl, hq⟩ := ckd (fun _ => rfl) ho
    rw [dq_invokevirtual] at h
    unfold chkX at hq
    dsimp only at hq
    obtain ⟨hk0, h⟩ := gc1_eq h
    rw [Bool.and_eq_true] at hk0 hq
    obtain ⟨hk0, hrc⟩ := hk0
    have hst := call0_eq h
    obtain ⟨rfl, rfl, -, hal, hca, hwr⟩ := hst
    have hst := (call0_eq h).2.2.1
    have hk0 := Nat.eq_of_beq_eq_true hk0
    have hkp : 0 < k1 := by
      rcases Nat.eq_zero_or_pos k1 with q | q
      · subst q
        exact absurd (hasW_mem hq.1) w_nolaw
      · exact q
    have hm := meth_ok hkp (blt_l hq.2)
    obtain ⟨z1, z2, z3, z4⟩ := chkM_1 hm hk0
    obtain ⟨z5, z6⟩ := par_1 z3
    obtain ⟨m1, m2, m3, m4, m5⟩ := chkM_eq hm
    obtain ⟨v, tl, rfl⟩ : ∃ v tl, as = v :: tl := by
      cases as with
      | nil => simp at hal; omega
      | cons v tl => exact ⟨v, tl, rfl⟩
    have hat : st[mArgs k1 - 1]? = some v := by
      rw [hst, List.reverse_cons, List.append_assoc, List.getElem?_append_right (by simp at hal ⊢; omega)]
      have : mArgs k1 - 1 - tl.reverse.length = 0 := by simp at hal ⊢; omega
      rw [this]; rfl
    rw [hat] at hrc
    obtain ⟨a, rfl, hrd⟩ := rcv_eq hrc
    · have hrecv : ∃ b, mvv xa xe (.ref a) = .ref b ∧ ∃ cellB : Cell, H[b]? = some cellB ∧ cellB.vm.isStatics = false ∧ s.vm.findClass (mName k1).cls = some cellB.cls := by
        rcases hrd with ⟨x1, a1, a2⟩ | ⟨x1, fs, ho1⟩
        · rcases z4 with ⟨y1, y2⟩ | ⟨y1, -⟩
          · obtain ⟨-, -, -, ⟨tk, tv, k1', k2', -⟩, -⟩ := hE
            have hi : a - 1010 < 4 := by omega
            refine ⟨tk (a - 1010), ?_, ?_⟩
            · rw [mvv_out (by omega), show a - 1000 = 10 + (a - 1010) by omega]
              exact (k1' (a - 1010) hi).2
            · rw [y2]
              exact vk_recv k2' hi hS
          · rw [x1] at y1; cases y1
        · rcases z4 with ⟨y1, -⟩ | ⟨y1, q, y2, y3⟩
          · rw [x1] at y1; cases y1
          · have hlt := lt_of_at ho1
            refine ⟨xa a, mvv_own (Nat.lt_of_lt_of_le hlt hW.1), ?_⟩
            rw [← y3]
            exact va_recv hK hW.2.1 y2 (wsW_at ho1)
      obtain ⟨b, hb1, hcell⟩ := hrecv
      have hM := met_of (D := D) (cA := cA) IH hxe hc hwr hW.1 hm xa H.size
      have hGI : GoodIn lwG (wsV (mName k).cls i (mName k1).cls (mName k1) (wsM k1)) := by
        intro w hw
        rcases List.mem_append.mp hw with h9 | h9
        · simp only [List.mem_cons, List.not_mem_nil, or_false] at h9
          rcases h9 with rfl | rfl | rfl | rfl
          · exact lwG_good (lwG_mem (hasW_mem hq.1) rfl)
          · exact lwG_good z1
          · exact lwG_good z2
          · exact lwG_good m2
        · exact good_wsM hm w h9
      have epre : ∀ U : State, U.heap = H → s.WarmedH U.vm → mPc D cA xe SL sx xa G H.size (.ref a :: tl) (Value.ref b :: tl.map (mvv xa xe)).toArray U := by
        intro U hU hWm
        have := pre_up hC hW (.ref a :: tl) U hU hWm
        rw [List.map_cons, hb1] at this
        exact this
      have hrun := va_runV (e := e) (below := below) (meth := meth) (locs := locs) (g := F0 m pc ls (st.map (mvv xa xe))) (As := tl.map (mvv xa xe)) (rest := rest.map (mvv xa xe)) hfix hM (cwV (mArgs k1 - 1) hts hGI rfl rfl rfl ⟨rfl, m3.1, m3.2, z5⟩ (hroom k1 hm)) ⟨mPc_blind, hcell, epre⟩ rfl (by rw [List.length_map]; simp at hal; omega) hL.2.1 (by
        show st.map (mvv xa xe) = _
        rw [hst, List.reverse_cons, List.append_assoc, List.map_append, List.map_reverse, List.map_append]
        show _ ++ ([mvv xa xe (.ref a)] ++ _) = _
        rw [hb1]; rfl) (lv_room (by rw [mvv_catS hxe]; exact hca)) hd hg
      exact run_go hrun hW hA kk
  | invokespecial i =>
    obtain ⟨hd, rfl, hq⟩ := ckd (fun _ => rfl) ho
    rw [dq_invokespecial] at h
    unfold chkX at hq
    dsimp only at hq
    cases h1 : Nat.beq aux 900 with
    | true =>
      rw [h1, cond_true] at h
      split at h
      · obtain ⟨_, h⟩ := gc1_eq h
        cases h
      · cases h
    | false =>
      rw [h1, cond_false] at h hq
      obtain ⟨hk0, h⟩ := gc1_eq h
      rw [Bool.and_eq_true] at hk0 hq
      obtain ⟨hk0, hrc⟩ := hk0
      have hst := call0_eq h
      obtain ⟨rfl, rfl, -, hal, hca, hwr⟩ := hst
      have hst := (call0_eq h).2.2.1
      have hk0 := Nat.eq_of_beq_eq_true hk0
      have hkp : 0 < k1 := by
        rcases Nat.eq_zero_or_pos k1 with q | q
        · subst q
          exact absurd hk0 (by decide)
        · exact q
      have hm := meth_ok hkp (blt_l hq.2)
      obtain ⟨z1, z2, z3, z4⟩ := chkM_2 hm hk0
      obtain ⟨z5, z6⟩ := par_1 z4
      obtain ⟨m1, m2, m3, m4, m5⟩ := chkM_eq hm
      obtain ⟨v, tl, rfl⟩ : ∃ v tl, as = v :: tl := by
        cases as with
        | nil => simp at hal; omega
        | cons v tl => exact ⟨v, tl, rfl⟩
      have hat : st[mArgs k1 - 1]? = some v := by
        rw [hst, List.reverse_cons, List.append_assoc, List.getElem?_append_right (by simp at hal ⊢; omega)]
        have : mArgs k1 - 1 - tl.reverse.length = 0 := by simp at hal ⊢; omega
        rw [this]; rfl
      rw [hat] at hrc
      split at hrc
      · rename_i a hv
        cases hv
        have hb1 : mvv xa xe (.ref a) = .ref (xa a) := mvv_own (blt_l hrc)
        have hM := met_of (D := D) (cA := cA) IH hxe hc hwr hW.1 hm xa H.size
        have epre : ∀ U : State, U.heap = H → s.WarmedH U.vm → mPc D cA xe SL sx xa G H.size (.ref a :: tl) (Value.ref (xa a) :: tl.map (mvv xa xe)).toArray U := by
          intro U hU hWm
          have := pre_up hC hW (.ref a :: tl) U hU hWm
          rw [List.map_cons, hb1] at this
          exact this
        have estk : st.map (mvv xa xe) = (tl.map (mvv xa xe)).reverse ++ Value.ref (xa a) :: rest.map (mvv xa xe) := by
          rw [hst, List.reverse_cons, List.append_assoc, List.map_append, List.map_reverse, List.map_append]
          show _ ++ ([mvv xa xe (.ref a)] ++ _) = _
          rw [hb1]; rfl
        rw [Bool.or_eq_true] at hq
        have ews : wsM k1 = Cond.code (mName k1) (mCode k1) (mMax k1) none :: lwG := by
          unfold wsM
          rw [z3]
        rcases hq.1 with hq1 | hq1
        · have hrun := va_runI (e := e) (below := below) (meth := meth) (locs := locs) (b := xa a) (g := F0 m pc ls (st.map (mvv xa xe))) (As := tl.map (mvv xa xe)) (rest := rest.map (mvv xa xe)) hfix hM (cwI (mArgs k1 - 1) hts (good_wsM hm) ews rfl rfl (hts _ m2) (hts _ (lwG_mem (hasW_mem hq1) rfl)) (hts _ z1) z2 ⟨m3.1, m3.2, z5⟩ (hroom k1 hm)) ⟨mPc_blind, epre⟩ rfl (by rw [List.length_map]; simp at hal; omega) hL.2.1 estk (lv_room (by rw [mvv_catS hxe]; exact hca)) hd hg
          exact run_go hrun hW hA kk
        · have hn9 : va_Nw (.methodLinkNest (mName k).cls i (mName k1) "DeckBench") s := hE.2.2.2.2.2.2.1 _ _ _ _ (hasW_mem hq1)
          have hrun := va_runIN (e := e) (below := below) (meth := meth) (locs := locs) (b := xa a) (g := F0 m pc ls (st.map (mvv xa xe))) (As := tl.map (mvv xa xe)) (rest := rest.map (mvv xa xe)) hfix hM ⟨va_cnB (mArgs k1 - 1) hts (good_wsM hm) ews rfl rfl hn9 (hts _ m2) ⟨m3.1, m3.2, z5⟩ (hroom k1 hm), z2, hts _ z1⟩ ⟨mPc_blind, epre⟩ rfl (by rw [List.length_map]; simp at hal; omega) hL.2.1 estk (lv_room (by rw [mvv_catS hxe]; exact hca)) hd hg
          exact run_go hrun hW hA kk
      · cases hrc
  | ireturn =>
    rw [dq_ireturn] at h
    split at h
    · obtain ⟨_, h⟩ := gc1_eq h
      cases h
    · cases h
  | areturn =>
    rw [dq_areturn] at h
    split at h
    · obtain ⟨_, h⟩ := gc1_eq h
      cases h
    · cases h
  | return_ =>
    rw [dq_return_] at h
    split at h
    · obtain ⟨_, h⟩ := gc1_eq h
      cases h
    · cases h
  | _ => rcases leaves h with ⟨_, q⟩ | ⟨_, q⟩ | ⟨_, q⟩ | q | q | q <;> cases q
theorem ret_ok {i : Instr} {r : Option Value} (ho : chkE k (pc, (i, nx, aux), j) = true) (h : dstep SL sx dep k pc (i, nx, aux) L st G = some (.inr (.inl r))) : decode (mCode k) pc = .ok (i, 1) ∧ rOk i r (mRet k) ∧ st = r.toList := by
  rcases leaves h with ⟨a, rfl⟩ | ⟨a, rfl⟩ | ⟨a, rfl⟩ | rfl | rfl | rfl
  · rw [dq_invokevirtual] at h
    obtain ⟨_, h⟩ := gc1_eq h
    unfold call0 at h
    obtain ⟨_, h⟩ := gc1_eq h
    cases h
  · rw [dq_invokestatic] at h
    cases h1 : Nat.beq aux 901 with
    | true =>
      rw [h1, cond_true] at h
      split at h
      · obtain ⟨_, _, h⟩ := Option.bind_eq_some_iff.mp h
        obtain ⟨_, _, h⟩ := Option.bind_eq_some_iff.mp h
        obtain ⟨_, h⟩ := gc1_eq h
        cases h
      · cases h
    | false =>
      rw [h1, cond_false] at h
      cases h2 : Nat.beq aux 902 with
      | true =>
        rw [h2, cond_true] at h
        obtain ⟨_, _, h⟩ := Option.bind_eq_some_iff.mp h
        obtain ⟨_, _, h⟩ := Option.bind_eq_some_iff.mp h
        obtain ⟨_, h⟩ := gc1_eq h
        cases h
      | false =>
        rw [h2, cond_false] at h
        cases h3 : Nat.beq aux 903 with
        | true =>
          rw [h3, cond_true] at h
          obtain ⟨_, _, h⟩ := Option.bind_eq_some_iff.mp h
          obtain ⟨_, _, h⟩ := Option.bind_eq_some_iff.mp h
          obtain ⟨_, h⟩ := gc1_eq h
          cases h
        | false =>
          rw [h3, cond_false] at h
          obtain ⟨_, h⟩ := gc1_eq h
          unfold call0 at h
          obtain ⟨_, h⟩ := gc1_eq h
          cases h
  · rw [dq_invokespecial] at h
    cases h1 : Nat.beq aux 900 with
    | true =>
      rw [h1, cond_true] at h
      split at h
      · obtain ⟨_, h⟩ := gc1_eq h
        cases h
      · cases h
    | false =>
      rw [h1, cond_false] at h
      obtain ⟨_, h⟩ := gc1_eq h
      unfold call0 at h
      obtain ⟨_, h⟩ := gc1_eq h
      cases h
  · obtain ⟨hd, -, -⟩ := ckd (fun _ => rfl) ho
    rw [dq_ireturn] at h
    split at h
    · rename_i v
      obtain ⟨hw, h⟩ := gc1_eq h
      cases h
      refine ⟨hd, Or.inl ?_, rfl⟩
      unfold retOk at hw
      split at hw
      · rename_i ty hty
        rw [Bool.and_eq_true] at hw
        exact ⟨v, ty, rfl, rfl, hty, of_decide_eq_true hw.2⟩
      · cases hw
    · cases h
  · obtain ⟨hd, -, -⟩ := ckd (fun _ => rfl) ho
    rw [dq_areturn] at h
    split at h
    · rename_i a
      obtain ⟨hw, h⟩ := gc1_eq h
      cases h
      refine ⟨hd, Or.inr (Or.inl ?_), rfl⟩
      rw [Bool.and_eq_true] at hw
      obtain ⟨w1, w2⟩ := hw
      split at w2
      · rename_i nm hty
        exact ⟨a, nm, rfl, rfl, hty, blt_l w1⟩
      · cases w2
    · cases h
  · obtain ⟨hd, -, -⟩ := ckd (fun _ => rfl) ho
    rw [dq_return_] at h
    split at h
    · obtain ⟨hw, h⟩ := gc1_eq h
      cases h
      exact ⟨hd, Or.inr (Or.inr ⟨rfl, rfl, of_decide_eq_true hw⟩), rfl⟩
    · cases h
end RUN
theorem sound (l : Launch) (SL : Nat) (sx : Nat → Int32) : ∀ n, Snd l SL sx n := by
  intro n
  induction n with
  | zero => intro dep k pc L st G r G' h; cases h
  | succ n ih =>
    intro dep k pc L st G r G' h p e R s m args below meth c Q D cA xe A xa H locs cells slots ls hC hW hL hg hret
    have h0 := h
    unfold dexec at h
    cases hp : prog k pc with
    | none => rw [hp] at h; cases h
    | some e1 =>
      rw [hp] at h
      dsimp only at h
      obtain ⟨j, hj⟩ := prog_ok hp
      obtain ⟨i, nx, aux⟩ := e1
      have hgr := dstep_grw SL sx dep k pc i nx aux L st G
      cases hs : dstep SL sx dep k pc (i, nx, aux) L st G with
      | none => rw [hs] at h; cases h
      | some q =>
        rw [hs] at h hgr
        rcases q with ⟨pc1, L1, st1, G1⟩ | r1 | ⟨k1, as, pc1, rest⟩
        · dsimp only at h
          have z3 : G.length ≤ G1.length ∧ szG G ≤ szG G1 := hgr
          obtain ⟨z1, z2⟩ := dexec_grw _ _ _ _ _ _ _ _ _ h
          refine step_ok hC hW hL hj hs ⟨by have := hg.1; omega, by have := hg.2; omega⟩ ?_
          intro xa' H' locs' ls' cells' slots' hc' hs' hx1 hx2 hW' hL'
          refine ih dep k pc1 L1 st1 G1 r G' h p e R s m args below meth c Q D cA xe A xa' H' locs' cells' slots' ls' hC hW' hL' ⟨by have := hg.1; omega, by have := hg.2; omega⟩ ?_
          intro xa2 H2 locs2 ls2 cells2 slots2 pc2 op hc2 hs2 y1 y2 hW2 hd2 hro
          exact hret xa2 H2 locs2 ls2 cells2 slots2 pc2 op (by omega) (by omega) (fun j hj => (y1 j (by omega)).trans (hx1 j hj)) (fun hl => (y2 (by omega)).trans (hx2 (by omega))) hW2 hd2 hro
        · dsimp only at h
          cases h
          obtain ⟨hd, hro, rfl⟩ := ret_ok hj hs
          exact hret xa H locs ls cells slots pc i (by simp) (by simp) (fun _ _ => rfl) (fun _ => rfl) hW hd hro
        · dsimp only at h
          cases dep with
          | zero => cases h
          | succ d =>
            dsimp only at h
            cases hc : dexec SL sx n d k1 0 (entL (mMax k1) as) [] G with
            | none => rw [hc] at h; cases h
            | some z =>
              obtain ⟨r1, G1⟩ := z
              rw [hc] at h
              dsimp only at h
              cases hb : wfB G.length G1.length L rest G with
              | false => rw [hb] at h; cases h
              | true =>
                rw [hb, cond_true] at h
                obtain ⟨y1, y2⟩ := dexec_grw _ _ _ _ _ _ _ _ _ hc
                obtain ⟨z1, z2⟩ := dexec_grw _ _ _ _ _ _ _ _ _ h
                refine call_ok ih hC hW hL hj hs hc ⟨by have := hg.1; omega, by have := hg.2; omega⟩ ?_
                intro xa' H' locs' hx1 hx2 hW'
                have hsame : lR xa' xe ls (mMax k) L ∧ rest.map (mvv xa xe) = rest.map (mvv xa' xe) := by
                  unfold wfB at hb
                  rw [Bool.or_eq_true, Bool.and_eq_true] at hb
                  rcases hb with hb | hb
                  · rw [hx2 (Nat.eq_of_beq_eq_true hb).symm]
                    exact ⟨hL, rfl⟩
                  · exact ⟨lR_agree hx1 hW.1 hb.1 hL, (map_agree hx1 hW.1 hb.2).symm⟩
                rw [hsame.2, ← List.map_append]
                refine ih (d + 1) k pc1 L (r1.toList ++ rest) G1 r G' h p e R s m args below meth c Q D cA xe A xa' H' locs' _ _ ls hC hW' hsame.1 ⟨by have := hg.1; omega, by have := hg.2; omega⟩ ?_
                intro xa2 H2 locs2 ls2 cells2 slots2 pc2 op hc2 hs2 w1 w2 hW2 hd2 hro
                exact hret xa2 H2 locs2 ls2 cells2 slots2 pc2 op (by omega) (by omega) (fun j hj => (w1 j (by omega)).trans (hx1 j hj)) (fun hl => (w2 (by omega)).trans (hx2 (by omega))) hW2 hd2 hro
end
