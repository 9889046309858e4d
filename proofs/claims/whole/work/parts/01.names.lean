-- ===== PART A: goes FIRST, ahead of the names: the tables' words, and 'selects' of the private methods out of them =====
/-- a private method of a class that the tables say can be made, by its rows of tables_1 -/
def lw_okq (q : MethodName × Nat) : Prop := (q.1.cls ≠ "java/lang/invoke/MethodHandle" ∧ q.1.cls ≠ "java/lang/invoke/VarHandle") ∧ Cond.instantiable q.1.cls q.2 ∈ tables_1 ∧ Cond.privateMethod q.1 ∈ tables_1 ∧ Cond.instanceMethod q.1 ∈ tables_1
theorem lw_p0 : lw_okq (⟨"TermScan$Lexicon", "hasWords", "(I[J)Z"⟩, 9) := ⟨⟨by decide +kernel, by decide +kernel⟩, List.mem_of_getElem? (i := 41) (by decide +kernel), List.mem_of_getElem? (i := 284) (by decide +kernel), List.mem_of_getElem? (i := 285) (by decide +kernel)⟩
theorem lw_p1 : lw_okq (⟨"TermScan", "termsChanged", "()V"⟩, 7) := ⟨⟨by decide +kernel, by decide +kernel⟩, List.mem_of_getElem? (i := 13) (by decide +kernel), List.mem_of_getElem? (i := 297) (by decide +kernel), List.mem_of_getElem? (i := 298) (by decide +kernel)⟩
theorem lw_p2 : lw_okq (⟨"TermScan$Lexicon", "copyTerm", "(LTermScan$Lexicon;II)V"⟩, 9) := ⟨⟨by decide +kernel, by decide +kernel⟩, List.mem_of_getElem? (i := 41) (by decide +kernel), List.mem_of_getElem? (i := 341) (by decide +kernel), List.mem_of_getElem? (i := 342) (by decide +kernel)⟩
theorem lw_p3 : lw_okq (⟨"TermScan", "settled", "()LTermScan$Scan;"⟩, 7) := ⟨⟨by decide +kernel, by decide +kernel⟩, List.mem_of_getElem? (i := 13) (by decide +kernel), List.mem_of_getElem? (i := 391) (by decide +kernel), List.mem_of_getElem? (i := 392) (by decide +kernel)⟩
theorem lw_p4 : lw_okq (⟨"TermScan$Scan", "look", "(I)V"⟩, 15) := ⟨⟨by decide +kernel, by decide +kernel⟩, List.mem_of_getElem? (i := 131) (by decide +kernel), List.mem_of_getElem? (i := 399) (by decide +kernel), List.mem_of_getElem? (i := 400) (by decide +kernel)⟩
theorem lw_p5 : lw_okq (⟨"TermScan$Scan", "meets", "(I)I"⟩, 15) := ⟨⟨by decide +kernel, by decide +kernel⟩, List.mem_of_getElem? (i := 131) (by decide +kernel), List.mem_of_getElem? (i := 408) (by decide +kernel), List.mem_of_getElem? (i := 409) (by decide +kernel)⟩
theorem lw_p6 : lw_okq (⟨"TermScan$Scan", "makeForms", "(J)V"⟩, 15) := ⟨⟨by decide +kernel, by decide +kernel⟩, List.mem_of_getElem? (i := 131) (by decide +kernel), List.mem_of_getElem? (i := 412) (by decide +kernel), List.mem_of_getElem? (i := 413) (by decide +kernel)⟩
theorem lw_p7 : lw_okq (⟨"TermScan$Scan", "isForm", "(JI)Z"⟩, 15) := ⟨⟨by decide +kernel, by decide +kernel⟩, List.mem_of_getElem? (i := 131) (by decide +kernel), List.mem_of_getElem? (i := 421) (by decide +kernel), List.mem_of_getElem? (i := 422) (by decide +kernel)⟩
theorem lw_p8 : lw_okq (⟨"TermScan$Scan", "hasBegun", "(III)Z"⟩, 15) := ⟨⟨by decide +kernel, by decide +kernel⟩, List.mem_of_getElem? (i := 131) (by decide +kernel), List.mem_of_getElem? (i := 425) (by decide +kernel), List.mem_of_getElem? (i := 426) (by decide +kernel)⟩
theorem lw_p9 : lw_okq (⟨"TermScan$Scan", "weigh", "()V"⟩, 15) := ⟨⟨by decide +kernel, by decide +kernel⟩, List.mem_of_getElem? (i := 131) (by decide +kernel), List.mem_of_getElem? (i := 429) (by decide +kernel), List.mem_of_getElem? (i := 430) (by decide +kernel)⟩
theorem lw_p10 : lw_okq (⟨"TermScan$Scan", "weighFrom", "(I)V"⟩, 15) := ⟨⟨by decide +kernel, by decide +kernel⟩, List.mem_of_getElem? (i := 131) (by decide +kernel), List.mem_of_getElem? (i := 433) (by decide +kernel), List.mem_of_getElem? (i := 434) (by decide +kernel)⟩
theorem lw_p11 : lw_okq (⟨"TermScan$Scan", "isBetter", "(IIII)Z"⟩, 15) := ⟨⟨by decide +kernel, by decide +kernel⟩, List.mem_of_getElem? (i := 131) (by decide +kernel), List.mem_of_getElem? (i := 445) (by decide +kernel), List.mem_of_getElem? (i := 446) (by decide +kernel)⟩
theorem lw_p12 : lw_okq (⟨"TermScan$Scan", "choose", "()V"⟩, 15) := ⟨⟨by decide +kernel, by decide +kernel⟩, List.mem_of_getElem? (i := 131) (by decide +kernel), List.mem_of_getElem? (i := 449) (by decide +kernel), List.mem_of_getElem? (i := 450) (by decide +kernel)⟩
theorem lw_p13 : lw_okq (⟨"TermScan$Text", "addLetter", "(I)V"⟩, 7) := ⟨⟨by decide +kernel, by decide +kernel⟩, List.mem_of_getElem? (i := 91) (by decide +kernel), List.mem_of_getElem? (i := 482) (by decide +kernel), List.mem_of_getElem? (i := 483) (by decide +kernel)⟩
theorem lw_p14 : lw_okq (⟨"TermScan$Text", "endWord", "()V"⟩, 7) := ⟨⟨by decide +kernel, by decide +kernel⟩, List.mem_of_getElem? (i := 91) (by decide +kernel), List.mem_of_getElem? (i := 488) (by decide +kernel), List.mem_of_getElem? (i := 489) (by decide +kernel)⟩
theorem lw_p15 : lw_okq (⟨"TermScan$Text", "endSentence", "()V"⟩, 7) := ⟨⟨by decide +kernel, by decide +kernel⟩, List.mem_of_getElem? (i := 91) (by decide +kernel), List.mem_of_getElem? (i := 492) (by decide +kernel), List.mem_of_getElem? (i := 493) (by decide +kernel)⟩
def lw_privs_1 : List (MethodName × Nat) := [(⟨"TermScan$Lexicon", "hasWords", "(I[J)Z"⟩, 9), (⟨"TermScan", "termsChanged", "()V"⟩, 7), (⟨"TermScan$Lexicon", "copyTerm", "(LTermScan$Lexicon;II)V"⟩, 9), (⟨"TermScan", "settled", "()LTermScan$Scan;"⟩, 7), (⟨"TermScan$Scan", "look", "(I)V"⟩, 15), (⟨"TermScan$Scan", "meets", "(I)I"⟩, 15), (⟨"TermScan$Scan", "makeForms", "(J)V"⟩, 15), (⟨"TermScan$Scan", "isForm", "(JI)Z"⟩, 15), (⟨"TermScan$Scan", "hasBegun", "(III)Z"⟩, 15), (⟨"TermScan$Scan", "weigh", "()V"⟩, 15), (⟨"TermScan$Scan", "weighFrom", "(I)V"⟩, 15), (⟨"TermScan$Scan", "isBetter", "(IIII)Z"⟩, 15), (⟨"TermScan$Scan", "choose", "()V"⟩, 15), (⟨"TermScan$Text", "addLetter", "(I)V"⟩, 7), (⟨"TermScan$Text", "endWord", "()V"⟩, 7), (⟨"TermScan$Text", "endSentence", "()V"⟩, 7)]
theorem lw_r1 : ∀ q ∈ lw_privs_1, lw_okq q := List.forall_mem_cons.mpr ⟨lw_p0, List.forall_mem_cons.mpr ⟨lw_p1, List.forall_mem_cons.mpr ⟨lw_p2, List.forall_mem_cons.mpr ⟨lw_p3, List.forall_mem_cons.mpr ⟨lw_p4, List.forall_mem_cons.mpr ⟨lw_p5, List.forall_mem_cons.mpr ⟨lw_p6, List.forall_mem_cons.mpr ⟨lw_p7, List.forall_mem_cons.mpr ⟨lw_p8, List.forall_mem_cons.mpr ⟨lw_p9, List.forall_mem_cons.mpr ⟨lw_p10, List.forall_mem_cons.mpr ⟨lw_p11, List.forall_mem_cons.mpr ⟨lw_p12, List.forall_mem_cons.mpr ⟨lw_p13, List.forall_mem_cons.mpr ⟨lw_p14, List.forall_mem_cons.mpr ⟨lw_p15, fun _ h => absurd h List.not_mem_nil⟩⟩⟩⟩⟩⟩⟩⟩⟩⟩⟩⟩⟩⟩⟩⟩
theorem lw_p16 : lw_okq (⟨"TermScan", "textChanged", "()V"⟩, 7) := ⟨⟨by decide +kernel, by decide +kernel⟩, List.mem_of_getElem? (i := 13) (by decide +kernel), List.mem_of_getElem? (i := 496) (by decide +kernel), List.mem_of_getElem? (i := 497) (by decide +kernel)⟩
theorem lw_p17 : lw_okq (⟨"TermScan", "takeLot", "()Z"⟩, 7) := ⟨⟨by decide +kernel, by decide +kernel⟩, List.mem_of_getElem? (i := 13) (by decide +kernel), List.mem_of_getElem? (i := 521) (by decide +kernel), List.mem_of_getElem? (i := 522) (by decide +kernel)⟩
theorem lw_p18 : lw_okq (⟨"TermScan", "written", "()LTermScan$Mended;"⟩, 7) := ⟨⟨by decide +kernel, by decide +kernel⟩, List.mem_of_getElem? (i := 13) (by decide +kernel), List.mem_of_getElem? (i := 570) (by decide +kernel), List.mem_of_getElem? (i := 571) (by decide +kernel)⟩
theorem lw_p19 : lw_okq (⟨"TermScan$Mended", "addWord", "(J)V"⟩, 6) := ⟨⟨by decide +kernel, by decide +kernel⟩, List.mem_of_getElem? (i := 190) (by decide +kernel), List.mem_of_getElem? (i := 582) (by decide +kernel), List.mem_of_getElem? (i := 583) (by decide +kernel)⟩
theorem lw_p20 : lw_okq (⟨"TermScan$Mended", "addSign", "(I)V"⟩, 6) := ⟨⟨by decide +kernel, by decide +kernel⟩, List.mem_of_getElem? (i := 190) (by decide +kernel), List.mem_of_getElem? (i := 586) (by decide +kernel), List.mem_of_getElem? (i := 587) (by decide +kernel)⟩
theorem lw_p21 : lw_okq (⟨"TermScan$Mended", "addWordsOf", "(I)V"⟩, 6) := ⟨⟨by decide +kernel, by decide +kernel⟩, List.mem_of_getElem? (i := 190) (by decide +kernel), List.mem_of_getElem? (i := 592) (by decide +kernel), List.mem_of_getElem? (i := 593) (by decide +kernel)⟩
theorem lw_p22 : lw_okq (⟨"TermScan$Scan", "isLonger", "(II)Z"⟩, 15) := ⟨⟨by decide +kernel, by decide +kernel⟩, List.mem_of_getElem? (i := 131) (by decide +kernel), List.mem_of_getElem? (i := 630) (by decide +kernel), List.mem_of_getElem? (i := 631) (by decide +kernel)⟩
theorem lw_p23 : lw_okq (⟨"TermScan", "imageOf", "(I)LTermScan$Lexicon;"⟩, 7) := ⟨⟨by decide +kernel, by decide +kernel⟩, List.mem_of_getElem? (i := 13) (by decide +kernel), List.mem_of_getElem? (i := 646) (by decide +kernel), List.mem_of_getElem? (i := 647) (by decide +kernel)⟩
theorem lw_p24 : lw_okq (⟨"TermScanModel", "parts", "()I"⟩, 14) := ⟨⟨by decide +kernel, by decide +kernel⟩, List.mem_of_getElem? (i := 658) (by decide +kernel), List.mem_of_getElem? (i := 723) (by decide +kernel), List.mem_of_getElem? (i := 724) (by decide +kernel)⟩
theorem lw_p25 : lw_okq (⟨"TermScanModel", "isTermThere", "(I)Z"⟩, 14) := ⟨⟨by decide +kernel, by decide +kernel⟩, List.mem_of_getElem? (i := 658) (by decide +kernel), List.mem_of_getElem? (i := 727) (by decide +kernel), List.mem_of_getElem? (i := 728) (by decide +kernel)⟩
theorem lw_p26 : lw_okq (⟨"TermScanModel", "isSame", "(II)Z"⟩, 14) := ⟨⟨by decide +kernel, by decide +kernel⟩, List.mem_of_getElem? (i := 658) (by decide +kernel), List.mem_of_getElem? (i := 737) (by decide +kernel), List.mem_of_getElem? (i := 738) (by decide +kernel)⟩
theorem lw_p27 : lw_okq (⟨"TermScanModel", "writes", "(II)V"⟩, 14) := ⟨⟨by decide +kernel, by decide +kernel⟩, List.mem_of_getElem? (i := 658) (by decide +kernel), List.mem_of_getElem? (i := 742) (by decide +kernel), List.mem_of_getElem? (i := 743) (by decide +kernel)⟩
theorem lw_p28 : lw_okq (⟨"TermScanModel", "isTerm", "(I)Z"⟩, 14) := ⟨⟨by decide +kernel, by decide +kernel⟩, List.mem_of_getElem? (i := 658) (by decide +kernel), List.mem_of_getElem? (i := 757) (by decide +kernel), List.mem_of_getElem? (i := 758) (by decide +kernel)⟩
theorem lw_p29 : lw_okq (⟨"TermScanModel", "isPreferred", "(I)Z"⟩, 14) := ⟨⟨by decide +kernel, by decide +kernel⟩, List.mem_of_getElem? (i := 658) (by decide +kernel), List.mem_of_getElem? (i := 762) (by decide +kernel), List.mem_of_getElem? (i := 763) (by decide +kernel)⟩
theorem lw_p30 : lw_okq (⟨"TermScanModel", "isEnding", "(I)Z"⟩, 14) := ⟨⟨by decide +kernel, by decide +kernel⟩, List.mem_of_getElem? (i := 658) (by decide +kernel), List.mem_of_getElem? (i := 770) (by decide +kernel), List.mem_of_getElem? (i := 771) (by decide +kernel)⟩
theorem lw_p31 : lw_okq (⟨"TermScanModel", "forbidden", "()I"⟩, 14) := ⟨⟨by decide +kernel, by decide +kernel⟩, List.mem_of_getElem? (i := 658) (by decide +kernel), List.mem_of_getElem? (i := 778) (by decide +kernel), List.mem_of_getElem? (i := 779) (by decide +kernel)⟩
def lw_privs_2 : List (MethodName × Nat) := [(⟨"TermScan", "textChanged", "()V"⟩, 7), (⟨"TermScan", "takeLot", "()Z"⟩, 7), (⟨"TermScan", "written", "()LTermScan$Mended;"⟩, 7), (⟨"TermScan$Mended", "addWord", "(J)V"⟩, 6), (⟨"TermScan$Mended", "addSign", "(I)V"⟩, 6), (⟨"TermScan$Mended", "addWordsOf", "(I)V"⟩, 6), (⟨"TermScan$Scan", "isLonger", "(II)Z"⟩, 15), (⟨"TermScan", "imageOf", "(I)LTermScan$Lexicon;"⟩, 7), (⟨"TermScanModel", "parts", "()I"⟩, 14), (⟨"TermScanModel", "isTermThere", "(I)Z"⟩, 14), (⟨"TermScanModel", "isSame", "(II)Z"⟩, 14), (⟨"TermScanModel", "writes", "(II)V"⟩, 14), (⟨"TermScanModel", "isTerm", "(I)Z"⟩, 14), (⟨"TermScanModel", "isPreferred", "(I)Z"⟩, 14), (⟨"TermScanModel", "isEnding", "(I)Z"⟩, 14), (⟨"TermScanModel", "forbidden", "()I"⟩, 14)]
theorem lw_r2 : ∀ q ∈ lw_privs_2, lw_okq q := List.forall_mem_cons.mpr ⟨lw_p16, List.forall_mem_cons.mpr ⟨lw_p17, List.forall_mem_cons.mpr ⟨lw_p18, List.forall_mem_cons.mpr ⟨lw_p19, List.forall_mem_cons.mpr ⟨lw_p20, List.forall_mem_cons.mpr ⟨lw_p21, List.forall_mem_cons.mpr ⟨lw_p22, List.forall_mem_cons.mpr ⟨lw_p23, List.forall_mem_cons.mpr ⟨lw_p24, List.forall_mem_cons.mpr ⟨lw_p25, List.forall_mem_cons.mpr ⟨lw_p26, List.forall_mem_cons.mpr ⟨lw_p27, List.forall_mem_cons.mpr ⟨lw_p28, List.forall_mem_cons.mpr ⟨lw_p29, List.forall_mem_cons.mpr ⟨lw_p30, List.forall_mem_cons.mpr ⟨lw_p31, fun _ h => absurd h List.not_mem_nil⟩⟩⟩⟩⟩⟩⟩⟩⟩⟩⟩⟩⟩⟩⟩⟩
theorem lw_p32 : lw_okq (⟨"TermScanModel", "choose", "()V"⟩, 14) := ⟨⟨by decide +kernel, by decide +kernel⟩, List.mem_of_getElem? (i := 658) (by decide +kernel), List.mem_of_getElem? (i := 797) (by decide +kernel), List.mem_of_getElem? (i := 798) (by decide +kernel)⟩
theorem lw_p33 : lw_okq (⟨"TermScanModel", "isFound", "(II)Z"⟩, 14) := ⟨⟨by decide +kernel, by decide +kernel⟩, List.mem_of_getElem? (i := 658) (by decide +kernel), List.mem_of_getElem? (i := 801) (by decide +kernel), List.mem_of_getElem? (i := 802) (by decide +kernel)⟩
theorem lw_p34 : lw_okq (⟨"TermScanModel", "isMet", "(III)Z"⟩, 14) := ⟨⟨by decide +kernel, by decide +kernel⟩, List.mem_of_getElem? (i := 658) (by decide +kernel), List.mem_of_getElem? (i := 805) (by decide +kernel), List.mem_of_getElem? (i := 806) (by decide +kernel)⟩
theorem lw_p35 : lw_okq (⟨"TermScanModel", "meets", "(III)Z"⟩, 14) := ⟨⟨by decide +kernel, by decide +kernel⟩, List.mem_of_getElem? (i := 658) (by decide +kernel), List.mem_of_getElem? (i := 809) (by decide +kernel), List.mem_of_getElem? (i := 810) (by decide +kernel)⟩
theorem lw_p36 : lw_okq (⟨"TermScanModel", "isBegun", "(II)Z"⟩, 14) := ⟨⟨by decide +kernel, by decide +kernel⟩, List.mem_of_getElem? (i := 658) (by decide +kernel), List.mem_of_getElem? (i := 813) (by decide +kernel), List.mem_of_getElem? (i := 814) (by decide +kernel)⟩
theorem lw_p37 : lw_okq (⟨"TermScanModel", "isAs", "(III)Z"⟩, 14) := ⟨⟨by decide +kernel, by decide +kernel⟩, List.mem_of_getElem? (i := 658) (by decide +kernel), List.mem_of_getElem? (i := 817) (by decide +kernel), List.mem_of_getElem? (i := 818) (by decide +kernel)⟩
theorem lw_p38 : lw_okq (⟨"TermScanModel", "worthOf", "(I)I"⟩, 14) := ⟨⟨by decide +kernel, by decide +kernel⟩, List.mem_of_getElem? (i := 658) (by decide +kernel), List.mem_of_getElem? (i := 821) (by decide +kernel), List.mem_of_getElem? (i := 822) (by decide +kernel)⟩
theorem lw_p39 : lw_okq (⟨"TermScanModel", "comes", "(I)V"⟩, 14) := ⟨⟨by decide +kernel, by decide +kernel⟩, List.mem_of_getElem? (i := 658) (by decide +kernel), List.mem_of_getElem? (i := 833) (by decide +kernel), List.mem_of_getElem? (i := 834) (by decide +kernel)⟩
theorem lw_p40 : lw_okq (⟨"TermScanModel", "ends", "()V"⟩, 14) := ⟨⟨by decide +kernel, by decide +kernel⟩, List.mem_of_getElem? (i := 658) (by decide +kernel), List.mem_of_getElem? (i := 837) (by decide +kernel), List.mem_of_getElem? (i := 838) (by decide +kernel)⟩
theorem lw_p41 : lw_okq (⟨"TermScanModel", "clears", "(I)V"⟩, 14) := ⟨⟨by decide +kernel, by decide +kernel⟩, List.mem_of_getElem? (i := 658) (by decide +kernel), List.mem_of_getElem? (i := 841) (by decide +kernel), List.mem_of_getElem? (i := 842) (by decide +kernel)⟩
theorem lw_p42 : lw_okq (⟨"TermScanModel", "hasWord", "()Z"⟩, 14) := ⟨⟨by decide +kernel, by decide +kernel⟩, List.mem_of_getElem? (i := 658) (by decide +kernel), List.mem_of_getElem? (i := 845) (by decide +kernel), List.mem_of_getElem? (i := 846) (by decide +kernel)⟩
theorem lw_p43 : lw_okq (⟨"TermScanModel", "comesAll", "(I)V"⟩, 14) := ⟨⟨by decide +kernel, by decide +kernel⟩, List.mem_of_getElem? (i := 658) (by decide +kernel), List.mem_of_getElem? (i := 864) (by decide +kernel), List.mem_of_getElem? (i := 865) (by decide +kernel)⟩
theorem lw_p44 : lw_okq (⟨"TermScanModel", "isWord", "(I)Z"⟩, 14) := ⟨⟨by decide +kernel, by decide +kernel⟩, List.mem_of_getElem? (i := 658) (by decide +kernel), List.mem_of_getElem? (i := 873) (by decide +kernel), List.mem_of_getElem? (i := 874) (by decide +kernel)⟩
theorem lw_p45 : lw_okq (⟨"TermScanModel", "reach", "(I)I"⟩, 14) := ⟨⟨by decide +kernel, by decide +kernel⟩, List.mem_of_getElem? (i := 658) (by decide +kernel), List.mem_of_getElem? (i := 877) (by decide +kernel), List.mem_of_getElem? (i := 878) (by decide +kernel)⟩
theorem lw_p46 : lw_okq (⟨"TermScanModel", "foundOver", "(I)I"⟩, 14) := ⟨⟨by decide +kernel, by decide +kernel⟩, List.mem_of_getElem? (i := 658) (by decide +kernel), List.mem_of_getElem? (i := 881) (by decide +kernel), List.mem_of_getElem? (i := 882) (by decide +kernel)⟩
theorem lw_p47 : lw_okq (⟨"TermScanModel", "chosenOver", "(I)I"⟩, 14) := ⟨⟨by decide +kernel, by decide +kernel⟩, List.mem_of_getElem? (i := 658) (by decide +kernel), List.mem_of_getElem? (i := 885) (by decide +kernel), List.mem_of_getElem? (i := 886) (by decide +kernel)⟩
def lw_privs_3 : List (MethodName × Nat) := [(⟨"TermScanModel", "choose", "()V"⟩, 14), (⟨"TermScanModel", "isFound", "(II)Z"⟩, 14), (⟨"TermScanModel", "isMet", "(III)Z"⟩, 14), (⟨"TermScanModel", "meets", "(III)Z"⟩, 14), (⟨"TermScanModel", "isBegun", "(II)Z"⟩, 14), (⟨"TermScanModel", "isAs", "(III)Z"⟩, 14), (⟨"TermScanModel", "worthOf", "(I)I"⟩, 14), (⟨"TermScanModel", "comes", "(I)V"⟩, 14), (⟨"TermScanModel", "ends", "()V"⟩, 14), (⟨"TermScanModel", "clears", "(I)V"⟩, 14), (⟨"TermScanModel", "hasWord", "()Z"⟩, 14), (⟨"TermScanModel", "comesAll", "(I)V"⟩, 14), (⟨"TermScanModel", "isWord", "(I)Z"⟩, 14), (⟨"TermScanModel", "reach", "(I)I"⟩, 14), (⟨"TermScanModel", "foundOver", "(I)I"⟩, 14), (⟨"TermScanModel", "chosenOver", "(I)I"⟩, 14)]
theorem lw_r3 : ∀ q ∈ lw_privs_3, lw_okq q := List.forall_mem_cons.mpr ⟨lw_p32, List.forall_mem_cons.mpr ⟨lw_p33, List.forall_mem_cons.mpr ⟨lw_p34, List.forall_mem_cons.mpr ⟨lw_p35, List.forall_mem_cons.mpr ⟨lw_p36, List.forall_mem_cons.mpr ⟨lw_p37, List.forall_mem_cons.mpr ⟨lw_p38, List.forall_mem_cons.mpr ⟨lw_p39, List.forall_mem_cons.mpr ⟨lw_p40, List.forall_mem_cons.mpr ⟨lw_p41, List.forall_mem_cons.mpr ⟨lw_p42, List.forall_mem_cons.mpr ⟨lw_p43, List.forall_mem_cons.mpr ⟨lw_p44, List.forall_mem_cons.mpr ⟨lw_p45, List.forall_mem_cons.mpr ⟨lw_p46, List.forall_mem_cons.mpr ⟨lw_p47, fun _ h => absurd h List.not_mem_nil⟩⟩⟩⟩⟩⟩⟩⟩⟩⟩⟩⟩⟩⟩⟩⟩
theorem lw_p48 : lw_okq (⟨"TermScanModel", "counts", "(I)I"⟩, 14) := ⟨⟨by decide +kernel, by decide +kernel⟩, List.mem_of_getElem? (i := 658) (by decide +kernel), List.mem_of_getElem? (i := 893) (by decide +kernel), List.mem_of_getElem? (i := 894) (by decide +kernel)⟩
theorem lw_p49 : lw_okq (⟨"TermScanModel", "mends", "()I"⟩, 14) := ⟨⟨by decide +kernel, by decide +kernel⟩, List.mem_of_getElem? (i := 658) (by decide +kernel), List.mem_of_getElem? (i := 897) (by decide +kernel), List.mem_of_getElem? (i := 898) (by decide +kernel)⟩
theorem lw_p50 : lw_okq (⟨"TermScanModel", "place", "(IZ)I"⟩, 14) := ⟨⟨by decide +kernel, by decide +kernel⟩, List.mem_of_getElem? (i := 658) (by decide +kernel), List.mem_of_getElem? (i := 905) (by decide +kernel), List.mem_of_getElem? (i := 906) (by decide +kernel)⟩
def lw_privs_4 : List (MethodName × Nat) := [(⟨"TermScanModel", "counts", "(I)I"⟩, 14), (⟨"TermScanModel", "mends", "()I"⟩, 14), (⟨"TermScanModel", "place", "(IZ)I"⟩, 14)]
theorem lw_r4 : ∀ q ∈ lw_privs_4, lw_okq q := List.forall_mem_cons.mpr ⟨lw_p48, List.forall_mem_cons.mpr ⟨lw_p49, List.forall_mem_cons.mpr ⟨lw_p50, fun _ h => absurd h List.not_mem_nil⟩⟩⟩
def lw_privs : List (MethodName × Nat) := lw_privs_1 ++ (lw_privs_2 ++ (lw_privs_3 ++ (lw_privs_4)))
def lw_tbl : List Cond := k2_sels lw_privs ++ tables_1
theorem lw_privs_ok : ∀ q ∈ lw_privs, lw_okq q := by
  show ∀ q ∈ lw_privs_1 ++ (lw_privs_2 ++ (lw_privs_3 ++ (lw_privs_4))), lw_okq q
  exact List.forall_mem_append.mpr ⟨lw_r1, List.forall_mem_append.mpr ⟨lw_r2, List.forall_mem_append.mpr ⟨lw_r3, lw_r4⟩⟩⟩
-- ===== end of PART A; then your names; then what follows =====
def RX0 : String := "TermScan$Letters"
def TX0 : u_T := fun k => match k with
  | _ => ("", "", "", false)
def tyX0 : Nat → FieldType := fun k => match k with
  | _ => .int
theorem nmX0 : ∀ a, a < 0 → ∀ b, b < 0 → a ≠ b → (TX0 a).2.1 ≠ (TX0 b).2.1 := by decide +kernel
theorem tyX0_ok : ∀ k, k < 0 → parseFieldDescriptor (TX0 k).2.2.1 = some (tyX0 k) := by decide +kernel
abbrev cX0_isLetter : ByteArray := prog_2_method_2_code
def yX0_isLetter : MethodName := ⟨RX0, "isLetter", "(I)Z"⟩
abbrev cX0_sizeOf : ByteArray := prog_2_method_3_code
def yX0_sizeOf : MethodName := ⟨RX0, "sizeOf", "(J)I"⟩
abbrev cX0_at : ByteArray := prog_2_method_4_code
def yX0_at : MethodName := ⟨RX0, "at", "(JI)I"⟩
abbrev cX0_with : ByteArray := prog_2_method_5_code
def yX0_with : MethodName := ⟨RX0, "with", "(JII)J"⟩
abbrev cX0_without : ByteArray := prog_2_method_6_code
def yX0_without : MethodName := ⟨RX0, "without", "(JJI)J"⟩
def RX1 : String := "TermScan$Lexicon"
def TX1 : u_T := fun k => match k with
  | 0 => ("TermScan$Lexicon", "termCount", "I", false)
  | 1 => ("TermScan$Lexicon", "words", "[J", true)
  | 2 => ("TermScan$Lexicon", "sizes", "[I", true)
  | 3 => ("TermScan$Lexicon", "weights", "[I", true)
  | 4 => ("TermScan$Lexicon", "bents", "[I", true)
  | 5 => ("TermScan$Lexicon", "preferred", "[I", true)
  | 6 => ("TermScan$Lexicon", "endingCount", "I", false)
  | 7 => ("TermScan$Lexicon", "endings", "[J", true)
  | _ => ("TermScan$Lexicon", "kept", "Z", false)
def tyX1 : Nat → FieldType := fun k => match k with
  | 0 => .int
  | 1 => .array .long
  | 2 => .array .int
  | 3 => .array .int
  | 4 => .array .int
  | 5 => .array .int
  | 6 => .int
  | 7 => .array .long
  | _ => .boolean
theorem nmX1 : ∀ a, a < 9 → ∀ b, b < 9 → a ≠ b → (TX1 a).2.1 ≠ (TX1 b).2.1 := by decide +kernel
theorem tyX1_ok : ∀ k, k < 9 → parseFieldDescriptor (TX1 k).2.2.1 = some (tyX1 k) := by decide +kernel
abbrev cX1_init : ByteArray := prog_3_method_1_code
def yX1_init : MethodName := ⟨RX1, "<init>", "()V"⟩
abbrev cX1_copyFrom : ByteArray := prog_3_method_2_code
def yX1_copyFrom : MethodName := ⟨RX1, "copyFrom", "(LTermScan$Lexicon;)V"⟩
abbrev cX1_copyTerm : ByteArray := prog_3_method_3_code
def yX1_copyTerm : MethodName := ⟨RX1, "copyTerm", "(LTermScan$Lexicon;II)V"⟩
abbrev cX1_isTerm : ByteArray := prog_3_method_4_code
def yX1_isTerm : MethodName := ⟨RX1, "isTerm", "(I)Z"⟩
abbrev cX1_isEnding : ByteArray := prog_3_method_5_code
def yX1_isEnding : MethodName := ⟨RX1, "isEnding", "(I)Z"⟩
abbrev cX1_isForbidden : ByteArray := prog_3_method_6_code
def yX1_isForbidden : MethodName := ⟨RX1, "isForbidden", "(I)Z"⟩
abbrev cX1_isPreferred : ByteArray := prog_3_method_7_code
def yX1_isPreferred : MethodName := ⟨RX1, "isPreferred", "(I)Z"⟩
abbrev cX1_forbiddenSet : ByteArray := prog_3_method_8_code
def yX1_forbiddenSet : MethodName := ⟨RX1, "forbiddenSet", "()I"⟩
abbrev cX1_wordOf : ByteArray := prog_3_method_9_code
def yX1_wordOf : MethodName := ⟨RX1, "wordOf", "(II)J"⟩
abbrev cX1_worthOf : ByteArray := prog_3_method_10_code
def yX1_worthOf : MethodName := ⟨RX1, "worthOf", "(I)I"⟩
abbrev cX1_hasTerm : ByteArray := prog_3_method_11_code
def yX1_hasTerm : MethodName := ⟨RX1, "hasTerm", "([JI)Z"⟩
abbrev cX1_hasWords : ByteArray := prog_3_method_12_code
def yX1_hasWords : MethodName := ⟨RX1, "hasWords", "(I[J)Z"⟩
abbrev cX1_addTerm : ByteArray := prog_3_method_13_code
def yX1_addTerm : MethodName := ⟨RX1, "addTerm", "([JIII)I"⟩
abbrev cX1_removeTerm : ByteArray := prog_3_method_14_code
def yX1_removeTerm : MethodName := ⟨RX1, "removeTerm", "(I)V"⟩
abbrev cX1_hasEnding : ByteArray := prog_3_method_15_code
def yX1_hasEnding : MethodName := ⟨RX1, "hasEnding", "(J)Z"⟩
abbrev cX1_addEnding : ByteArray := prog_3_method_16_code
def yX1_addEnding : MethodName := ⟨RX1, "addEnding", "(J)I"⟩
abbrev cX1_removeEnding : ByteArray := prog_3_method_17_code
def yX1_removeEnding : MethodName := ⟨RX1, "removeEnding", "(I)V"⟩
def RX2 : String := "TermScan$Lots"
def TX2 : u_T := fun k => match k with
  | _ => ("TermScan$Lots", "x", "J", false)
def tyX2 : Nat → FieldType := fun k => match k with
  | _ => .long
theorem nmX2 : ∀ a, a < 1 → ∀ b, b < 1 → a ≠ b → (TX2 a).2.1 ≠ (TX2 b).2.1 := by decide +kernel
theorem tyX2_ok : ∀ k, k < 1 → parseFieldDescriptor (TX2 k).2.2.1 = some (tyX2 k) := by decide +kernel
abbrev cX2_init : ByteArray := prog_4_method_1_code
def yX2_init : MethodName := ⟨RX2, "<init>", "()V"⟩
abbrev cX2_start : ByteArray := prog_4_method_2_code
def yX2_start : MethodName := ⟨RX2, "start", "(I)V"⟩
abbrev cX2_below : ByteArray := prog_4_method_3_code
def yX2_below : MethodName := ⟨RX2, "below", "(I)I"⟩
def RX3 : String := "TermScan$Mended"
def TX3 : u_T := fun k => match k with
  | 0 => ("TermScan$Mended", "lexicon", "LTermScan$Lexicon;", true)
  | 1 => ("TermScan$Mended", "text", "LTermScan$Text;", true)
  | 2 => ("TermScan$Mended", "scan", "LTermScan$Scan;", true)
  | 3 => ("TermScan$Mended", "signs", "[C", true)
  | 4 => ("TermScan$Mended", "size", "I", false)
  | _ => ("TermScan$Mended", "fresh", "Z", false)
def tyX3 : Nat → FieldType := fun k => match k with
  | 0 => .object "TermScan$Lexicon"
  | 1 => .object "TermScan$Text"
  | 2 => .object "TermScan$Scan"
  | 3 => .array .char
  | 4 => .int
  | _ => .boolean
theorem nmX3 : ∀ a, a < 6 → ∀ b, b < 6 → a ≠ b → (TX3 a).2.1 ≠ (TX3 b).2.1 := by decide +kernel
theorem tyX3_ok : ∀ k, k < 6 → parseFieldDescriptor (TX3 k).2.2.1 = some (tyX3 k) := by decide +kernel
abbrev cX3_init : ByteArray := prog_5_method_1_code
def yX3_init : MethodName := ⟨RX3, "<init>", "(LTermScan$Lexicon;LTermScan$Text;LTermScan$Scan;)V"⟩
abbrev cX3_forget : ByteArray := prog_5_method_2_code
def yX3_forget : MethodName := ⟨RX3, "forget", "()V"⟩
abbrev cX3_write : ByteArray := prog_5_method_3_code
def yX3_write : MethodName := ⟨RX3, "write", "()V"⟩
abbrev cX3_addWordsOf : ByteArray := prog_5_method_4_code
def yX3_addWordsOf : MethodName := ⟨RX3, "addWordsOf", "(I)V"⟩
abbrev cX3_addWord : ByteArray := prog_5_method_5_code
def yX3_addWord : MethodName := ⟨RX3, "addWord", "(J)V"⟩
abbrev cX3_addSign : ByteArray := prog_5_method_6_code
def yX3_addSign : MethodName := ⟨RX3, "addSign", "(I)V"⟩
def RX4 : String := "TermScan$Scan"
def TX4 : u_T := fun k => match k with
  | 0 => ("TermScan$Scan", "lexicon", "LTermScan$Lexicon;", true)
  | 1 => ("TermScan$Scan", "text", "LTermScan$Text;", true)
  | 2 => ("TermScan$Scan", "looked", "I", false)
  | 3 => ("TermScan$Scan", "settled", "Z", false)
  | 4 => ("TermScan$Scan", "forms", "[J", true)
  | 5 => ("TermScan$Scan", "formCount", "I", false)
  | 6 => ("TermScan$Scan", "begun", "[I", true)
  | 7 => ("TermScan$Scan", "starts", "[I", true)
  | 8 => ("TermScan$Scan", "worths", "[I", true)
  | 9 => ("TermScan$Scan", "fewest", "[I", true)
  | 10 => ("TermScan$Scan", "takes", "[I", true)
  | 11 => ("TermScan$Scan", "chosenCount", "I", false)
  | 12 => ("TermScan$Scan", "chosenAt", "[I", true)
  | 13 => ("TermScan$Scan", "chosenTerms", "[I", true)
  | _ => ("TermScan$Scan", "chosenOver", "[I", true)
def tyX4 : Nat → FieldType := fun k => match k with
  | 0 => .object "TermScan$Lexicon"
  | 1 => .object "TermScan$Text"
  | 2 => .int
  | 3 => .boolean
  | 4 => .array .long
  | 5 => .int
  | 6 => .array .int
  | 7 => .array .int
  | 8 => .array .int
  | 9 => .array .int
  | 10 => .array .int
  | 11 => .int
  | 12 => .array .int
  | 13 => .array .int
  | _ => .array .int
theorem nmX4 : ∀ a, a < 15 → ∀ b, b < 15 → a ≠ b → (TX4 a).2.1 ≠ (TX4 b).2.1 := by decide +kernel
theorem tyX4_ok : ∀ k, k < 15 → parseFieldDescriptor (TX4 k).2.2.1 = some (tyX4 k) := by decide +kernel
abbrev cX4_init : ByteArray := prog_6_method_1_code
def yX4_init : MethodName := ⟨RX4, "<init>", "(LTermScan$Lexicon;LTermScan$Text;)V"⟩
abbrev cX4_forget : ByteArray := prog_6_method_2_code
def yX4_forget : MethodName := ⟨RX4, "forget", "()V"⟩
abbrev cX4_unsettle : ByteArray := prog_6_method_3_code
def yX4_unsettle : MethodName := ⟨RX4, "unsettle", "()V"⟩
abbrev cX4_settle : ByteArray := prog_6_method_4_code
def yX4_settle : MethodName := ⟨RX4, "settle", "()V"⟩
abbrev cX4_look : ByteArray := prog_6_method_5_code
def yX4_look : MethodName := ⟨RX4, "look", "(I)V"⟩
abbrev cX4_hasBegun : ByteArray := prog_6_method_6_code
def yX4_hasBegun : MethodName := ⟨RX4, "hasBegun", "(III)Z"⟩
abbrev cX4_meets : ByteArray := prog_6_method_7_code
def yX4_meets : MethodName := ⟨RX4, "meets", "(I)I"⟩
abbrev cX4_makeForms : ByteArray := prog_6_method_8_code
def yX4_makeForms : MethodName := ⟨RX4, "makeForms", "(J)V"⟩
abbrev cX4_isForm : ByteArray := prog_6_method_9_code
def yX4_isForm : MethodName := ⟨RX4, "isForm", "(JI)Z"⟩
abbrev cX4_weigh : ByteArray := prog_6_method_10_code
def yX4_weigh : MethodName := ⟨RX4, "weigh", "()V"⟩
abbrev cX4_weighFrom : ByteArray := prog_6_method_11_code
def yX4_weighFrom : MethodName := ⟨RX4, "weighFrom", "(I)V"⟩
abbrev cX4_isBetter : ByteArray := prog_6_method_12_code
def yX4_isBetter : MethodName := ⟨RX4, "isBetter", "(IIII)Z"⟩
abbrev cX4_choose : ByteArray := prog_6_method_13_code
def yX4_choose : MethodName := ⟨RX4, "choose", "()V"⟩
abbrev cX4_isFound : ByteArray := prog_6_method_14_code
def yX4_isFound : MethodName := ⟨RX4, "isFound", "(II)Z"⟩
abbrev cX4_isChosen : ByteArray := prog_6_method_15_code
def yX4_isChosen : MethodName := ⟨RX4, "isChosen", "(II)Z"⟩
abbrev cX4_foundCount : ByteArray := prog_6_method_16_code
def yX4_foundCount : MethodName := ⟨RX4, "foundCount", "()I"⟩
abbrev cX4_foundAt : ByteArray := prog_6_method_17_code
def yX4_foundAt : MethodName := ⟨RX4, "foundAt", "(I)I"⟩
abbrev cX4_foundTerm : ByteArray := prog_6_method_18_code
def yX4_foundTerm : MethodName := ⟨RX4, "foundTerm", "(I)I"⟩
abbrev cX4_timesFound : ByteArray := prog_6_method_19_code
def yX4_timesFound : MethodName := ⟨RX4, "timesFound", "(I)I"⟩
abbrev cX4_timesChosen : ByteArray := prog_6_method_20_code
def yX4_timesChosen : MethodName := ⟨RX4, "timesChosen", "(I)I"⟩
abbrev cX4_wordsChosen : ByteArray := prog_6_method_21_code
def yX4_wordsChosen : MethodName := ⟨RX4, "wordsChosen", "()I"⟩
abbrev cX4_insteadCount : ByteArray := prog_6_method_22_code
def yX4_insteadCount : MethodName := ⟨RX4, "insteadCount", "()I"⟩
abbrev cX4_insteadOver : ByteArray := prog_6_method_23_code
def yX4_insteadOver : MethodName := ⟨RX4, "insteadOver", "(I)I"⟩
abbrev cX4_reach : ByteArray := prog_6_method_24_code
def yX4_reach : MethodName := ⟨RX4, "reach", "(I)I"⟩
abbrev cX4_termsOver : ByteArray := prog_6_method_25_code
def yX4_termsOver : MethodName := ⟨RX4, "termsOver", "(I)I"⟩
abbrev cX4_longestAt : ByteArray := prog_6_method_26_code
def yX4_longestAt : MethodName := ⟨RX4, "longestAt", "(I)I"⟩
abbrev cX4_isLonger : ByteArray := prog_6_method_27_code
def yX4_isLonger : MethodName := ⟨RX4, "isLonger", "(II)Z"⟩
def RX5 : String := "TermScan$Slip"
def TX5 : u_T := fun k => match k with
  | 0 => ("TermScan$Slip", "signs", "[I", true)
  | 1 => ("TermScan$Slip", "size", "I", false)
  | _ => ("TermScan$Slip", "words", "[J", true)
def tyX5 : Nat → FieldType := fun k => match k with
  | 0 => .array .int
  | 1 => .int
  | _ => .array .long
theorem nmX5 : ∀ a, a < 3 → ∀ b, b < 3 → a ≠ b → (TX5 a).2.1 ≠ (TX5 b).2.1 := by decide +kernel
theorem tyX5_ok : ∀ k, k < 3 → parseFieldDescriptor (TX5 k).2.2.1 = some (tyX5 k) := by decide +kernel
abbrev cX5_init : ByteArray := prog_7_method_1_code
def yX5_init : MethodName := ⟨RX5, "<init>", "()V"⟩
abbrev cX5_add : ByteArray := prog_7_method_2_code
def yX5_add : MethodName := ⟨RX5, "add", "(I)Z"⟩
abbrev cX5_takeWords : ByteArray := prog_7_method_3_code
def yX5_takeWords : MethodName := ⟨RX5, "takeWords", "()I"⟩
def RX6 : String := "TermScan$Text"
def TX6 : u_T := fun k => match k with
  | 0 => ("TermScan$Text", "count", "I", false)
  | 1 => ("TermScan$Text", "words", "[J", true)
  | 2 => ("TermScan$Text", "tooLong", "[Z", true)
  | 3 => ("TermScan$Text", "sentences", "[I", true)
  | 4 => ("TermScan$Text", "sentencesEnded", "I", false)
  | 5 => ("TermScan$Text", "coming", "J", false)
  | _ => ("TermScan$Text", "comingTooLong", "Z", false)
def tyX6 : Nat → FieldType := fun k => match k with
  | 0 => .int
  | 1 => .array .long
  | 2 => .array .boolean
  | 3 => .array .int
  | 4 => .int
  | 5 => .long
  | _ => .boolean
theorem nmX6 : ∀ a, a < 7 → ∀ b, b < 7 → a ≠ b → (TX6 a).2.1 ≠ (TX6 b).2.1 := by decide +kernel
theorem tyX6_ok : ∀ k, k < 7 → parseFieldDescriptor (TX6 k).2.2.1 = some (tyX6 k) := by decide +kernel
abbrev cX6_init : ByteArray := prog_8_method_1_code
def yX6_init : MethodName := ⟨RX6, "<init>", "()V"⟩
abbrev cX6_hasRoom : ByteArray := prog_8_method_2_code
def yX6_hasRoom : MethodName := ⟨RX6, "hasRoom", "()Z"⟩
abbrev cX6_isWord : ByteArray := prog_8_method_3_code
def yX6_isWord : MethodName := ⟨RX6, "isWord", "(I)Z"⟩
abbrev cX6_clear : ByteArray := prog_8_method_4_code
def yX6_clear : MethodName := ⟨RX6, "clear", "()V"⟩
abbrev cX6_take : ByteArray := prog_8_method_5_code
def yX6_take : MethodName := ⟨RX6, "take", "(I)V"⟩
abbrev cX6_takeLetters : ByteArray := prog_8_method_6_code
def yX6_takeLetters : MethodName := ⟨RX6, "takeLetters", "(J)V"⟩
abbrev cX6_addLetter : ByteArray := prog_8_method_7_code
def yX6_addLetter : MethodName := ⟨RX6, "addLetter", "(I)V"⟩
abbrev cX6_endWord : ByteArray := prog_8_method_8_code
def yX6_endWord : MethodName := ⟨RX6, "endWord", "()V"⟩
abbrev cX6_endSentence : ByteArray := prog_8_method_9_code
def yX6_endSentence : MethodName := ⟨RX6, "endSentence", "()V"⟩
abbrev cX6_beginsSentence : ByteArray := prog_8_method_10_code
def yX6_beginsSentence : MethodName := ⟨RX6, "beginsSentence", "(I)Z"⟩
abbrev cX6_endsSentence : ByteArray := prog_8_method_11_code
def yX6_endsSentence : MethodName := ⟨RX6, "endsSentence", "(I)Z"⟩
def RX7 : String := "TermScan"
def TX7 : u_T := fun k => match k with
  | 0 => ("TermScan", "slip", "LTermScan$Slip;", true)
  | 1 => ("TermScan", "lexicon", "LTermScan$Lexicon;", true)
  | 2 => ("TermScan", "images", "[LTermScan$Lexicon;", true)
  | 3 => ("TermScan", "text", "LTermScan$Text;", true)
  | 4 => ("TermScan", "scan", "LTermScan$Scan;", true)
  | 5 => ("TermScan", "mended", "LTermScan$Mended;", true)
  | _ => ("TermScan", "lots", "LTermScan$Lots;", true)
def tyX7 : Nat → FieldType := fun k => match k with
  | 0 => .object "TermScan$Slip"
  | 1 => .object "TermScan$Lexicon"
  | 2 => .array (.object "TermScan$Lexicon")
  | 3 => .object "TermScan$Text"
  | 4 => .object "TermScan$Scan"
  | 5 => .object "TermScan$Mended"
  | _ => .object "TermScan$Lots"
theorem nmX7 : ∀ a, a < 7 → ∀ b, b < 7 → a ≠ b → (TX7 a).2.1 ≠ (TX7 b).2.1 := by decide +kernel
theorem tyX7_ok : ∀ k, k < 7 → parseFieldDescriptor (TX7 k).2.2.1 = some (tyX7 k) := by decide +kernel
abbrev cX7_init : ByteArray := prog_1_method_1_code
def yX7_init : MethodName := ⟨RX7, "<init>", "()V"⟩
abbrev cX7_spell : ByteArray := prog_1_method_2_code
def yX7_spell : MethodName := ⟨RX7, "spell", "(I)I"⟩
abbrev cX7_term : ByteArray := prog_1_method_3_code
def yX7_term : MethodName := ⟨RX7, "term", "(II)I"⟩
abbrev cX7_ending : ByteArray := prog_1_method_4_code
def yX7_ending : MethodName := ⟨RX7, "ending", "()I"⟩
abbrev cX7_dropTerm : ByteArray := prog_1_method_5_code
def yX7_dropTerm : MethodName := ⟨RX7, "dropTerm", "(I)I"⟩
abbrev cX7_dropEnding : ByteArray := prog_1_method_6_code
def yX7_dropEnding : MethodName := ⟨RX7, "dropEnding", "(I)I"⟩
abbrev cX7_forbid : ByteArray := prog_1_method_7_code
def yX7_forbid : MethodName := ⟨RX7, "forbid", "(II)I"⟩
abbrev cX7_allow : ByteArray := prog_1_method_8_code
def yX7_allow : MethodName := ⟨RX7, "allow", "(I)I"⟩
abbrev cX7_change : ByteArray := prog_1_method_9_code
def yX7_change : MethodName := ⟨RX7, "change", "(III)I"⟩
abbrev cX7_termOf : ByteArray := prog_1_method_10_code
def yX7_termOf : MethodName := ⟨RX7, "termOf", "(II)I"⟩
abbrev cX7_letter : ByteArray := prog_1_method_11_code
def yX7_letter : MethodName := ⟨RX7, "letter", "(III)I"⟩
abbrev cX7_read : ByteArray := prog_1_method_12_code
def yX7_read : MethodName := ⟨RX7, "read", "(I)I"⟩
abbrev cX7_wipe : ByteArray := prog_1_method_13_code
def yX7_wipe : MethodName := ⟨RX7, "wipe", "()I"⟩
abbrev cX7_drift : ByteArray := prog_1_method_14_code
def yX7_drift : MethodName := ⟨RX7, "drift", "(II)I"⟩
abbrev cX7_word : ByteArray := prog_1_method_15_code
def yX7_word : MethodName := ⟨RX7, "word", "(II)I"⟩
abbrev cX7_told : ByteArray := prog_1_method_16_code
def yX7_told : MethodName := ⟨RX7, "told", "(I)I"⟩
abbrev cX7_found : ByteArray := prog_1_method_17_code
def yX7_found : MethodName := ⟨RX7, "found", "(II)I"⟩
abbrev cX7_chosen : ByteArray := prog_1_method_18_code
def yX7_chosen : MethodName := ⟨RX7, "chosen", "(II)I"⟩
abbrev cX7_longest : ByteArray := prog_1_method_19_code
def yX7_longest : MethodName := ⟨RX7, "longest", "(I)I"⟩
abbrev cX7_sign : ByteArray := prog_1_method_20_code
def yX7_sign : MethodName := ⟨RX7, "sign", "(I)I"⟩
abbrev cX7_same : ByteArray := prog_1_method_21_code
def yX7_same : MethodName := ⟨RX7, "same", "(II)I"⟩
abbrev cX7_keep : ByteArray := prog_1_method_22_code
def yX7_keep : MethodName := ⟨RX7, "keep", "(I)I"⟩
abbrev cX7_goBack : ByteArray := prog_1_method_23_code
def yX7_goBack : MethodName := ⟨RX7, "goBack", "(I)I"⟩
abbrev cX7_isWeight : ByteArray := prog_1_method_24_code
def yX7_isWeight : MethodName := ⟨RX7, "isWeight", "(I)Z"⟩
abbrev cX7_isBent : ByteArray := prog_1_method_25_code
def yX7_isBent : MethodName := ⟨RX7, "isBent", "(I)Z"⟩
abbrev cX7_imageOf : ByteArray := prog_1_method_26_code
def yX7_imageOf : MethodName := ⟨RX7, "imageOf", "(I)LTermScan$Lexicon;"⟩
abbrev cX7_termsChanged : ByteArray := prog_1_method_27_code
def yX7_termsChanged : MethodName := ⟨RX7, "termsChanged", "()V"⟩
abbrev cX7_textChanged : ByteArray := prog_1_method_28_code
def yX7_textChanged : MethodName := ⟨RX7, "textChanged", "()V"⟩
abbrev cX7_settled : ByteArray := prog_1_method_29_code
def yX7_settled : MethodName := ⟨RX7, "settled", "()LTermScan$Scan;"⟩
abbrev cX7_written : ByteArray := prog_1_method_30_code
def yX7_written : MethodName := ⟨RX7, "written", "()LTermScan$Mended;"⟩
abbrev cX7_takeLot : ByteArray := prog_1_method_31_code
def yX7_takeLot : MethodName := ⟨RX7, "takeLot", "()Z"⟩
def RX8 : String := "TermScanModel"
def TX8 : u_T := fun k => match k with
  | 0 => ("TermScanModel", "book", "[I", true)
  | 1 => ("TermScanModel", "images", "[I", true)
  | 2 => ("TermScanModel", "kept", "[Z", true)
  | 3 => ("TermScanModel", "slip", "[I", true)
  | 4 => ("TermScanModel", "spelled", "I", false)
  | 5 => ("TermScanModel", "text", "[I", true)
  | 6 => ("TermScanModel", "ended", "I", false)
  | 7 => ("TermScanModel", "sentences", "I", false)
  | 8 => ("TermScanModel", "begins", "[I", true)
  | 9 => ("TermScanModel", "sizes", "[I", true)
  | 10 => ("TermScanModel", "worths", "[I", true)
  | 11 => ("TermScanModel", "many", "[I", true)
  | 12 => ("TermScanModel", "choice", "[I", true)
  | _ => ("TermScanModel", "mended", "[I", true)
def tyX8 : Nat → FieldType := fun k => match k with
  | 0 => .array .int
  | 1 => .array .int
  | 2 => .array .boolean
  | 3 => .array .int
  | 4 => .int
  | 5 => .array .int
  | 6 => .int
  | 7 => .int
  | 8 => .array .int
  | 9 => .array .int
  | 10 => .array .int
  | 11 => .array .int
  | 12 => .array .int
  | _ => .array .int
theorem nmX8 : ∀ a, a < 14 → ∀ b, b < 14 → a ≠ b → (TX8 a).2.1 ≠ (TX8 b).2.1 := by decide +kernel
theorem tyX8_ok : ∀ k, k < 14 → parseFieldDescriptor (TX8 k).2.2.1 = some (tyX8 k) := by decide +kernel
abbrev cX8_init : ByteArray := prog_10_method_1_code
def yX8_init : MethodName := ⟨RX8, "<init>", "()V"⟩
abbrev cX8_in : ByteArray := prog_10_method_3_code
def yX8_in : MethodName := ⟨RX8, "in", "(III)Z"⟩
abbrev cX8_isLetter : ByteArray := prog_10_method_4_code
def yX8_isLetter : MethodName := ⟨RX8, "isLetter", "(I)Z"⟩
abbrev cX8_isTerm : ByteArray := prog_10_method_5_code
def yX8_isTerm : MethodName := ⟨RX8, "isTerm", "(I)Z"⟩
abbrev cX8_isEnding : ByteArray := prog_10_method_6_code
def yX8_isEnding : MethodName := ⟨RX8, "isEnding", "(I)Z"⟩
abbrev cX8_termAt : ByteArray := prog_10_method_7_code
def yX8_termAt : MethodName := ⟨RX8, "termAt", "(I)I"⟩
abbrev cX8_wordAt : ByteArray := prog_10_method_8_code
def yX8_wordAt : MethodName := ⟨RX8, "wordAt", "(II)I"⟩
abbrev cX8_endingAt : ByteArray := prog_10_method_9_code
def yX8_endingAt : MethodName := ⟨RX8, "endingAt", "(I)I"⟩
abbrev cX8_spell : ByteArray := prog_10_method_10_code
def yX8_spell : MethodName := ⟨RX8, "spell", "(I)I"⟩
abbrev cX8_parts : ByteArray := prog_10_method_11_code
def yX8_parts : MethodName := ⟨RX8, "parts", "()I"⟩
abbrev cX8_isSame : ByteArray := prog_10_method_12_code
def yX8_isSame : MethodName := ⟨RX8, "isSame", "(II)Z"⟩
abbrev cX8_isTermThere : ByteArray := prog_10_method_13_code
def yX8_isTermThere : MethodName := ⟨RX8, "isTermThere", "(I)Z"⟩
abbrev cX8_writes : ByteArray := prog_10_method_14_code
def yX8_writes : MethodName := ⟨RX8, "writes", "(II)V"⟩
abbrev cX8_term : ByteArray := prog_10_method_15_code
def yX8_term : MethodName := ⟨RX8, "term", "(II)I"⟩
abbrev cX8_ending : ByteArray := prog_10_method_16_code
def yX8_ending : MethodName := ⟨RX8, "ending", "()I"⟩
abbrev cX8_isPreferred : ByteArray := prog_10_method_17_code
def yX8_isPreferred : MethodName := ⟨RX8, "isPreferred", "(I)Z"⟩
abbrev cX8_forbidden : ByteArray := prog_10_method_18_code
def yX8_forbidden : MethodName := ⟨RX8, "forbidden", "()I"⟩
abbrev cX8_ones : ByteArray := prog_10_method_19_code
def yX8_ones : MethodName := ⟨RX8, "ones", "(I)I"⟩
abbrev cX8_dropTerm : ByteArray := prog_10_method_20_code
def yX8_dropTerm : MethodName := ⟨RX8, "dropTerm", "(I)I"⟩
abbrev cX8_dropEnding : ByteArray := prog_10_method_21_code
def yX8_dropEnding : MethodName := ⟨RX8, "dropEnding", "(I)I"⟩
abbrev cX8_forbid : ByteArray := prog_10_method_22_code
def yX8_forbid : MethodName := ⟨RX8, "forbid", "(II)I"⟩
abbrev cX8_allow : ByteArray := prog_10_method_23_code
def yX8_allow : MethodName := ⟨RX8, "allow", "(I)I"⟩
abbrev cX8_change : ByteArray := prog_10_method_24_code
def yX8_change : MethodName := ⟨RX8, "change", "(III)I"⟩
abbrev cX8_termOf : ByteArray := prog_10_method_25_code
def yX8_termOf : MethodName := ⟨RX8, "termOf", "(II)I"⟩
abbrev cX8_letter : ByteArray := prog_10_method_26_code
def yX8_letter : MethodName := ⟨RX8, "letter", "(III)I"⟩
abbrev cX8_clears : ByteArray := prog_10_method_27_code
def yX8_clears : MethodName := ⟨RX8, "clears", "(I)V"⟩
abbrev cX8_ends : ByteArray := prog_10_method_28_code
def yX8_ends : MethodName := ⟨RX8, "ends", "()V"⟩
abbrev cX8_hasWord : ByteArray := prog_10_method_29_code
def yX8_hasWord : MethodName := ⟨RX8, "hasWord", "()Z"⟩
abbrev cX8_comes : ByteArray := prog_10_method_30_code
def yX8_comes : MethodName := ⟨RX8, "comes", "(I)V"⟩
abbrev cX8_read : ByteArray := prog_10_method_31_code
def yX8_read : MethodName := ⟨RX8, "read", "(I)I"⟩
abbrev cX8_wipe : ByteArray := prog_10_method_32_code
def yX8_wipe : MethodName := ⟨RX8, "wipe", "()I"⟩
abbrev cX8_comesAll : ByteArray := prog_10_method_33_code
def yX8_comesAll : MethodName := ⟨RX8, "comesAll", "(I)V"⟩
abbrev cX8_next : ByteArray := prog_10_method_34_code
def yX8_next : MethodName := ⟨RX8, "next", "(J)J"⟩
abbrev cX8_drift : ByteArray := prog_10_method_35_code
def yX8_drift : MethodName := ⟨RX8, "drift", "(II)I"⟩
abbrev cX8_isWord : ByteArray := prog_10_method_36_code
def yX8_isWord : MethodName := ⟨RX8, "isWord", "(I)Z"⟩
abbrev cX8_isAs : ByteArray := prog_10_method_37_code
def yX8_isAs : MethodName := ⟨RX8, "isAs", "(III)Z"⟩
abbrev cX8_isBegun : ByteArray := prog_10_method_38_code
def yX8_isBegun : MethodName := ⟨RX8, "isBegun", "(II)Z"⟩
abbrev cX8_meets : ByteArray := prog_10_method_39_code
def yX8_meets : MethodName := ⟨RX8, "meets", "(III)Z"⟩
abbrev cX8_isMet : ByteArray := prog_10_method_40_code
def yX8_isMet : MethodName := ⟨RX8, "isMet", "(III)Z"⟩
abbrev cX8_isFound : ByteArray := prog_10_method_41_code
def yX8_isFound : MethodName := ⟨RX8, "isFound", "(II)Z"⟩
abbrev cX8_worthOf : ByteArray := prog_10_method_42_code
def yX8_worthOf : MethodName := ⟨RX8, "worthOf", "(I)I"⟩
abbrev cX8_choose : ByteArray := prog_10_method_43_code
def yX8_choose : MethodName := ⟨RX8, "choose", "()V"⟩
abbrev cX8_reach : ByteArray := prog_10_method_44_code
def yX8_reach : MethodName := ⟨RX8, "reach", "(I)I"⟩
abbrev cX8_foundOver : ByteArray := prog_10_method_45_code
def yX8_foundOver : MethodName := ⟨RX8, "foundOver", "(I)I"⟩
abbrev cX8_chosenOver : ByteArray := prog_10_method_46_code
def yX8_chosenOver : MethodName := ⟨RX8, "chosenOver", "(I)I"⟩
abbrev cX8_word : ByteArray := prog_10_method_47_code
def yX8_word : MethodName := ⟨RX8, "word", "(II)I"⟩
abbrev cX8_mends : ByteArray := prog_10_method_48_code
def yX8_mends : MethodName := ⟨RX8, "mends", "()I"⟩
abbrev cX8_counts : ByteArray := prog_10_method_49_code
def yX8_counts : MethodName := ⟨RX8, "counts", "(I)I"⟩
abbrev cX8_told : ByteArray := prog_10_method_50_code
def yX8_told : MethodName := ⟨RX8, "told", "(I)I"⟩
abbrev cX8_place : ByteArray := prog_10_method_51_code
def yX8_place : MethodName := ⟨RX8, "place", "(IZ)I"⟩
abbrev cX8_found : ByteArray := prog_10_method_52_code
def yX8_found : MethodName := ⟨RX8, "found", "(II)I"⟩
abbrev cX8_chosen : ByteArray := prog_10_method_53_code
def yX8_chosen : MethodName := ⟨RX8, "chosen", "(II)I"⟩
abbrev cX8_longest : ByteArray := prog_10_method_54_code
def yX8_longest : MethodName := ⟨RX8, "longest", "(I)I"⟩
abbrev cX8_sign : ByteArray := prog_10_method_55_code
def yX8_sign : MethodName := ⟨RX8, "sign", "(I)I"⟩
abbrev cX8_same : ByteArray := prog_10_method_56_code
def yX8_same : MethodName := ⟨RX8, "same", "(II)I"⟩
abbrev cX8_keep : ByteArray := prog_10_method_57_code
def yX8_keep : MethodName := ⟨RX8, "keep", "(I)I"⟩
abbrev cX8_goBack : ByteArray := prog_10_method_58_code
def yX8_goBack : MethodName := ⟨RX8, "goBack", "(I)I"⟩
def RJ6 : String := "java/lang/Integer"
def TJ6 : u_T := fun k => match k with
  | _ => ("", "", "", false)
def tyJ6 : Nat → FieldType := fun k => match k with
  | _ => .int
theorem nmJ6 : ∀ a, a < 0 → ∀ b, b < 0 → a ≠ b → (TJ6 a).2.1 ≠ (TJ6 b).2.1 := by decide +kernel
theorem tyJ6_ok : ∀ k, k < 0 → parseFieldDescriptor (TJ6 k).2.2.1 = some (tyJ6 k) := by decide +kernel
abbrev cJ6_bitCount_0f7a4 : ByteArray := prog_11_method_49_code
def yJ6_bitCount_0f7a4 : MethodName := ⟨RJ6, "bitCount", "(I)I"⟩
def RJ10 : String := "java/lang/System"
def TJ10 : u_T := fun k => match k with
  | _ => ("", "", "", false)
def tyJ10 : Nat → FieldType := fun k => match k with
  | _ => .int
theorem nmJ10 : ∀ a, a < 0 → ∀ b, b < 0 → a ≠ b → (TJ10 a).2.1 ≠ (TJ10 b).2.1 := by decide +kernel
theorem tyJ10_ok : ∀ k, k < 0 → parseFieldDescriptor (TJ10 k).2.2.1 = some (tyJ10 k) := by decide +kernel
def RL : String := "TermScanLaw"
abbrev cL_law : ByteArray := code
def yL_law : MethodName := ⟨RL, "law", "([I)Z"⟩
