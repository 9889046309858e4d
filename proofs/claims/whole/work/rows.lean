section
-- ===== PART A: goes FIRST, ahead of the names: the tables' words, and 'selects' of the private methods out of them =====
/-- a private method of a class that the tables say can be made, by its rows of tables_1 -/
def lw_okq (q : MethodName × Nat) : Prop := (q.1.cls ≠ "java/lang/invoke/MethodHandle" ∧ q.1.cls ≠ "java/lang/invoke/VarHandle") ∧ Cond.instantiable q.1.cls q.2 ∈ tables_1 ∧ Cond.privateMethod q.1 ∈ tables_1 ∧ Cond.instanceMethod q.1 ∈ tables_1
theorem lw_p0 : lw_okq (⟨"TermScan$Lexicon", "hasWords", "(I[J)Z"⟩, 9) := ⟨⟨by decide +kernel, by decide +kernel⟩, List.mem_of_getElem? (i := 41) (by decide +kernel), List.mem_of_getElem? (i := 284) (by decide +kernel), List.mem_of_getElem? (i := 285) (by decide +kernel)⟩
theorem lw_p1 : lw_okq (⟨"TermScan", "termsChanged", "()V"⟩, 7) := ⟨⟨by decide +kernel, by decide +kernel⟩, List.mem_of_getElem? (i := 13) (by decide +kernel), List.mem_of_getElem? (i := 297) (by decide +kernel), List.mem_of_getElem? (i := 298) (by decide +kernel)⟩
theorem lw_p2 : lw_okq (⟨"TermScan$Lexicon", "copyTerm", "(LTermScan$Lexicon;II)V"⟩, 9) := ⟨⟨by decide +kernel, by decide +kernel⟩, List.mem_of_getElem? (i := 41) (by decide +kernel), List.mem_of_getElem? (i := 341) (by decide +kernel), List.mem_of_getElem? (i := 342) (by decide +kernel)⟩
theorem lw_p3 : lw_okq (⟨"TermScan", "settled", "()LTermScan$Scan;"⟩, 7) := ⟨⟨by decide +kernel, by decide +kernel⟩, List.mem_of_getElem? (i := 13) (by decide +kernel), List.mem_of_getElem? (i := 391) (by decide +kernel), List.mem_of_getElem? (i := 392) (by decide +kernel)⟩
theorem lw_p4 : lw_okq (⟨"TermScan$Scan", "look", "(I)V"⟩, 15) := ⟨⟨by decide +kernel, by decide +kernel⟩, List.mem_of_getElem? (i := 131) (by decide +kernel), List.mem_of_getElem? (i := 399) (by decide +kernel), List.mem_of_getElem? (i := 400) (by decide +kernel)⟩
theorem lw_p5 : lw_okq (⟨"TermScan$Scan", "meets", "(I)I"⟩, 15) := ⟨⟨by decide +kernel, by decide +kernel⟩, List.mem_of_getElem? (i := 131) (by decide +kernel), List.mem_of_getElem? (i := 408) (by decide +kernel), List.mem_of_getElem? (i := 409) (by decide +kernel)⟩
theorem lw_p6 : lw_okq (⟨"TermScan$Scan", "makeForms", "(J)V"⟩, 15) := ⟨⟨by decide +kernel, by decide +kernel⟩, List.mem_of_getElem? (i := 131) (by decide +kernel), List.mem_of_getElem? (i := 412) (by decide +kernel), List.mem_of_getElem? (i := 413) (by decide +kernel)⟩
theorem lw_p7 : lw_okq (⟨"TermScan$Scan", "isForm", "(JI)Z"⟩, 15) := ⟨⟨by decide +kernel, by decide +kernel⟩, List.mem_of_getElem? (i := 131) (by decide +kernel), List.mem_of_getElem? (i := 421) (by decide +kernel), List.mem_of_getElem? (i := 422) (by decide +kernel)⟩
theorem lw_p8 : lw_okq (⟨"TermScan$Scan", "hasBegun", "(III)Z"⟩, 15) := ⟨⟨by decide +kernel, by decide +kernel⟩, List.mem_of_getElem? (i := 131) (by decide +kernel), List.mem_of_getElem? (i := 425) (by decide +kernel), List.mem_of_getElem? (i := 426) (by decide +kernel)⟩
theorem lw_p9 : lw_okq (⟨"TermScan$Scan", "weigh", "()V"⟩, 15) := ⟨⟨by decide +kernel, by decide +kernel⟩, List.mem_of_getElem? (i := 131) (by decide +kernel), List.mem_of_getElem? (i := 429) (by decide +kernel), List.mem_of_getElem? (i := 430) (by decide +kernel)⟩
theorem lw_p10 : lw_okq (⟨"TermScan$Scan", "weighFrom", "(I)V"⟩, 15) := ⟨⟨by decide +kernel, by decide +kernel⟩, List.mem_of_getElem? (i := 131) (by decide +kernel), List.mem_of_getElem? (i := 433) (by decide +kernel), List.mem_of_getElem? (i := 434) (by decide +kernel)⟩
theorem lw_p11 : lw_okq (⟨"TermScan$Scan", "isBetter", "(IIII)Z"⟩, 15) := ⟨⟨by decide +kernel, by decide +kernel⟩, List.mem_of_getElem? (i := 131) (by decide +kernel), List.mem_of_getElem? (i := 445) (by decide +kernel), List.mem_of_getElem? (i := 446) (by decide +kernel)⟩
theorem lw_p12 : lw_okq (⟨"TermScan$Scan", "choose", "()V"⟩, 15) := ⟨⟨by decide +kernel, by decide +kernel⟩, List.mem_of_getElem? (i := 131) (by decide +kernel), List.mem_of_getElem? (i := 449) (by decide +kernel), List.mem_of_getElem? (i := 450) (by decide +kernel)⟩
theorem lw_p13 : lw_okq (⟨"TermScan$Text", "addLetter", "(I)V"⟩, 7) := ⟨⟨by decide +kernel, by decide +kernel⟩, List.mem_of_getElem? (i := 91) (by decide +kernel), List.mem_of_getElem? (i := 482) (by decide +kernel), List.mem_of_getElem? (i := 483) (by decide +kernel)⟩
theorem lw_p14 : lw_okq (⟨"TermScan$Text", "endWord", "()V"⟩, 7) := ⟨⟨by decide +kernel, by decide +kernel⟩, List.mem_of_getElem? (i := 91) (by decide +kernel), List.mem_of_getElem? (i := 488) (by decide +kernel), List.mem_of_getElem? (i := 489) (by decide +kernel)⟩
theorem lw_p15 : lw_okq (⟨"TermScan$Text", "endSentence", "()V"⟩, 7) := ⟨⟨by decide +kernel, by decide +kernel⟩, List.mem_of_getElem? (i := 91) (by decide +kernel), List.mem_of_getElem? (i := 492) (by decide +kernel), List.mem_of_getElem? (i := 493) (by decide +kernel)⟩
def lw_privs_1 : List (MethodName × Nat) := [(⟨"TermScan$Lexicon", "hasWords", "(I[J)Z"⟩, 9), (⟨"TermScan", "termsChanged", "()V"⟩, 7), (⟨"TermScan$Lexicon", "copyTerm", "(LTermScan$Lexicon;II)V"⟩, 9), (⟨"TermScan", "settled", "()LTermScan$Scan;"⟩, 7), (⟨"TermScan$Scan", "look", "(I)V"⟩, 15), (⟨"TermScan$Scan", "meets", "(I)I"⟩, 15), (⟨"TermScan$Scan", "makeForms", "(J)V"⟩, 15), (⟨"TermScan$Scan", "isForm", "(JI)Z"⟩, 15), (⟨"TermScan$Scan", "hasBegun", "(III)Z"⟩, 15), (⟨"TermScan$Scan", "weigh", "()V"⟩, 15), (⟨"TermScan$Scan", "weighFrom", "(I)V"⟩, 15), (⟨"TermScan$Scan", "isBetter", "(IIII)Z"⟩, 15), (⟨"TermScan$Scan", "choose", "()V"⟩, 15), (⟨"TermScan$Text", "addLetter", "(I)V"⟩, 7), (⟨"TermScan$Text", "endWord", "()V"⟩, 7), (⟨"TermScan$Text", "endSentence", "()V"⟩, 7)]
theorem lw_r1 : ∀ q ∈ lw_privs_1, lw_okq q := List.forall_mem_cons.mpr ⟨lw_p0, List.forall_mem_cons.mpr ⟨lw_p1, List.forall_mem_cons.mpr ⟨lw_p2, List.forall_mem_cons.mpr ⟨lw_p3, List.forall_mem_cons.mpr ⟨lw_p4, List.forall_mem_cons.mpr ⟨lw_p5, List.forall_mem_cons.mpr ⟨lw_p6, List.forall_mem_cons.mpr ⟨lw_p7, List.forall_mem_cons.mpr ⟨lw_p8, List.forall_mem_cons.mpr ⟨lw_p9, List.forall_mem_cons.mpr ⟨lw_p10, List.forall_mem_cons.mpr ⟨lw_p11, List.forall_mem_cons.mpr ⟨lw_p12, List.forall_mem_cons.mpr ⟨lw_p13, List.forall_mem_cons.mpr ⟨lw_p14, List.forall_mem_cons.mpr ⟨lw_p15, fun _ h => absurd h List.not_mem_nil⟩⟩⟩⟩⟩⟩⟩⟩⟩⟩⟩⟩⟩⟩⟩⟩
theorem lw_p16 : lw_okq (⟨"TermScan", "textChanged", "()V"⟩, 7) := ⟨⟨by decide +kernel, by decide +kernel⟩, List.mem_of_getElem? (i := 13) (by decide +kernel), List.mem_of_getElem? (i := 496) (by decide +kernel), List.mem_of_getElem? (i := 497) (by decide +kernel)⟩
theorem lw_p17 : lw_okq (⟨"TermScan", "takeLot", "()Z"⟩, 7) := ⟨⟨by decide +kernel, by decide +kernel⟩, List.mem_of_getElem? (i := 13) (by decide +kernel), List.mem_of_getElem? (i := 521) (by decide +kernel), List.mem_of_getElem? (i := 522) (by decide +kernel)⟩
theorem lw_p18 : lw_okq (⟨"TermScan", "written", "()LTermScan$Mended;"⟩, 7) := ⟨⟨by decide +kernel, by decide +kernel⟩, List.mem_of_getElem? (i := 13) (by decide +kernel), List.mem_of_getElem? (i := 570) (by decide +kernel), List.mem_of_getElem? (i := 571) (by decide +kernel)⟩
theorem lw_p19 : lw_okq (⟨"TermScan$Mended", "addWord", "(J)V"⟩, 6) := ⟨⟨by decide +kernel, by decide +kernel⟩, List.mem_of_getElem? (i := 190) (by decide +kernel), List.mem_of_getElem? (i := 582) (by decide +kernel), List.mem_of_getElem? (i := 583) (by decide +kernel)⟩
theorem lw_p20 : lw_okq (⟨"TermScan$Mended", "addSign", "(I)V"⟩, 6) := ⟨⟨by decide +kernel, by decide +kernel⟩, List.mem_of_getElem? (i := 190) (by decide +kernel), List.mem_of_getElem? (i := 586) (by decide +kernel), List.mem_of_getElem? (i := 587) (by decide +kernel)⟩
theorem lw_p21 : lw_okq (⟨"TermScan$Mended", "addWordsOf", "(I)V"⟩, 6) := ⟨⟨by decide +kernel, by decide +kernel⟩, List.mem_of_getElem? (i := 190) (by decide +kernel), List.mem_of_getElem? (i := 592) (by decide +kernel), List.mem_of_getElem? (i := 593) (by decide +kernel)⟩
theorem lw_p22 : lw_okq (⟨"TermScan$Scan", "isLonger", "(II)Z"⟩, 15) := ⟨⟨by decide +kernel, by decide +kernel⟩, List.mem_of_getElem? (i := 131) (by decide +kernel), List.mem_of_getElem? (i := 630) (by decide +kernel), List.mem_of_getElem? (i := 631) (by decide +kernel)⟩
theorem lw_p23 : lw_okq (⟨"TermScan", "imageOf", "(I)LTermScan$Lexicon;"⟩, 7) := ⟨⟨by decide +kernel, by decide +kernel⟩, List.mem_of_getElem? (i := 13) (by decide +kernel), List.mem_of_getElem? (i := 646) (by decide +kernel), List.mem_of_getElem? (i := 647) (by decide +kernel)⟩
theorem lw_p24 : lw_okq (⟨"TermScanModel", "parts", "()I"⟩, 14) := ⟨⟨by decide +kernel, by decide +kernel⟩, List.mem_of_getElem? (i := 658) (by decide +kernel), List.mem_of_getElem? (i := 723) (by decide +kernel), List.mem_of_getElem? (i := 724) (by decide +kernel)⟩
theorem lw_p25 : lw_okq (⟨"TermScanModel", "isTermThere", "(I)Z"⟩, 14) := ⟨⟨by decide +kernel, by decide +kernel⟩, List.mem_of_getElem? (i := 658) (by decide +kernel), List.mem_of_getElem? (i := 727) (by decide +kernel), List.mem_of_getElem? (i := 728) (by decide +kernel)⟩
theorem lw_p26 : lw_okq (⟨"TermScanModel", "isSame", "(II)Z"⟩, 14) := ⟨⟨by decide +kernel, by decide +kernel⟩, List.mem_of_getElem? (i := 658) (by decide +kernel), List.mem_of_getElem? (i := 737) (by decide +kernel), List.mem_of_getElem? (i := 738) (by decide +kernel)⟩
theorem lw_p27 : lw_okq (⟨"TermScanModel", "writes", "(II)V"⟩, 14) := ⟨⟨by decide +kernel, by decide +kernel⟩, List.mem_of_getElem? (i := 658) (by decide +kernel), List.mem_of_getElem? (i := 742) (by decide +kernel), List.mem_of_getElem? (i := 743) (by decide +kernel)⟩
theorem lw_p28 : lw_okq (⟨"TermScanModel", "isTerm", "(I)Z"⟩, 14) := ⟨⟨by decide +kernel, by decide +kernel⟩, List.mem_of_getElem? (i := 658) (by decide +kernel), List.mem_of_getElem? (i := 757) (by decide +kernel), List.mem_of_getElem? (i := 758) (by decide +kernel)⟩
theorem lw_p29 : lw_okq (⟨"TermScanModel", "isPreferred", "(I)Z"⟩, 14) := ⟨⟨by decide +kernel, by decide +kernel⟩, List.mem_of_getElem? (i := 658) (by decide +kernel), List.mem_of_getElem? (i := 762) (by decide +kernel), List.mem_of_getElem? (i := 763) (by decide +kernel)⟩
theorem lw_p30 : lw_okq (⟨"TermScanModel", "isEnding", "(I)Z"⟩, 14) := ⟨⟨by decide +kernel, by decide +kernel⟩, List.mem_of_getElem? (i := 658) (by decide +kernel), List.mem_of_getElem? (i := 770) (by decide +kernel), List.mem_of_getElem? (i := 771) (by decide +kernel)⟩
theorem lw_p31 : lw_okq (⟨"TermScanModel", "forbidden", "()I"⟩, 14) := ⟨⟨by decide +kernel, by decide +kernel⟩, List.mem_of_getElem? (i := 658) (by decide +kernel), List.mem_of_getElem? (i := 778) (by decide +kernel), List.mem_of_getElem? (i := 779) (by decide +kernel)⟩
def lw_privs_2 : List (MethodName × Nat) := [(⟨"TermScan", "textChanged", "()V"⟩, 7), (⟨"TermScan", "takeLot", "()Z"⟩, 7), (⟨"TermScan", "written", "()LTermScan$Mended;"⟩, 7), (⟨"TermScan$Mended", "addWord", "(J)V"⟩, 6), (⟨"TermScan$Mended", "addSign", "(I)V"⟩, 6), (⟨"TermScan$Mended", "addWordsOf", "(I)V"⟩, 6), (⟨"TermScan$Scan", "isLonger", "(II)Z"⟩, 15), (⟨"TermScan", "imageOf", "(I)LTermScan$Lexicon;"⟩, 7), (⟨"TermScanModel", "parts", "()I"⟩, 14), (⟨"TermScanModel", "isTermThere", "(I)Z"⟩, 14), (⟨"TermScanModel", "isSame", "(II)Z"⟩, 14), (⟨"TermScanModel", "writes", "(II)V"⟩, 14), (⟨"TermScanModel", "isTerm", "(I)Z"⟩, 14), (⟨"TermScanModel", "isPreferred", "(I)Z"⟩, 14), (⟨"TermScanModel", "isEnding", "(I)Z"⟩, 14), (⟨"TermScanModel", "forbidden", "()I"⟩, 14)]
theorem lw_r2 : ∀ q ∈ lw_privs_2, lw_okq q := List.forall_mem_cons.mpr ⟨lw_p16, List.forall_mem_cons.mpr ⟨lw_p17, List.forall_mem_cons.mpr ⟨lw_p18, List.forall_mem_cons.mpr ⟨lw_p19, List.forall_mem_cons.mpr ⟨lw_p20, List.forall_mem_cons.mpr ⟨lw_p21, List.forall_mem_cons.mpr ⟨lw_p22, List.forall_mem_cons.mpr ⟨lw_p23, List.forall_mem_cons.mpr ⟨lw_p24, List.forall_mem_cons.mpr ⟨lw_p25, List.forall_mem_cons.mpr ⟨lw_p26, List.forall_mem_cons.mpr ⟨lw_p27, List.forall_mem_cons.mpr ⟨lw_p28, List.forall_mem_cons.mpr ⟨lw_p29, List.forall_mem_cons.mpr ⟨lw_p30, List.forall_mem_cons.mpr ⟨lw_p31, fun _ h => absurd h List.not_mem_nil⟩⟩⟩⟩⟩⟩⟩⟩⟩⟩⟩⟩⟩⟩⟩⟩
theorem lw_p32 : lw_okq (⟨"TermScanModel", "choose", "()V"⟩, 14) := ⟨⟨by decide +kernel, by decide +kernel⟩, List.mem_of_getElem? (i := 658) (by decide +kernel), List.mem_of_getElem? (i := 797) (by decide +kernel), List.mem_of_getElem? (i := 798) (by decide +kernel)⟩
theorem lw_p33 : lw_okq (⟨"TermScanModel", "isFound", "(II)Z"⟩, 14) := ⟨⟨by decide +kernel, by decide +kernel⟩, List.mem_of_getElem? (i := 658) (by decide +kernel), List.mem_of_getElem? (i := 801) (by decide +kernel), List.mem_of_getElem? (i := 802) (by decide +kernel)⟩
theorem lw_p34 : lw_okq (⟨"TermScanModel", "isMet", "(III)Z"⟩, 14) := ⟨⟨by decide +kernel, by decide +kernel⟩, List.mem_of_getElem? (i := 658) (by decide +kernel), List.mem_of_getElem? (i := 805) (by decide +kernel), List.mem_of_getElem? (i := 806) (by decide +kernel)⟩
theorem lw_p35 : lw_okq (⟨"TermScanModel", "meets", "(III)Z"⟩, 14) := ⟨⟨by decide +kernel, by decide +kernel⟩, List.mem_of_getElem? (i := 658) (by decide +kernel), List.mem_of_getElem? (i := 809) (by decide +kernel), List.mem_of_getElem? (i := 810) (by decide +kernel)⟩
theorem lw_p36 : lw_okq (⟨"TermScanModel", "isBegun", "(II)Z"⟩, 14) := ⟨⟨by decide +kernel, by decide +kernel⟩, List.mem_of_getElem? (i := 658) (by decide +kernel), List.mem_of_getElem? (i := 813) (by decide +kernel), List.mem_of_getElem? (i := 814) (by decide +kernel)⟩
theorem lw_p37 : lw_okq (⟨"TermScanModel", "isAs", "(III)Z"⟩, 14) := ⟨⟨by decide +kernel, by decide +kernel⟩, List.mem_of_getElem? (i := 658) (by decide +kernel), List.mem_of_getElem? (i := 817) (by decide +kernel), List.mem_of_getElem? (i := 818) (by decide +kernel)⟩
theorem lw_p38 : lw_okq (⟨"TermScanModel", "worthOf", "(I)I"⟩, 14) := ⟨⟨by decide +kernel, by decide +kernel⟩, List.mem_of_getElem? (i := 658) (by decide +kernel), List.mem_of_getElem? (i := 821) (by decide +kernel), List.mem_of_getElem? (i := 822) (by decide +kernel)⟩
theorem lw_p39 : lw_okq (⟨"TermScanModel", "comes", "(I)V"⟩, 14) := ⟨⟨by decide +kernel, by decide +kernel⟩, List.mem_of_getElem? (i := 658) (by decide +kernel), List.mem_of_getElem? (i := 833) (by decide +kernel), List.mem_of_getElem? (i := 834) (by decide +kernel)⟩
theorem lw_p40 : lw_okq (⟨"TermScanModel", "ends", "()V"⟩, 14) := ⟨⟨by decide +kernel, by decide +kernel⟩, List.mem_of_getElem? (i := 658) (by decide +kernel), List.mem_of_getElem? (i := 837) (by decide +kernel), List.mem_of_getElem? (i := 838) (by decide +kernel)⟩
theorem lw_p41 : lw_okq (⟨"TermScanModel", "clears", "(I)V"⟩, 14) := ⟨⟨by decide +kernel, by decide +kernel⟩, List.mem_of_getElem? (i := 658) (by decide +kernel), List.mem_of_getElem? (i := 841) (by decide +kernel), List.mem_of_getElem? (i := 842) (by decide +kernel)⟩
theorem lw_p42 : lw_okq (⟨"TermScanModel", "hasWord", "()Z"⟩, 14) := ⟨⟨by decide +kernel, by decide +kernel⟩, List.mem_of_getElem? (i := 658) (by decide +kernel), List.mem_of_getElem? (i := 845) (by decide +kernel), List.mem_of_getElem? (i := 846) (by decide +kernel)⟩
theorem lw_p43 : lw_okq (⟨"TermScanModel", "comesAll", "(I)V"⟩, 14) := ⟨⟨by decide +kernel, by decide +kernel⟩, List.mem_of_getElem? (i := 658) (by decide +kernel), List.mem_of_getElem? (i := 864) (by decide +kernel), List.mem_of_getElem? (i := 865) (by decide +kernel)⟩
theorem lw_p44 : lw_okq (⟨"TermScanModel", "isWord", "(I)Z"⟩, 14) := ⟨⟨by decide +kernel, by decide +kernel⟩, List.mem_of_getElem? (i := 658) (by decide +kernel), List.mem_of_getElem? (i := 873) (by decide +kernel), List.mem_of_getElem? (i := 874) (by decide +kernel)⟩
theorem lw_p45 : lw_okq (⟨"TermScanModel", "reach", "(I)I"⟩, 14) := ⟨⟨by decide +kernel, by decide +kernel⟩, List.mem_of_getElem? (i := 658) (by decide +kernel), List.mem_of_getElem? (i := 877) (by decide +kernel), List.mem_of_getElem? (i := 878) (by decide +kernel)⟩
theorem lw_p46 : lw_okq (⟨"TermScanModel", "foundOver", "(I)I"⟩, 14) := ⟨⟨by decide +kernel, by decide +kernel⟩, List.mem_of_getElem? (i := 658) (by decide +kernel), List.mem_of_getElem? (i := 881) (by decide +kernel), List.mem_of_getElem? (i := 882) (by decide +kernel)⟩
theorem lw_p47 : lw_okq (⟨"TermScanModel", "chosenOver", "(I)I"⟩, 14) := ⟨⟨by decide +kernel, by decide +kernel⟩, List.mem_of_getElem? (i := 658) (by decide +kernel), List.mem_of_getElem? (i := 885) (by decide +kernel), List.mem_of_getElem? (i := 886) (by decide +kernel)⟩
def lw_privs_3 : List (MethodName × Nat) := [(⟨"TermScanModel", "choose", "()V"⟩, 14), (⟨"TermScanModel", "isFound", "(II)Z"⟩, 14), (⟨"TermScanModel", "isMet", "(III)Z"⟩, 14), (⟨"TermScanModel", "meets", "(III)Z"⟩, 14), (⟨"TermScanModel", "isBegun", "(II)Z"⟩, 14), (⟨"TermScanModel", "isAs", "(III)Z"⟩, 14), (⟨"TermScanModel", "worthOf", "(I)I"⟩, 14), (⟨"TermScanModel", "comes", "(I)V"⟩, 14), (⟨"TermScanModel", "ends", "()V"⟩, 14), (⟨"TermScanModel", "clears", "(I)V"⟩, 14), (⟨"TermScanModel", "hasWord", "()Z"⟩, 14), (⟨"TermScanModel", "comesAll", "(I)V"⟩, 14), (⟨"TermScanModel", "isWord", "(I)Z"⟩, 14), (⟨"TermScanModel", "reach", "(I)I"⟩, 14), (⟨"TermScanModel", "foundOver", "(I)I"⟩, 14), (⟨"TermScanModel", "chosenOver", "(I)I"⟩, 14)]
theorem lw_r3 : ∀ q ∈ lw_privs_3, lw_okq q := List.forall_mem_cons.mpr ⟨lw_p32, List.forall_mem_cons.mpr ⟨lw_p33, List.forall_mem_cons.mpr ⟨lw_p34, List.forall_mem_cons.mpr ⟨lw_p35, List.forall_mem_cons.mpr ⟨lw_p36, List.forall_mem_cons.mpr ⟨lw_p37, List.forall_mem_cons.mpr ⟨lw_p38, List.forall_mem_cons.mpr ⟨lw_p39, List.forall_mem_cons.mpr ⟨lw_p40, List.forall_mem_cons.mpr ⟨lw_p41, List.forall_mem_cons.mpr ⟨lw_p42, List.forall_mem_cons.mpr ⟨lw_p43, List.forall_mem_cons.mpr ⟨lw_p44, List.forall_mem_cons.mpr ⟨lw_p45, List.forall_mem_cons.mpr ⟨lw_p46, List.forall_mem_cons.mpr ⟨lw_p47, fun _ h => absurd h List.not_mem_nil⟩⟩⟩⟩⟩⟩⟩⟩⟩⟩⟩⟩⟩⟩⟩⟩
theorem lw_p48 : lw_okq (⟨"TermScanModel", "counts", "(I)I"⟩, 14) := ⟨⟨by decide +kernel, by decide +kernel⟩, List.mem_of_getElem? (i := 658) (by decide +kernel), List.mem_of_getElem? (i := 893) (by decide +kernel), List.mem_of_getElem? (i := 894) (by decide +kernel)⟩
theorem lw_p49 : lw_okq (⟨"TermScanModel", "mends", "()I"⟩, 14) := ⟨⟨by decide +kernel, by decide +kernel⟩, List.mem_of_getElem? (i := 658) (by decide +kernel), List.mem_of_getElem? (i := 897) (by decide +kernel), List.mem_of_getElem? (i := 898) (by decide +kernel)⟩
theorem lw_p50 : lw_okq (⟨"TermScanModel", "place", "(IZ)I"⟩, 14) := ⟨⟨by decide +kernel, by decide +kernel⟩, List.mem_of_getElem? (i := 658) (by decide +kernel), List.mem_of_getElem? (i := 905) (by decide +kernel), List.mem_of_getElem? (i := 906) (by decide +kernel)⟩
def lw_privs_4 : List (MethodName × Nat) := [(⟨"TermScanModel", "counts", "(I)I"⟩, 14), (⟨"TermScanModel", "mends", "()I"⟩, 14), (⟨"TermScanModel", "place", "(IZ)I"⟩, 14)]
theorem lw_r4 : ∀ q ∈ lw_privs_4, lw_okq q := List.forall_mem_cons.mpr ⟨lw_p48, List.forall_mem_cons.mpr ⟨lw_p49, List.forall_mem_cons.mpr ⟨lw_p50, fun _ h => absurd h List.not_mem_nil⟩⟩⟩
def lw_privs : List (MethodName × Nat) := lw_privs_1 ++ (lw_privs_2 ++ (lw_privs_3 ++ (lw_privs_4)))
def lw_tbl : List Cond := k2_sels lw_privs ++ tables_1
theorem lw_privs_ok : ∀ q ∈ lw_privs, lw_okq q := by
  show ∀ q ∈ lw_privs_1 ++ (lw_privs_2 ++ (lw_privs_3 ++ (lw_privs_4))), lw_okq q
  exact List.forall_mem_append.mpr ⟨lw_r1, List.forall_mem_append.mpr ⟨lw_r2, List.forall_mem_append.mpr ⟨lw_r3, lw_r4⟩⟩⟩
-- ===== end of PART A; then your names; then what follows =====
def RX0 : String := "TermScan$Letters"
def TX0 : u_T := fun k => match k with
  | _ => ("", "", "", false)
def tyX0 : Nat → FieldType := fun k => match k with
  | _ => .int
theorem nmX0 : ∀ a, a < 0 → ∀ b, b < 0 → a ≠ b → (TX0 a).2.1 ≠ (TX0 b).2.1 := by decide +kernel
theorem tyX0_ok : ∀ k, k < 0 → parseFieldDescriptor (TX0 k).2.2.1 = some (tyX0 k) := by decide +kernel
abbrev cX0_isLetter : ByteArray := prog_2_method_2_code
def yX0_isLetter : MethodName := ⟨RX0, "isLetter", "(I)Z"⟩
abbrev cX0_sizeOf : ByteArray := prog_2_method_3_code
def yX0_sizeOf : MethodName := ⟨RX0, "sizeOf", "(J)I"⟩
abbrev cX0_at : ByteArray := prog_2_method_4_code
def yX0_at : MethodName := ⟨RX0, "at", "(JI)I"⟩
abbrev cX0_with : ByteArray := prog_2_method_5_code
def yX0_with : MethodName := ⟨RX0, "with", "(JII)J"⟩
abbrev cX0_without : ByteArray := prog_2_method_6_code
def yX0_without : MethodName := ⟨RX0, "without", "(JJI)J"⟩
def RX1 : String := "TermScan$Lexicon"
def TX1 : u_T := fun k => match k with
  | 0 => ("TermScan$Lexicon", "termCount", "I", false)
  | 1 => ("TermScan$Lexicon", "words", "[J", true)
  | 2 => ("TermScan$Lexicon", "sizes", "[I", true)
  | 3 => ("TermScan$Lexicon", "weights", "[I", true)
  | 4 => ("TermScan$Lexicon", "bents", "[I", true)
  | 5 => ("TermScan$Lexicon", "preferred", "[I", true)
  | 6 => ("TermScan$Lexicon", "endingCount", "I", false)
  | 7 => ("TermScan$Lexicon", "endings", "[J", true)
  | _ => ("TermScan$Lexicon", "kept", "Z", false)
def tyX1 : Nat → FieldType := fun k => match k with
  | 0 => .int
  | 1 => .array .long
  | 2 => .array .int
  | 3 => .array .int
  | 4 => .array .int
  | 5 => .array .int
  | 6 => .int
  | 7 => .array .long
  | _ => .boolean
theorem nmX1 : ∀ a, a < 9 → ∀ b, b < 9 → a ≠ b → (TX1 a).2.1 ≠ (TX1 b).2.1 := by decide +kernel
theorem tyX1_ok : ∀ k, k < 9 → parseFieldDescriptor (TX1 k).2.2.1 = some (tyX1 k) := by decide +kernel
abbrev cX1_init : ByteArray := prog_3_method_1_code
def yX1_init : MethodName := ⟨RX1, "<init>", "()V"⟩
abbrev cX1_copyFrom : ByteArray := prog_3_method_2_code
def yX1_copyFrom : MethodName := ⟨RX1, "copyFrom", "(LTermScan$Lexicon;)V"⟩
abbrev cX1_copyTerm : ByteArray := prog_3_method_3_code
def yX1_copyTerm : MethodName := ⟨RX1, "copyTerm", "(LTermScan$Lexicon;II)V"⟩
abbrev cX1_isTerm : ByteArray := prog_3_method_4_code
def yX1_isTerm : MethodName := ⟨RX1, "isTerm", "(I)Z"⟩
abbrev cX1_isEnding : ByteArray := prog_3_method_5_code
def yX1_isEnding : MethodName := ⟨RX1, "isEnding", "(I)Z"⟩
abbrev cX1_isForbidden : ByteArray := prog_3_method_6_code
def yX1_isForbidden : MethodName := ⟨RX1, "isForbidden", "(I)Z"⟩
abbrev cX1_isPreferred : ByteArray := prog_3_method_7_code
def yX1_isPreferred : MethodName := ⟨RX1, "isPreferred", "(I)Z"⟩
abbrev cX1_forbiddenSet : ByteArray := prog_3_method_8_code
def yX1_forbiddenSet : MethodName := ⟨RX1, "forbiddenSet", "()I"⟩
abbrev cX1_wordOf : ByteArray := prog_3_method_9_code
def yX1_wordOf : MethodName := ⟨RX1, "wordOf", "(II)J"⟩
abbrev cX1_worthOf : ByteArray := prog_3_method_10_code
def yX1_worthOf : MethodName := ⟨RX1, "worthOf", "(I)I"⟩
abbrev cX1_hasTerm : ByteArray := prog_3_method_11_code
def yX1_hasTerm : MethodName := ⟨RX1, "hasTerm", "([JI)Z"⟩
abbrev cX1_hasWords : ByteArray := prog_3_method_12_code
def yX1_hasWords : MethodName := ⟨RX1, "hasWords", "(I[J)Z"⟩
abbrev cX1_addTerm : ByteArray := prog_3_method_13_code
def yX1_addTerm : MethodName := ⟨RX1, "addTerm", "([JIII)I"⟩
abbrev cX1_removeTerm : ByteArray := prog_3_method_14_code
def yX1_removeTerm : MethodName := ⟨RX1, "removeTerm", "(I)V"⟩
abbrev cX1_hasEnding : ByteArray := prog_3_method_15_code
def yX1_hasEnding : MethodName := ⟨RX1, "hasEnding", "(J)Z"⟩
abbrev cX1_addEnding : ByteArray := prog_3_method_16_code
def yX1_addEnding : MethodName := ⟨RX1, "addEnding", "(J)I"⟩
abbrev cX1_removeEnding : ByteArray := prog_3_method_17_code
def yX1_removeEnding : MethodName := ⟨RX1, "removeEnding", "(I)V"⟩
def RX2 : String := "TermScan$Lots"
def TX2 : u_T := fun k => match k with
  | _ => ("TermScan$Lots", "x", "J", false)
def tyX2 : Nat → FieldType := fun k => match k with
  | _ => .long
theorem nmX2 : ∀ a, a < 1 → ∀ b, b < 1 → a ≠ b → (TX2 a).2.1 ≠ (TX2 b).2.1 := by decide +kernel
theorem tyX2_ok : ∀ k, k < 1 → parseFieldDescriptor (TX2 k).2.2.1 = some (tyX2 k) := by decide +kernel
abbrev cX2_init : ByteArray := prog_4_method_1_code
def yX2_init : MethodName := ⟨RX2, "<init>", "()V"⟩
abbrev cX2_start : ByteArray := prog_4_method_2_code
def yX2_start : MethodName := ⟨RX2, "start", "(I)V"⟩
abbrev cX2_below : ByteArray := prog_4_method_3_code
def yX2_below : MethodName := ⟨RX2, "below", "(I)I"⟩
def RX3 : String := "TermScan$Mended"
def TX3 : u_T := fun k => match k with
  | 0 => ("TermScan$Mended", "lexicon", "LTermScan$Lexicon;", true)
  | 1 => ("TermScan$Mended", "text", "LTermScan$Text;", true)
  | 2 => ("TermScan$Mended", "scan", "LTermScan$Scan;", true)
  | 3 => ("TermScan$Mended", "signs", "[C", true)
  | 4 => ("TermScan$Mended", "size", "I", false)
  | _ => ("TermScan$Mended", "fresh", "Z", false)
def tyX3 : Nat → FieldType := fun k => match k with
  | 0 => .object "TermScan$Lexicon"
  | 1 => .object "TermScan$Text"
  | 2 => .object "TermScan$Scan"
  | 3 => .array .char
  | 4 => .int
  | _ => .boolean
theorem nmX3 : ∀ a, a < 6 → ∀ b, b < 6 → a ≠ b → (TX3 a).2.1 ≠ (TX3 b).2.1 := by decide +kernel
theorem tyX3_ok : ∀ k, k < 6 → parseFieldDescriptor (TX3 k).2.2.1 = some (tyX3 k) := by decide +kernel
abbrev cX3_init : ByteArray := prog_5_method_1_code
def yX3_init : MethodName := ⟨RX3, "<init>", "(LTermScan$Lexicon;LTermScan$Text;LTermScan$Scan;)V"⟩
abbrev cX3_forget : ByteArray := prog_5_method_2_code
def yX3_forget : MethodName := ⟨RX3, "forget", "()V"⟩
abbrev cX3_write : ByteArray := prog_5_method_3_code
def yX3_write : MethodName := ⟨RX3, "write", "()V"⟩
abbrev cX3_addWordsOf : ByteArray := prog_5_method_4_code
def yX3_addWordsOf : MethodName := ⟨RX3, "addWordsOf", "(I)V"⟩
abbrev cX3_addWord : ByteArray := prog_5_method_5_code
def yX3_addWord : MethodName := ⟨RX3, "addWord", "(J)V"⟩
abbrev cX3_addSign : ByteArray := prog_5_method_6_code
def yX3_addSign : MethodName := ⟨RX3, "addSign", "(I)V"⟩
def RX4 : String := "TermScan$Scan"
def TX4 : u_T := fun k => match k with
  | 0 => ("TermScan$Scan", "lexicon", "LTermScan$Lexicon;", true)
  | 1 => ("TermScan$Scan", "text", "LTermScan$Text;", true)
  | 2 => ("TermScan$Scan", "looked", "I", false)
  | 3 => ("TermScan$Scan", "settled", "Z", false)
  | 4 => ("TermScan$Scan", "forms", "[J", true)
  | 5 => ("TermScan$Scan", "formCount", "I", false)
  | 6 => ("TermScan$Scan", "begun", "[I", true)
  | 7 => ("TermScan$Scan", "starts", "[I", true)
  | 8 => ("TermScan$Scan", "worths", "[I", true)
  | 9 => ("TermScan$Scan", "fewest", "[I", true)
  | 10 => ("TermScan$Scan", "takes", "[I", true)
  | 11 => ("TermScan$Scan", "chosenCount", "I", false)
  | 12 => ("TermScan$Scan", "chosenAt", "[I", true)
  | 13 => ("TermScan$Scan", "chosenTerms", "[I", true)
  | _ => ("TermScan$Scan", "chosenOver", "[I", true)
def tyX4 : Nat → FieldType := fun k => match k with
  | 0 => .object "TermScan$Lexicon"
  | 1 => .object "TermScan$Text"
  | 2 => .int
  | 3 => .boolean
  | 4 => .array .long
  | 5 => .int
  | 6 => .array .int
  | 7 => .array .int
  | 8 => .array .int
  | 9 => .array .int
  | 10 => .array .int
  | 11 => .int
  | 12 => .array .int
  | 13 => .array .int
  | _ => .array .int
theorem nmX4 : ∀ a, a < 15 → ∀ b, b < 15 → a ≠ b → (TX4 a).2.1 ≠ (TX4 b).2.1 := by decide +kernel
theorem tyX4_ok : ∀ k, k < 15 → parseFieldDescriptor (TX4 k).2.2.1 = some (tyX4 k) := by decide +kernel
abbrev cX4_init : ByteArray := prog_6_method_1_code
def yX4_init : MethodName := ⟨RX4, "<init>", "(LTermScan$Lexicon;LTermScan$Text;)V"⟩
abbrev cX4_forget : ByteArray := prog_6_method_2_code
def yX4_forget : MethodName := ⟨RX4, "forget", "()V"⟩
abbrev cX4_unsettle : ByteArray := prog_6_method_3_code
def yX4_unsettle : MethodName := ⟨RX4, "unsettle", "()V"⟩
abbrev cX4_settle : ByteArray := prog_6_method_4_code
def yX4_settle : MethodName := ⟨RX4, "settle", "()V"⟩
abbrev cX4_look : ByteArray := prog_6_method_5_code
def yX4_look : MethodName := ⟨RX4, "look", "(I)V"⟩
abbrev cX4_hasBegun : ByteArray := prog_6_method_6_code
def yX4_hasBegun : MethodName := ⟨RX4, "hasBegun", "(III)Z"⟩
abbrev cX4_meets : ByteArray := prog_6_method_7_code
def yX4_meets : MethodName := ⟨RX4, "meets", "(I)I"⟩
abbrev cX4_makeForms : ByteArray := prog_6_method_8_code
def yX4_makeForms : MethodName := ⟨RX4, "makeForms", "(J)V"⟩
abbrev cX4_isForm : ByteArray := prog_6_method_9_code
def yX4_isForm : MethodName := ⟨RX4, "isForm", "(JI)Z"⟩
abbrev cX4_weigh : ByteArray := prog_6_method_10_code
def yX4_weigh : MethodName := ⟨RX4, "weigh", "()V"⟩
abbrev cX4_weighFrom : ByteArray := prog_6_method_11_code
def yX4_weighFrom : MethodName := ⟨RX4, "weighFrom", "(I)V"⟩
abbrev cX4_isBetter : ByteArray := prog_6_method_12_code
def yX4_isBetter : MethodName := ⟨RX4, "isBetter", "(IIII)Z"⟩
abbrev cX4_choose : ByteArray := prog_6_method_13_code
def yX4_choose : MethodName := ⟨RX4, "choose", "()V"⟩
abbrev cX4_isFound : ByteArray := prog_6_method_14_code
def yX4_isFound : MethodName := ⟨RX4, "isFound", "(II)Z"⟩
abbrev cX4_isChosen : ByteArray := prog_6_method_15_code
def yX4_isChosen : MethodName := ⟨RX4, "isChosen", "(II)Z"⟩
abbrev cX4_foundCount : ByteArray := prog_6_method_16_code
def yX4_foundCount : MethodName := ⟨RX4, "foundCount", "()I"⟩
abbrev cX4_foundAt : ByteArray := prog_6_method_17_code
def yX4_foundAt : MethodName := ⟨RX4, "foundAt", "(I)I"⟩
abbrev cX4_foundTerm : ByteArray := prog_6_method_18_code
def yX4_foundTerm : MethodName := ⟨RX4, "foundTerm", "(I)I"⟩
abbrev cX4_timesFound : ByteArray := prog_6_method_19_code
def yX4_timesFound : MethodName := ⟨RX4, "timesFound", "(I)I"⟩
abbrev cX4_timesChosen : ByteArray := prog_6_method_20_code
def yX4_timesChosen : MethodName := ⟨RX4, "timesChosen", "(I)I"⟩
abbrev cX4_wordsChosen : ByteArray := prog_6_method_21_code
def yX4_wordsChosen : MethodName := ⟨RX4, "wordsChosen", "()I"⟩
abbrev cX4_insteadCount : ByteArray := prog_6_method_22_code
def yX4_insteadCount : MethodName := ⟨RX4, "insteadCount", "()I"⟩
abbrev cX4_insteadOver : ByteArray := prog_6_method_23_code
def yX4_insteadOver : MethodName := ⟨RX4, "insteadOver", "(I)I"⟩
abbrev cX4_reach : ByteArray := prog_6_method_24_code
def yX4_reach : MethodName := ⟨RX4, "reach", "(I)I"⟩
abbrev cX4_termsOver : ByteArray := prog_6_method_25_code
def yX4_termsOver : MethodName := ⟨RX4, "termsOver", "(I)I"⟩
abbrev cX4_longestAt : ByteArray := prog_6_method_26_code
def yX4_longestAt : MethodName := ⟨RX4, "longestAt", "(I)I"⟩
abbrev cX4_isLonger : ByteArray := prog_6_method_27_code
def yX4_isLonger : MethodName := ⟨RX4, "isLonger", "(II)Z"⟩
def RX5 : String := "TermScan$Slip"
def TX5 : u_T := fun k => match k with
  | 0 => ("TermScan$Slip", "signs", "[I", true)
  | 1 => ("TermScan$Slip", "size", "I", false)
  | _ => ("TermScan$Slip", "words", "[J", true)
def tyX5 : Nat → FieldType := fun k => match k with
  | 0 => .array .int
  | 1 => .int
  | _ => .array .long
theorem nmX5 : ∀ a, a < 3 → ∀ b, b < 3 → a ≠ b → (TX5 a).2.1 ≠ (TX5 b).2.1 := by decide +kernel
theorem tyX5_ok : ∀ k, k < 3 → parseFieldDescriptor (TX5 k).2.2.1 = some (tyX5 k) := by decide +kernel
abbrev cX5_init : ByteArray := prog_7_method_1_code
def yX5_init : MethodName := ⟨RX5, "<init>", "()V"⟩
abbrev cX5_add : ByteArray := prog_7_method_2_code
def yX5_add : MethodName := ⟨RX5, "add", "(I)Z"⟩
abbrev cX5_takeWords : ByteArray := prog_7_method_3_code
def yX5_takeWords : MethodName := ⟨RX5, "takeWords", "()I"⟩
def RX6 : String := "TermScan$Text"
def TX6 : u_T := fun k => match k with
  | 0 => ("TermScan$Text", "count", "I", false)
  | 1 => ("TermScan$Text", "words", "[J", true)
  | 2 => ("TermScan$Text", "tooLong", "[Z", true)
  | 3 => ("TermScan$Text", "sentences", "[I", true)
  | 4 => ("TermScan$Text", "sentencesEnded", "I", false)
  | 5 => ("TermScan$Text", "coming", "J", false)
  | _ => ("TermScan$Text", "comingTooLong", "Z", false)
def tyX6 : Nat → FieldType := fun k => match k with
  | 0 => .int
  | 1 => .array .long
  | 2 => .array .boolean
  | 3 => .array .int
  | 4 => .int
  | 5 => .long
  | _ => .boolean
theorem nmX6 : ∀ a, a < 7 → ∀ b, b < 7 → a ≠ b → (TX6 a).2.1 ≠ (TX6 b).2.1 := by decide +kernel
theorem tyX6_ok : ∀ k, k < 7 → parseFieldDescriptor (TX6 k).2.2.1 = some (tyX6 k) := by decide +kernel
abbrev cX6_init : ByteArray := prog_8_method_1_code
def yX6_init : MethodName := ⟨RX6, "<init>", "()V"⟩
abbrev cX6_hasRoom : ByteArray := prog_8_method_2_code
def yX6_hasRoom : MethodName := ⟨RX6, "hasRoom", "()Z"⟩
abbrev cX6_isWord : ByteArray := prog_8_method_3_code
def yX6_isWord : MethodName := ⟨RX6, "isWord", "(I)Z"⟩
abbrev cX6_clear : ByteArray := prog_8_method_4_code
def yX6_clear : MethodName := ⟨RX6, "clear", "()V"⟩
abbrev cX6_take : ByteArray := prog_8_method_5_code
def yX6_take : MethodName := ⟨RX6, "take", "(I)V"⟩
abbrev cX6_takeLetters : ByteArray := prog_8_method_6_code
def yX6_takeLetters : MethodName := ⟨RX6, "takeLetters", "(J)V"⟩
abbrev cX6_addLetter : ByteArray := prog_8_method_7_code
def yX6_addLetter : MethodName := ⟨RX6, "addLetter", "(I)V"⟩
abbrev cX6_endWord : ByteArray := prog_8_method_8_code
def yX6_endWord : MethodName := ⟨RX6, "endWord", "()V"⟩
abbrev cX6_endSentence : ByteArray := prog_8_method_9_code
def yX6_endSentence : MethodName := ⟨RX6, "endSentence", "()V"⟩
abbrev cX6_beginsSentence : ByteArray := prog_8_method_10_code
def yX6_beginsSentence : MethodName := ⟨RX6, "beginsSentence", "(I)Z"⟩
abbrev cX6_endsSentence : ByteArray := prog_8_method_11_code
def yX6_endsSentence : MethodName := ⟨RX6, "endsSentence", "(I)Z"⟩
def RX7 : String := "TermScan"
def TX7 : u_T := fun k => match k with
  | 0 => ("TermScan", "slip", "LTermScan$Slip;", true)
  | 1 => ("TermScan", "lexicon", "LTermScan$Lexicon;", true)
  | 2 => ("TermScan", "images", "[LTermScan$Lexicon;", true)
  | 3 => ("TermScan", "text", "LTermScan$Text;", true)
  | 4 => ("TermScan", "scan", "LTermScan$Scan;", true)
  | 5 => ("TermScan", "mended", "LTermScan$Mended;", true)
  | _ => ("TermScan", "lots", "LTermScan$Lots;", true)
def tyX7 : Nat → FieldType := fun k => match k with
  | 0 => .object "TermScan$Slip"
  | 1 => .object "TermScan$Lexicon"
  | 2 => .array (.object "TermScan$Lexicon")
  | 3 => .object "TermScan$Text"
  | 4 => .object "TermScan$Scan"
  | 5 => .object "TermScan$Mended"
  | _ => .object "TermScan$Lots"
theorem nmX7 : ∀ a, a < 7 → ∀ b, b < 7 → a ≠ b → (TX7 a).2.1 ≠ (TX7 b).2.1 := by decide +kernel
theorem tyX7_ok : ∀ k, k < 7 → parseFieldDescriptor (TX7 k).2.2.1 = some (tyX7 k) := by decide +kernel
abbrev cX7_init : ByteArray := prog_1_method_1_code
def yX7_init : MethodName := ⟨RX7, "<init>", "()V"⟩
abbrev cX7_spell : ByteArray := prog_1_method_2_code
def yX7_spell : MethodName := ⟨RX7, "spell", "(I)I"⟩
abbrev cX7_term : ByteArray := prog_1_method_3_code
def yX7_term : MethodName := ⟨RX7, "term", "(II)I"⟩
abbrev cX7_ending : ByteArray := prog_1_method_4_code
def yX7_ending : MethodName := ⟨RX7, "ending", "()I"⟩
abbrev cX7_dropTerm : ByteArray := prog_1_method_5_code
def yX7_dropTerm : MethodName := ⟨RX7, "dropTerm", "(I)I"⟩
abbrev cX7_dropEnding : ByteArray := prog_1_method_6_code
def yX7_dropEnding : MethodName := ⟨RX7, "dropEnding", "(I)I"⟩
abbrev cX7_forbid : ByteArray := prog_1_method_7_code
def yX7_forbid : MethodName := ⟨RX7, "forbid", "(II)I"⟩
abbrev cX7_allow : ByteArray := prog_1_method_8_code
def yX7_allow : MethodName := ⟨RX7, "allow", "(I)I"⟩
abbrev cX7_change : ByteArray := prog_1_method_9_code
def yX7_change : MethodName := ⟨RX7, "change", "(III)I"⟩
abbrev cX7_termOf : ByteArray := prog_1_method_10_code
def yX7_termOf : MethodName := ⟨RX7, "termOf", "(II)I"⟩
abbrev cX7_letter : ByteArray := prog_1_method_11_code
def yX7_letter : MethodName := ⟨RX7, "letter", "(III)I"⟩
abbrev cX7_read : ByteArray := prog_1_method_12_code
def yX7_read : MethodName := ⟨RX7, "read", "(I)I"⟩
abbrev cX7_wipe : ByteArray := prog_1_method_13_code
def yX7_wipe : MethodName := ⟨RX7, "wipe", "()I"⟩
abbrev cX7_drift : ByteArray := prog_1_method_14_code
def yX7_drift : MethodName := ⟨RX7, "drift", "(II)I"⟩
abbrev cX7_word : ByteArray := prog_1_method_15_code
def yX7_word : MethodName := ⟨RX7, "word", "(II)I"⟩
abbrev cX7_told : ByteArray := prog_1_method_16_code
def yX7_told : MethodName := ⟨RX7, "told", "(I)I"⟩
abbrev cX7_found : ByteArray := prog_1_method_17_code
def yX7_found : MethodName := ⟨RX7, "found", "(II)I"⟩
abbrev cX7_chosen : ByteArray := prog_1_method_18_code
def yX7_chosen : MethodName := ⟨RX7, "chosen", "(II)I"⟩
abbrev cX7_longest : ByteArray := prog_1_method_19_code
def yX7_longest : MethodName := ⟨RX7, "longest", "(I)I"⟩
abbrev cX7_sign : ByteArray := prog_1_method_20_code
def yX7_sign : MethodName := ⟨RX7, "sign", "(I)I"⟩
abbrev cX7_same : ByteArray := prog_1_method_21_code
def yX7_same : MethodName := ⟨RX7, "same", "(II)I"⟩
abbrev cX7_keep : ByteArray := prog_1_method_22_code
def yX7_keep : MethodName := ⟨RX7, "keep", "(I)I"⟩
abbrev cX7_goBack : ByteArray := prog_1_method_23_code
def yX7_goBack : MethodName := ⟨RX7, "goBack", "(I)I"⟩
abbrev cX7_isWeight : ByteArray := prog_1_method_24_code
def yX7_isWeight : MethodName := ⟨RX7, "isWeight", "(I)Z"⟩
abbrev cX7_isBent : ByteArray := prog_1_method_25_code
def yX7_isBent : MethodName := ⟨RX7, "isBent", "(I)Z"⟩
abbrev cX7_imageOf : ByteArray := prog_1_method_26_code
def yX7_imageOf : MethodName := ⟨RX7, "imageOf", "(I)LTermScan$Lexicon;"⟩
abbrev cX7_termsChanged : ByteArray := prog_1_method_27_code
def yX7_termsChanged : MethodName := ⟨RX7, "termsChanged", "()V"⟩
abbrev cX7_textChanged : ByteArray := prog_1_method_28_code
def yX7_textChanged : MethodName := ⟨RX7, "textChanged", "()V"⟩
abbrev cX7_settled : ByteArray := prog_1_method_29_code
def yX7_settled : MethodName := ⟨RX7, "settled", "()LTermScan$Scan;"⟩
abbrev cX7_written : ByteArray := prog_1_method_30_code
def yX7_written : MethodName := ⟨RX7, "written", "()LTermScan$Mended;"⟩
abbrev cX7_takeLot : ByteArray := prog_1_method_31_code
def yX7_takeLot : MethodName := ⟨RX7, "takeLot", "()Z"⟩
def RX8 : String := "TermScanModel"
def TX8 : u_T := fun k => match k with
  | 0 => ("TermScanModel", "book", "[I", true)
  | 1 => ("TermScanModel", "images", "[I", true)
  | 2 => ("TermScanModel", "kept", "[Z", true)
  | 3 => ("TermScanModel", "slip", "[I", true)
  | 4 => ("TermScanModel", "spelled", "I", false)
  | 5 => ("TermScanModel", "text", "[I", true)
  | 6 => ("TermScanModel", "ended", "I", false)
  | 7 => ("TermScanModel", "sentences", "I", false)
  | 8 => ("TermScanModel", "begins", "[I", true)
  | 9 => ("TermScanModel", "sizes", "[I", true)
  | 10 => ("TermScanModel", "worths", "[I", true)
  | 11 => ("TermScanModel", "many", "[I", true)
  | 12 => ("TermScanModel", "choice", "[I", true)
  | _ => ("TermScanModel", "mended", "[I", true)
def tyX8 : Nat → FieldType := fun k => match k with
  | 0 => .array .int
  | 1 => .array .int
  | 2 => .array .boolean
  | 3 => .array .int
  | 4 => .int
  | 5 => .array .int
  | 6 => .int
  | 7 => .int
  | 8 => .array .int
  | 9 => .array .int
  | 10 => .array .int
  | 11 => .array .int
  | 12 => .array .int
  | _ => .array .int
theorem nmX8 : ∀ a, a < 14 → ∀ b, b < 14 → a ≠ b → (TX8 a).2.1 ≠ (TX8 b).2.1 := by decide +kernel
theorem tyX8_ok : ∀ k, k < 14 → parseFieldDescriptor (TX8 k).2.2.1 = some (tyX8 k) := by decide +kernel
abbrev cX8_init : ByteArray := prog_10_method_1_code
def yX8_init : MethodName := ⟨RX8, "<init>", "()V"⟩
abbrev cX8_in : ByteArray := prog_10_method_3_code
def yX8_in : MethodName := ⟨RX8, "in", "(III)Z"⟩
abbrev cX8_isLetter : ByteArray := prog_10_method_4_code
def yX8_isLetter : MethodName := ⟨RX8, "isLetter", "(I)Z"⟩
abbrev cX8_isTerm : ByteArray := prog_10_method_5_code
def yX8_isTerm : MethodName := ⟨RX8, "isTerm", "(I)Z"⟩
abbrev cX8_isEnding : ByteArray := prog_10_method_6_code
def yX8_isEnding : MethodName := ⟨RX8, "isEnding", "(I)Z"⟩
abbrev cX8_termAt : ByteArray := prog_10_method_7_code
def yX8_termAt : MethodName := ⟨RX8, "termAt", "(I)I"⟩
abbrev cX8_wordAt : ByteArray := prog_10_method_8_code
def yX8_wordAt : MethodName := ⟨RX8, "wordAt", "(II)I"⟩
abbrev cX8_endingAt : ByteArray := prog_10_method_9_code
def yX8_endingAt : MethodName := ⟨RX8, "endingAt", "(I)I"⟩
abbrev cX8_spell : ByteArray := prog_10_method_10_code
def yX8_spell : MethodName := ⟨RX8, "spell", "(I)I"⟩
abbrev cX8_parts : ByteArray := prog_10_method_11_code
def yX8_parts : MethodName := ⟨RX8, "parts", "()I"⟩
abbrev cX8_isSame : ByteArray := prog_10_method_12_code
def yX8_isSame : MethodName := ⟨RX8, "isSame", "(II)Z"⟩
abbrev cX8_isTermThere : ByteArray := prog_10_method_13_code
def yX8_isTermThere : MethodName := ⟨RX8, "isTermThere", "(I)Z"⟩
abbrev cX8_writes : ByteArray := prog_10_method_14_code
def yX8_writes : MethodName := ⟨RX8, "writes", "(II)V"⟩
abbrev cX8_term : ByteArray := prog_10_method_15_code
def yX8_term : MethodName := ⟨RX8, "term", "(II)I"⟩
abbrev cX8_ending : ByteArray := prog_10_method_16_code
def yX8_ending : MethodName := ⟨RX8, "ending", "()I"⟩
abbrev cX8_isPreferred : ByteArray := prog_10_method_17_code
def yX8_isPreferred : MethodName := ⟨RX8, "isPreferred", "(I)Z"⟩
abbrev cX8_forbidden : ByteArray := prog_10_method_18_code
def yX8_forbidden : MethodName := ⟨RX8, "forbidden", "()I"⟩
abbrev cX8_ones : ByteArray := prog_10_method_19_code
def yX8_ones : MethodName := ⟨RX8, "ones", "(I)I"⟩
abbrev cX8_dropTerm : ByteArray := prog_10_method_20_code
def yX8_dropTerm : MethodName := ⟨RX8, "dropTerm", "(I)I"⟩
abbrev cX8_dropEnding : ByteArray := prog_10_method_21_code
def yX8_dropEnding : MethodName := ⟨RX8, "dropEnding", "(I)I"⟩
abbrev cX8_forbid : ByteArray := prog_10_method_22_code
def yX8_forbid : MethodName := ⟨RX8, "forbid", "(II)I"⟩
abbrev cX8_allow : ByteArray := prog_10_method_23_code
def yX8_allow : MethodName := ⟨RX8, "allow", "(I)I"⟩
abbrev cX8_change : ByteArray := prog_10_method_24_code
def yX8_change : MethodName := ⟨RX8, "change", "(III)I"⟩
abbrev cX8_termOf : ByteArray := prog_10_method_25_code
def yX8_termOf : MethodName := ⟨RX8, "termOf", "(II)I"⟩
abbrev cX8_letter : ByteArray := prog_10_method_26_code
def yX8_letter : MethodName := ⟨RX8, "letter", "(III)I"⟩
abbrev cX8_clears : ByteArray := prog_10_method_27_code
def yX8_clears : MethodName := ⟨RX8, "clears", "(I)V"⟩
abbrev cX8_ends : ByteArray := prog_10_method_28_code
def yX8_ends : MethodName := ⟨RX8, "ends", "()V"⟩
abbrev cX8_hasWord : ByteArray := prog_10_method_29_code
def yX8_hasWord : MethodName := ⟨RX8, "hasWord", "()Z"⟩
abbrev cX8_comes : ByteArray := prog_10_method_30_code
def yX8_comes : MethodName := ⟨RX8, "comes", "(I)V"⟩
abbrev cX8_read : ByteArray := prog_10_method_31_code
def yX8_read : MethodName := ⟨RX8, "read", "(I)I"⟩
abbrev cX8_wipe : ByteArray := prog_10_method_32_code
def yX8_wipe : MethodName := ⟨RX8, "wipe", "()I"⟩
abbrev cX8_comesAll : ByteArray := prog_10_method_33_code
def yX8_comesAll : MethodName := ⟨RX8, "comesAll", "(I)V"⟩
abbrev cX8_next : ByteArray := prog_10_method_34_code
def yX8_next : MethodName := ⟨RX8, "next", "(J)J"⟩
abbrev cX8_drift : ByteArray := prog_10_method_35_code
def yX8_drift : MethodName := ⟨RX8, "drift", "(II)I"⟩
abbrev cX8_isWord : ByteArray := prog_10_method_36_code
def yX8_isWord : MethodName := ⟨RX8, "isWord", "(I)Z"⟩
abbrev cX8_isAs : ByteArray := prog_10_method_37_code
def yX8_isAs : MethodName := ⟨RX8, "isAs", "(III)Z"⟩
abbrev cX8_isBegun : ByteArray := prog_10_method_38_code
def yX8_isBegun : MethodName := ⟨RX8, "isBegun", "(II)Z"⟩
abbrev cX8_meets : ByteArray := prog_10_method_39_code
def yX8_meets : MethodName := ⟨RX8, "meets", "(III)Z"⟩
abbrev cX8_isMet : ByteArray := prog_10_method_40_code
def yX8_isMet : MethodName := ⟨RX8, "isMet", "(III)Z"⟩
abbrev cX8_isFound : ByteArray := prog_10_method_41_code
def yX8_isFound : MethodName := ⟨RX8, "isFound", "(II)Z"⟩
abbrev cX8_worthOf : ByteArray := prog_10_method_42_code
def yX8_worthOf : MethodName := ⟨RX8, "worthOf", "(I)I"⟩
abbrev cX8_choose : ByteArray := prog_10_method_43_code
def yX8_choose : MethodName := ⟨RX8, "choose", "()V"⟩
abbrev cX8_reach : ByteArray := prog_10_method_44_code
def yX8_reach : MethodName := ⟨RX8, "reach", "(I)I"⟩
abbrev cX8_foundOver : ByteArray := prog_10_method_45_code
def yX8_foundOver : MethodName := ⟨RX8, "foundOver", "(I)I"⟩
abbrev cX8_chosenOver : ByteArray := prog_10_method_46_code
def yX8_chosenOver : MethodName := ⟨RX8, "chosenOver", "(I)I"⟩
abbrev cX8_word : ByteArray := prog_10_method_47_code
def yX8_word : MethodName := ⟨RX8, "word", "(II)I"⟩
abbrev cX8_mends : ByteArray := prog_10_method_48_code
def yX8_mends : MethodName := ⟨RX8, "mends", "()I"⟩
abbrev cX8_counts : ByteArray := prog_10_method_49_code
def yX8_counts : MethodName := ⟨RX8, "counts", "(I)I"⟩
abbrev cX8_told : ByteArray := prog_10_method_50_code
def yX8_told : MethodName := ⟨RX8, "told", "(I)I"⟩
abbrev cX8_place : ByteArray := prog_10_method_51_code
def yX8_place : MethodName := ⟨RX8, "place", "(IZ)I"⟩
abbrev cX8_found : ByteArray := prog_10_method_52_code
def yX8_found : MethodName := ⟨RX8, "found", "(II)I"⟩
abbrev cX8_chosen : ByteArray := prog_10_method_53_code
def yX8_chosen : MethodName := ⟨RX8, "chosen", "(II)I"⟩
abbrev cX8_longest : ByteArray := prog_10_method_54_code
def yX8_longest : MethodName := ⟨RX8, "longest", "(I)I"⟩
abbrev cX8_sign : ByteArray := prog_10_method_55_code
def yX8_sign : MethodName := ⟨RX8, "sign", "(I)I"⟩
abbrev cX8_same : ByteArray := prog_10_method_56_code
def yX8_same : MethodName := ⟨RX8, "same", "(II)I"⟩
abbrev cX8_keep : ByteArray := prog_10_method_57_code
def yX8_keep : MethodName := ⟨RX8, "keep", "(I)I"⟩
abbrev cX8_goBack : ByteArray := prog_10_method_58_code
def yX8_goBack : MethodName := ⟨RX8, "goBack", "(I)I"⟩
def RJ6 : String := "java/lang/Integer"
def TJ6 : u_T := fun k => match k with
  | _ => ("", "", "", false)
def tyJ6 : Nat → FieldType := fun k => match k with
  | _ => .int
theorem nmJ6 : ∀ a, a < 0 → ∀ b, b < 0 → a ≠ b → (TJ6 a).2.1 ≠ (TJ6 b).2.1 := by decide +kernel
theorem tyJ6_ok : ∀ k, k < 0 → parseFieldDescriptor (TJ6 k).2.2.1 = some (tyJ6 k) := by decide +kernel
abbrev cJ6_bitCount_0f7a4 : ByteArray := prog_11_method_49_code
def yJ6_bitCount_0f7a4 : MethodName := ⟨RJ6, "bitCount", "(I)I"⟩
def RJ10 : String := "java/lang/System"
def TJ10 : u_T := fun k => match k with
  | _ => ("", "", "", false)
def tyJ10 : Nat → FieldType := fun k => match k with
  | _ => .int
theorem nmJ10 : ∀ a, a < 0 → ∀ b, b < 0 → a ≠ b → (TJ10 a).2.1 ≠ (TJ10 b).2.1 := by decide +kernel
theorem tyJ10_ok : ∀ k, k < 0 → parseFieldDescriptor (TJ10 k).2.2.1 = some (tyJ10 k) := by decide +kernel
def RL : String := "TermScanLaw"
abbrev cL_law : ByteArray := code
def yL_law : MethodName := ⟨RL, "law", "([I)Z"⟩
end
section
/-! the world's cells by their numbers: kind (0 int[], 1 boolean[], 2 char[], 3 long[], 4 Lexicon[], 5 + class), size, fields (0 int, 1 long, 2 the cell of that number) -/
def shp : List (Nat × Nat × List (Nat × Nat)) := [
  (11, 0, [(2, 1), (2, 4), (2, 11), (2, 26), (2, 30), (2, 40), (2, 42)]),
  (9, 0, [(2, 2), (0, 0), (2, 3)]),
  (0, 50, []),
  (3, 4, []),
  (5, 0, [(0, 0), (2, 5), (2, 6), (2, 7), (2, 8), (2, 9), (0, 0), (2, 10), (0, 0)]),
  (3, 32, []),
  (0, 8, []),
  (0, 8, []),
  (0, 8, []),
  (0, 8, []),
  (3, 5, []),
  (4, 2, [(2, 12), (2, 19)]),
  (5, 0, [(0, 0), (2, 13), (2, 14), (2, 15), (2, 16), (2, 17), (0, 0), (2, 18), (0, 0)]),
  (3, 32, []),
  (0, 8, []),
  (0, 8, []),
  (0, 8, []),
  (0, 8, []),
  (3, 5, []),
  (5, 0, [(0, 0), (2, 20), (2, 21), (2, 22), (2, 23), (2, 24), (0, 0), (2, 25), (0, 0)]),
  (3, 32, []),
  (0, 8, []),
  (0, 8, []),
  (0, 8, []),
  (0, 8, []),
  (3, 5, []),
  (10, 0, [(0, 0), (2, 27), (2, 28), (2, 29), (0, 0), (1, 0), (0, 0)]),
  (3, 60, []),
  (1, 60, []),
  (0, 60, []),
  (8, 0, [(2, 4), (2, 26), (0, 0), (0, 0), (2, 31), (0, 0), (2, 32), (2, 33), (2, 34), (2, 35), (2, 36), (0, 0), (2, 37), (2, 38), (2, 39)]),
  (3, 6, []),
  (0, 60, []),
  (0, 60, []),
  (0, 61, []),
  (0, 61, []),
  (0, 60, []),
  (0, 60, []),
  (0, 60, []),
  (0, 60, []),
  (7, 0, [(2, 4), (2, 26), (2, 30), (2, 41), (0, 0), (0, 0)]),
  (2, 3120, []),
  (6, 0, [(1, 0)]),
  (12, 0, [(2, 44), (2, 45), (2, 46), (2, 47), (0, 0), (2, 48), (0, 0), (0, 0), (2, 49), (2, 50), (2, 51), (2, 52), (2, 53), (2, 54)]),
  (0, 475, []),
  (0, 950, []),
  (1, 2, []),
  (0, 50, []),
  (0, 915, []),
  (0, 25, []),
  (0, 25, []),
  (0, 65, []),
  (0, 65, []),
  (0, 60, []),
  (0, 3300, [])]
/-- what the cells hold: ints, longs, by cell and place -/
abbrev Sg : Type := (Nat → Nat → Int32) × (Nat → Nat → Int64)
def sI (σ : Sg) (k j : Nat) (v : Int32) : Sg := (fun a b => if a = k ∧ b = j then v else σ.1 a b, σ.2)
def sL (σ : Sg) (k j : Nat) (v : Int64) : Sg := (σ.1, fun a b => if a = k ∧ b = j then v else σ.2 a b)
def cL (σ : Sg) (k0 k1 sp dp n : Nat) : Sg := (σ.1, fun a => if a = k1 then va_cpy (σ.2 k0) (σ.2 k1) sp dp n else σ.2 a)
/-! the words that the programs below are made of -/
/-- an int, a long of a row: its place must be within the row -/
def rI {α : Type} (σ : Sg) (k n : Nat) (i : Int32) (f : Int32 → Option α) : Option α := if ¬ (i < 0 ∨ n ≤ i.toNatClampNeg) then f (σ.1 k i.toNatClampNeg) else none
def rL {α : Type} (σ : Sg) (k n : Nat) (i : Int32) (f : Int64 → Option α) : Option α := if ¬ (i < 0 ∨ n ≤ i.toNatClampNeg) then f (σ.2 k i.toNatClampNeg) else none
def wI {α : Type} (σ : Sg) (k n : Nat) (i v : Int32) (f : Sg → Option α) : Option α := if ¬ (i < 0 ∨ n ≤ i.toNatClampNeg) then f (sI σ k i.toNatClampNeg v) else none
def wL {α : Type} (σ : Sg) (k n : Nat) (i : Int32) (v : Int64) (f : Sg → Option α) : Option α := if ¬ (i < 0 ∨ n ≤ i.toNatClampNeg) then f (sL σ k i.toNatClampNeg v) else none
/-- a field of a cell is written -/
def pI {α : Type} (σ : Sg) (k j : Nat) (v : Int32) (f : Sg → Option α) : Option α := f (sI σ k j v)
def pL {α : Type} (σ : Sg) (k j : Nat) (v : Int64) (f : Sg → Option α) : Option α := f (sL σ k j v)
def xL4 {α : Type} (σ : Sg) (k0 n0 k1 n1 : Nat) (sp dp n : Int32) (f : Sg → Option α) : Option α := if ¬ sp < 0 ∧ ¬ dp < 0 ∧ ¬ n < 0 ∧ sp.toNatClampNeg + n.toNatClampNeg ≤ n0 ∧ dp.toNatClampNeg + n.toNatClampNeg ≤ n1 then f (cL σ k0 k1 sp.toNatClampNeg dp.toNatClampNeg n.toNatClampNeg) else none
/-- a call: its answer and the world behind it -/
def cA {α β : Type} (o : Option (β × Sg)) (f : β → Sg → Option α) : Option α := match o with
  | none => none
  | some (r, σ) => f r σ
/-- what must hold -/
def mH {α : Type} (c : Prop) [Decidable c] (o : Option α) : Option α := if c then o else none
theorem rI_ok {α : Type} {σ : Sg} {k n : Nat} {i : Int32} {f : Int32 → Option α} {r : α} (h : rI σ k n i f = some r) : vp_in i n ∧ ∃ x, x = σ.1 k i.toNatClampNeg ∧ f x = some r := by
  unfold rI at h
  split at h
  · exact ⟨by assumption, _, rfl, h⟩
  · cases h
theorem rL_ok {α : Type} {σ : Sg} {k n : Nat} {i : Int32} {f : Int64 → Option α} {r : α} (h : rL σ k n i f = some r) : vp_in i n ∧ ∃ x, x = σ.2 k i.toNatClampNeg ∧ f x = some r := by
  unfold rL at h
  split at h
  · exact ⟨by assumption, _, rfl, h⟩
  · cases h
theorem wI_ok {α : Type} {σ : Sg} {k n : Nat} {i v : Int32} {f : Sg → Option α} {r : α} (h : wI σ k n i v f = some r) : vp_in i n ∧ ∃ x, x = sI σ k i.toNatClampNeg v ∧ f x = some r := by
  unfold wI at h
  split at h
  · exact ⟨by assumption, _, rfl, h⟩
  · cases h
theorem wL_ok {α : Type} {σ : Sg} {k n : Nat} {i : Int32} {v : Int64} {f : Sg → Option α} {r : α} (h : wL σ k n i v f = some r) : vp_in i n ∧ ∃ x, x = sL σ k i.toNatClampNeg v ∧ f x = some r := by
  unfold wL at h
  split at h
  · exact ⟨by assumption, _, rfl, h⟩
  · cases h
theorem pI_ok {α : Type} {σ : Sg} {k j : Nat} {v : Int32} {f : Sg → Option α} {r : α} (h : pI σ k j v f = some r) : ∃ x, x = sI σ k j v ∧ f x = some r := ⟨_, rfl, h⟩
theorem pL_ok {α : Type} {σ : Sg} {k j : Nat} {v : Int64} {f : Sg → Option α} {r : α} (h : pL σ k j v f = some r) : ∃ x, x = sL σ k j v ∧ f x = some r := ⟨_, rfl, h⟩
theorem xL4_ok {α : Type} {σ : Sg} {k0 n0 k1 n1 : Nat} {sp dp n : Int32} {f : Sg → Option α} {r : α} (h : xL4 σ k0 n0 k1 n1 sp dp n f = some r) : (¬ sp < 0 ∧ ¬ dp < 0 ∧ ¬ n < 0 ∧ sp.toNatClampNeg + n.toNatClampNeg ≤ n0 ∧ dp.toNatClampNeg + n.toNatClampNeg ≤ n1) ∧ ∃ x, x = cL σ k0 k1 sp.toNatClampNeg dp.toNatClampNeg n.toNatClampNeg ∧ f x = some r := by
  unfold xL4 at h
  split at h
  · exact ⟨by assumption, _, rfl, h⟩
  · cases h
theorem cA_ok {α β : Type} {o : Option (β × Sg)} {f : β → Sg → Option α} {r : α} (h : cA o f = some r) : ∃ x s, o = some (x, s) ∧ f x s = some r := by
  unfold cA at h
  split at h
  · cases h
  · exact ⟨_, _, rfl, h⟩
theorem mH_ok {α : Type} {c : Prop} [Decidable c] {o : Option α} {r : α} (h : mH c o = some r) : c ∧ o = some r := by
  unfold mH at h
  split at h
  · exact ⟨by assumption, h⟩
  · cases h
theorem it {α : Type} {c : Prop} [Decidable c] {a b : Option α} {r : Option α} (h : (if c then a else b) = r) (hc : c) : a = r := (if_pos hc).symm.trans h
theorem ie {α : Type} {c : Prop} [Decidable c] {a b : Option α} {r : Option α} (h : (if c then a else b) = r) (hc : ¬ c) : b = r := (if_neg hc).symm.trans h
end
section
def gtb : List Cond := lw_tbl.filter goodWord
theorem tbm {w : Cond} (h : w ∈ lw_tbl) (g : goodWord w = true) : w ∈ gtb := List.mem_filter.mpr ⟨h, g⟩
theorem ini_RL : Cond.initialized RL ∈ gtb := tbm (List.mem_of_getElem? (i := 51) (by decide +kernel)) (by decide +kernel)
theorem ini_RX7 : Cond.initialized RX7 ∈ gtb := tbm (List.mem_of_getElem? (i := 52) (by decide +kernel)) (by decide +kernel)
theorem ini_RX5 : Cond.initialized RX5 ∈ gtb := tbm (List.mem_of_getElem? (i := 53) (by decide +kernel)) (by decide +kernel)
theorem ini_RX1 : Cond.initialized RX1 ∈ gtb := tbm (List.mem_of_getElem? (i := 54) (by decide +kernel)) (by decide +kernel)
theorem ini_RX6 : Cond.initialized RX6 ∈ gtb := tbm (List.mem_of_getElem? (i := 55) (by decide +kernel)) (by decide +kernel)
theorem ini_RX4 : Cond.initialized RX4 ∈ gtb := tbm (List.mem_of_getElem? (i := 56) (by decide +kernel)) (by decide +kernel)
theorem ini_RX3 : Cond.initialized RX3 ∈ gtb := tbm (List.mem_of_getElem? (i := 57) (by decide +kernel)) (by decide +kernel)
theorem ini_RX2 : Cond.initialized RX2 ∈ gtb := tbm (List.mem_of_getElem? (i := 58) (by decide +kernel)) (by decide +kernel)
theorem ini_RX8 : Cond.initialized RX8 ∈ gtb := tbm (List.mem_of_getElem? (i := 59) (by decide +kernel)) (by decide +kernel)
theorem ini_RX0 : Cond.initialized RX0 ∈ gtb := tbm (List.mem_of_getElem? (i := 60) (by decide +kernel)) (by decide +kernel)
theorem ini_RJ10 : Cond.initialized RJ10 ∈ gtb := tbm (List.mem_of_getElem? (i := 61) (by decide +kernel)) (by decide +kernel)
theorem cpy_ini : Cond.initialized "java/lang/System" ∈ gtb := tbm (List.mem_of_getElem? (i := 61) (by decide +kernel)) (by decide +kernel)
theorem ini_RJ6 : Cond.initialized RJ6 ∈ gtb := tbm (List.mem_of_getElem? (i := 62) (by decide +kernel)) (by decide +kernel)
theorem ml_RL_9 : Cond.methodLink RL 9 yX7_init ∈ gtb := tbm (List.mem_of_getElem? (i := 65) (by decide +kernel)) (by decide +kernel)
theorem im_yX7_init : Cond.instanceMethod yX7_init ∈ gtb := tbm (List.mem_of_getElem? (i := 66) (by decide +kernel)) (by decide +kernel)
theorem cd_yX7_init : Cond.code yX7_init cX7_init 2 (Option.none : Option Jvm.ClassFile.FieldType) ∈ gtb := tbm (List.mem_of_getElem? (i := 67) (by decide +kernel)) (by decide +kernel)
theorem ml_RX7_1 : Cond.methodLink RX7 1 objectInit ∈ gtb := tbm (List.mem_of_getElem? (i := 68) (by decide +kernel)) (by decide +kernel)
theorem ml_RX7_9 : Cond.methodLink RX7 9 yX5_init ∈ gtb := tbm (List.mem_of_getElem? (i := 73) (by decide +kernel)) (by decide +kernel)
theorem im_yX5_init : Cond.instanceMethod yX5_init ∈ gtb := tbm (List.mem_of_getElem? (i := 74) (by decide +kernel)) (by decide +kernel)
theorem cd_yX5_init : Cond.code yX5_init cX5_init 1 (Option.none : Option Jvm.ClassFile.FieldType) ∈ gtb := tbm (List.mem_of_getElem? (i := 75) (by decide +kernel)) (by decide +kernel)
theorem ml_RX5_3 : Cond.methodLink RX5 3 objectInit ∈ gtb := tbm (List.mem_of_getElem? (i := 76) (by decide +kernel)) (by decide +kernel)
theorem fl_RX5_11 : Cond.fieldLink RX5 11 "TermScan$Slip" "signs" "[I" ∈ gtb := tbm (List.mem_of_getElem? (i := 77) (by decide +kernel)) (by decide +kernel)
theorem fl_RX5_21 : Cond.fieldLink RX5 21 "TermScan$Slip" "size" "I" ∈ gtb := tbm (List.mem_of_getElem? (i := 78) (by decide +kernel)) (by decide +kernel)
theorem fl_RX7_69 : Cond.fieldLink RX7 69 "TermScan$Slip" "size" "I" ∈ gtb := tbm (List.mem_of_getElem? (i := 79) (by decide +kernel)) (by decide +kernel)
theorem fl_RX5_17 : Cond.fieldLink RX5 17 "TermScan$Slip" "words" "[J" ∈ gtb := tbm (List.mem_of_getElem? (i := 80) (by decide +kernel)) (by decide +kernel)
theorem fl_RX7_84 : Cond.fieldLink RX7 84 "TermScan$Slip" "words" "[J" ∈ gtb := tbm (List.mem_of_getElem? (i := 81) (by decide +kernel)) (by decide +kernel)
theorem ml_RX7_18 : Cond.methodLink RX7 18 yX1_init ∈ gtb := tbm (List.mem_of_getElem? (i := 93) (by decide +kernel)) (by decide +kernel)
theorem im_yX1_init : Cond.instanceMethod yX1_init ∈ gtb := tbm (List.mem_of_getElem? (i := 94) (by decide +kernel)) (by decide +kernel)
theorem cd_yX1_init : Cond.code yX1_init cX1_init 1 (Option.none : Option Jvm.ClassFile.FieldType) ∈ gtb := tbm (List.mem_of_getElem? (i := 95) (by decide +kernel)) (by decide +kernel)
theorem ml_RX1_3 : Cond.methodLink RX1 3 objectInit ∈ gtb := tbm (List.mem_of_getElem? (i := 96) (by decide +kernel)) (by decide +kernel)
theorem fl_RX1_31 : Cond.fieldLink RX1 31 "TermScan$Lexicon" "termCount" "I" ∈ gtb := tbm (List.mem_of_getElem? (i := 97) (by decide +kernel)) (by decide +kernel)
theorem fl_RX7_122 : Cond.fieldLink RX7 122 "TermScan$Lexicon" "termCount" "I" ∈ gtb := tbm (List.mem_of_getElem? (i := 98) (by decide +kernel)) (by decide +kernel)
theorem fl_RX4_82 : Cond.fieldLink RX4 82 "TermScan$Lexicon" "termCount" "I" ∈ gtb := tbm (List.mem_of_getElem? (i := 99) (by decide +kernel)) (by decide +kernel)
theorem fl_RX1_11 : Cond.fieldLink RX1 11 "TermScan$Lexicon" "words" "[J" ∈ gtb := tbm (List.mem_of_getElem? (i := 100) (by decide +kernel)) (by decide +kernel)
theorem fl_RX1_15 : Cond.fieldLink RX1 15 "TermScan$Lexicon" "sizes" "[I" ∈ gtb := tbm (List.mem_of_getElem? (i := 101) (by decide +kernel)) (by decide +kernel)
theorem fl_RX3_74 : Cond.fieldLink RX3 74 "TermScan$Lexicon" "sizes" "[I" ∈ gtb := tbm (List.mem_of_getElem? (i := 102) (by decide +kernel)) (by decide +kernel)
theorem fl_RX4_85 : Cond.fieldLink RX4 85 "TermScan$Lexicon" "sizes" "[I" ∈ gtb := tbm (List.mem_of_getElem? (i := 103) (by decide +kernel)) (by decide +kernel)
theorem fl_RX7_156 : Cond.fieldLink RX7 156 "TermScan$Lexicon" "sizes" "[I" ∈ gtb := tbm (List.mem_of_getElem? (i := 104) (by decide +kernel)) (by decide +kernel)
theorem fl_RX1_19 : Cond.fieldLink RX1 19 "TermScan$Lexicon" "weights" "[I" ∈ gtb := tbm (List.mem_of_getElem? (i := 105) (by decide +kernel)) (by decide +kernel)
theorem fl_RX7_150 : Cond.fieldLink RX7 150 "TermScan$Lexicon" "weights" "[I" ∈ gtb := tbm (List.mem_of_getElem? (i := 106) (by decide +kernel)) (by decide +kernel)
theorem fl_RX4_164 : Cond.fieldLink RX4 164 "TermScan$Lexicon" "weights" "[I" ∈ gtb := tbm (List.mem_of_getElem? (i := 107) (by decide +kernel)) (by decide +kernel)
theorem fl_RX1_22 : Cond.fieldLink RX1 22 "TermScan$Lexicon" "bents" "[I" ∈ gtb := tbm (List.mem_of_getElem? (i := 108) (by decide +kernel)) (by decide +kernel)
theorem fl_RX4_103 : Cond.fieldLink RX4 103 "TermScan$Lexicon" "bents" "[I" ∈ gtb := tbm (List.mem_of_getElem? (i := 109) (by decide +kernel)) (by decide +kernel)
theorem fl_RX7_153 : Cond.fieldLink RX7 153 "TermScan$Lexicon" "bents" "[I" ∈ gtb := tbm (List.mem_of_getElem? (i := 110) (by decide +kernel)) (by decide +kernel)
theorem fl_RX1_25 : Cond.fieldLink RX1 25 "TermScan$Lexicon" "preferred" "[I" ∈ gtb := tbm (List.mem_of_getElem? (i := 111) (by decide +kernel)) (by decide +kernel)
theorem fl_RX7_137 : Cond.fieldLink RX7 137 "TermScan$Lexicon" "preferred" "[I" ∈ gtb := tbm (List.mem_of_getElem? (i := 112) (by decide +kernel)) (by decide +kernel)
theorem fl_RX4_158 : Cond.fieldLink RX4 158 "TermScan$Lexicon" "preferred" "[I" ∈ gtb := tbm (List.mem_of_getElem? (i := 113) (by decide +kernel)) (by decide +kernel)
theorem fl_RX1_39 : Cond.fieldLink RX1 39 "TermScan$Lexicon" "endingCount" "I" ∈ gtb := tbm (List.mem_of_getElem? (i := 114) (by decide +kernel)) (by decide +kernel)
theorem fl_RX7_131 : Cond.fieldLink RX7 131 "TermScan$Lexicon" "endingCount" "I" ∈ gtb := tbm (List.mem_of_getElem? (i := 115) (by decide +kernel)) (by decide +kernel)
theorem fl_RX4_123 : Cond.fieldLink RX4 123 "TermScan$Lexicon" "endingCount" "I" ∈ gtb := tbm (List.mem_of_getElem? (i := 116) (by decide +kernel)) (by decide +kernel)
theorem fl_RX1_28 : Cond.fieldLink RX1 28 "TermScan$Lexicon" "endings" "[J" ∈ gtb := tbm (List.mem_of_getElem? (i := 117) (by decide +kernel)) (by decide +kernel)
theorem fl_RX4_126 : Cond.fieldLink RX4 126 "TermScan$Lexicon" "endings" "[J" ∈ gtb := tbm (List.mem_of_getElem? (i := 118) (by decide +kernel)) (by decide +kernel)
theorem fl_RX7_169 : Cond.fieldLink RX7 169 "TermScan$Lexicon" "endings" "[J" ∈ gtb := tbm (List.mem_of_getElem? (i := 119) (by decide +kernel)) (by decide +kernel)
theorem fl_RX7_287 : Cond.fieldLink RX7 287 "TermScan$Lexicon" "kept" "Z" ∈ gtb := tbm (List.mem_of_getElem? (i := 120) (by decide +kernel)) (by decide +kernel)
theorem ml_RX7_29 : Cond.methodLink RX7 29 yX6_init ∈ gtb := tbm (List.mem_of_getElem? (i := 143) (by decide +kernel)) (by decide +kernel)
theorem im_yX6_init : Cond.instanceMethod yX6_init ∈ gtb := tbm (List.mem_of_getElem? (i := 144) (by decide +kernel)) (by decide +kernel)
theorem cd_yX6_init : Cond.code yX6_init cX6_init 1 (Option.none : Option Jvm.ClassFile.FieldType) ∈ gtb := tbm (List.mem_of_getElem? (i := 145) (by decide +kernel)) (by decide +kernel)
theorem ml_RX6_3 : Cond.methodLink RX6 3 objectInit ∈ gtb := tbm (List.mem_of_getElem? (i := 146) (by decide +kernel)) (by decide +kernel)
theorem fl_RX6_23 : Cond.fieldLink RX6 23 "TermScan$Text" "count" "I" ∈ gtb := tbm (List.mem_of_getElem? (i := 147) (by decide +kernel)) (by decide +kernel)
theorem fl_RX3_39 : Cond.fieldLink RX3 39 "TermScan$Text" "count" "I" ∈ gtb := tbm (List.mem_of_getElem? (i := 148) (by decide +kernel)) (by decide +kernel)
theorem fl_RX4_60 : Cond.fieldLink RX4 60 "TermScan$Text" "count" "I" ∈ gtb := tbm (List.mem_of_getElem? (i := 149) (by decide +kernel)) (by decide +kernel)
theorem fl_RX7_190 : Cond.fieldLink RX7 190 "TermScan$Text" "count" "I" ∈ gtb := tbm (List.mem_of_getElem? (i := 150) (by decide +kernel)) (by decide +kernel)
theorem fl_RX6_11 : Cond.fieldLink RX6 11 "TermScan$Text" "words" "[J" ∈ gtb := tbm (List.mem_of_getElem? (i := 151) (by decide +kernel)) (by decide +kernel)
theorem fl_RX3_48 : Cond.fieldLink RX3 48 "TermScan$Text" "words" "[J" ∈ gtb := tbm (List.mem_of_getElem? (i := 152) (by decide +kernel)) (by decide +kernel)
theorem fl_RX4_96 : Cond.fieldLink RX4 96 "TermScan$Text" "words" "[J" ∈ gtb := tbm (List.mem_of_getElem? (i := 153) (by decide +kernel)) (by decide +kernel)
theorem fl_RX7_209 : Cond.fieldLink RX7 209 "TermScan$Text" "words" "[J" ∈ gtb := tbm (List.mem_of_getElem? (i := 154) (by decide +kernel)) (by decide +kernel)
theorem fl_RX6_15 : Cond.fieldLink RX6 15 "TermScan$Text" "tooLong" "[Z" ∈ gtb := tbm (List.mem_of_getElem? (i := 155) (by decide +kernel)) (by decide +kernel)
theorem fl_RX4_92 : Cond.fieldLink RX4 92 "TermScan$Text" "tooLong" "[Z" ∈ gtb := tbm (List.mem_of_getElem? (i := 156) (by decide +kernel)) (by decide +kernel)
theorem fl_RX7_213 : Cond.fieldLink RX7 213 "TermScan$Text" "tooLong" "[Z" ∈ gtb := tbm (List.mem_of_getElem? (i := 157) (by decide +kernel)) (by decide +kernel)
theorem fl_RX6_19 : Cond.fieldLink RX6 19 "TermScan$Text" "sentences" "[I" ∈ gtb := tbm (List.mem_of_getElem? (i := 158) (by decide +kernel)) (by decide +kernel)
theorem fl_RX7_210 : Cond.fieldLink RX7 210 "TermScan$Text" "sentences" "[I" ∈ gtb := tbm (List.mem_of_getElem? (i := 159) (by decide +kernel)) (by decide +kernel)
theorem fl_RX6_27 : Cond.fieldLink RX6 27 "TermScan$Text" "sentencesEnded" "I" ∈ gtb := tbm (List.mem_of_getElem? (i := 160) (by decide +kernel)) (by decide +kernel)
theorem fl_RX7_226 : Cond.fieldLink RX7 226 "TermScan$Text" "sentencesEnded" "I" ∈ gtb := tbm (List.mem_of_getElem? (i := 161) (by decide +kernel)) (by decide +kernel)
theorem fl_RX6_30 : Cond.fieldLink RX6 30 "TermScan$Text" "coming" "J" ∈ gtb := tbm (List.mem_of_getElem? (i := 162) (by decide +kernel)) (by decide +kernel)
theorem fl_RX7_229 : Cond.fieldLink RX7 229 "TermScan$Text" "coming" "J" ∈ gtb := tbm (List.mem_of_getElem? (i := 163) (by decide +kernel)) (by decide +kernel)
theorem fl_RX6_34 : Cond.fieldLink RX6 34 "TermScan$Text" "comingTooLong" "Z" ∈ gtb := tbm (List.mem_of_getElem? (i := 164) (by decide +kernel)) (by decide +kernel)
theorem ml_RX7_36 : Cond.methodLink RX7 36 yX4_init ∈ gtb := tbm (List.mem_of_getElem? (i := 183) (by decide +kernel)) (by decide +kernel)
theorem im_yX4_init : Cond.instanceMethod yX4_init ∈ gtb := tbm (List.mem_of_getElem? (i := 184) (by decide +kernel)) (by decide +kernel)
theorem cd_yX4_init : Cond.code yX4_init cX4_init 3 (Option.none : Option Jvm.ClassFile.FieldType) ∈ gtb := tbm (List.mem_of_getElem? (i := 185) (by decide +kernel)) (by decide +kernel)
theorem ml_RX4_3 : Cond.methodLink RX4 3 objectInit ∈ gtb := tbm (List.mem_of_getElem? (i := 186) (by decide +kernel)) (by decide +kernel)
theorem fl_RX4_9 : Cond.fieldLink RX4 9 "TermScan$Scan" "lexicon" "LTermScan$Lexicon;" ∈ gtb := tbm (List.mem_of_getElem? (i := 187) (by decide +kernel)) (by decide +kernel)
theorem fl_RX4_15 : Cond.fieldLink RX4 15 "TermScan$Scan" "text" "LTermScan$Text;" ∈ gtb := tbm (List.mem_of_getElem? (i := 188) (by decide +kernel)) (by decide +kernel)
theorem fl_RX4_52 : Cond.fieldLink RX4 52 "TermScan$Scan" "looked" "I" ∈ gtb := tbm (List.mem_of_getElem? (i := 189) (by decide +kernel)) (by decide +kernel)
theorem fl_RX4_56 : Cond.fieldLink RX4 56 "TermScan$Scan" "settled" "Z" ∈ gtb := tbm (List.mem_of_getElem? (i := 190) (by decide +kernel)) (by decide +kernel)
theorem fl_RX4_21 : Cond.fieldLink RX4 21 "TermScan$Scan" "forms" "[J" ∈ gtb := tbm (List.mem_of_getElem? (i := 191) (by decide +kernel)) (by decide +kernel)
theorem fl_RX4_106 : Cond.fieldLink RX4 106 "TermScan$Scan" "formCount" "I" ∈ gtb := tbm (List.mem_of_getElem? (i := 192) (by decide +kernel)) (by decide +kernel)
theorem fl_RX4_27 : Cond.fieldLink RX4 27 "TermScan$Scan" "begun" "[I" ∈ gtb := tbm (List.mem_of_getElem? (i := 193) (by decide +kernel)) (by decide +kernel)
theorem fl_RX4_31 : Cond.fieldLink RX4 31 "TermScan$Scan" "starts" "[I" ∈ gtb := tbm (List.mem_of_getElem? (i := 194) (by decide +kernel)) (by decide +kernel)
theorem fl_RX4_34 : Cond.fieldLink RX4 34 "TermScan$Scan" "worths" "[I" ∈ gtb := tbm (List.mem_of_getElem? (i := 195) (by decide +kernel)) (by decide +kernel)
theorem fl_RX7_239 : Cond.fieldLink RX7 239 "TermScan$Scan" "worths" "[I" ∈ gtb := tbm (List.mem_of_getElem? (i := 196) (by decide +kernel)) (by decide +kernel)
theorem fl_RX4_37 : Cond.fieldLink RX4 37 "TermScan$Scan" "fewest" "[I" ∈ gtb := tbm (List.mem_of_getElem? (i := 197) (by decide +kernel)) (by decide +kernel)
theorem fl_RX4_40 : Cond.fieldLink RX4 40 "TermScan$Scan" "takes" "[I" ∈ gtb := tbm (List.mem_of_getElem? (i := 198) (by decide +kernel)) (by decide +kernel)
theorem fl_RX4_147 : Cond.fieldLink RX4 147 "TermScan$Scan" "chosenCount" "I" ∈ gtb := tbm (List.mem_of_getElem? (i := 199) (by decide +kernel)) (by decide +kernel)
theorem fl_RX7_236 : Cond.fieldLink RX7 236 "TermScan$Scan" "chosenCount" "I" ∈ gtb := tbm (List.mem_of_getElem? (i := 200) (by decide +kernel)) (by decide +kernel)
theorem fl_RX4_43 : Cond.fieldLink RX4 43 "TermScan$Scan" "chosenAt" "[I" ∈ gtb := tbm (List.mem_of_getElem? (i := 201) (by decide +kernel)) (by decide +kernel)
theorem fl_RX3_56 : Cond.fieldLink RX3 56 "TermScan$Scan" "chosenAt" "[I" ∈ gtb := tbm (List.mem_of_getElem? (i := 202) (by decide +kernel)) (by decide +kernel)
theorem fl_RX7_269 : Cond.fieldLink RX7 269 "TermScan$Scan" "chosenAt" "[I" ∈ gtb := tbm (List.mem_of_getElem? (i := 203) (by decide +kernel)) (by decide +kernel)
theorem fl_RX4_46 : Cond.fieldLink RX4 46 "TermScan$Scan" "chosenTerms" "[I" ∈ gtb := tbm (List.mem_of_getElem? (i := 204) (by decide +kernel)) (by decide +kernel)
theorem fl_RX7_266 : Cond.fieldLink RX7 266 "TermScan$Scan" "chosenTerms" "[I" ∈ gtb := tbm (List.mem_of_getElem? (i := 205) (by decide +kernel)) (by decide +kernel)
theorem fl_RX4_49 : Cond.fieldLink RX4 49 "TermScan$Scan" "chosenOver" "[I" ∈ gtb := tbm (List.mem_of_getElem? (i := 206) (by decide +kernel)) (by decide +kernel)
theorem fl_RX3_60 : Cond.fieldLink RX3 60 "TermScan$Scan" "chosenOver" "[I" ∈ gtb := tbm (List.mem_of_getElem? (i := 207) (by decide +kernel)) (by decide +kernel)
theorem fl_RX7_223 : Cond.fieldLink RX7 223 "TermScan$Scan" "chosenOver" "[I" ∈ gtb := tbm (List.mem_of_getElem? (i := 208) (by decide +kernel)) (by decide +kernel)
theorem ml_RX7_45 : Cond.methodLink RX7 45 yX3_init ∈ gtb := tbm (List.mem_of_getElem? (i := 242) (by decide +kernel)) (by decide +kernel)
theorem im_yX3_init : Cond.instanceMethod yX3_init ∈ gtb := tbm (List.mem_of_getElem? (i := 243) (by decide +kernel)) (by decide +kernel)
theorem cd_yX3_init : Cond.code yX3_init cX3_init 4 (Option.none : Option Jvm.ClassFile.FieldType) ∈ gtb := tbm (List.mem_of_getElem? (i := 244) (by decide +kernel)) (by decide +kernel)
theorem ml_RX3_7 : Cond.methodLink RX3 7 objectInit ∈ gtb := tbm (List.mem_of_getElem? (i := 245) (by decide +kernel)) (by decide +kernel)
theorem fl_RX3_13 : Cond.fieldLink RX3 13 "TermScan$Mended" "lexicon" "LTermScan$Lexicon;" ∈ gtb := tbm (List.mem_of_getElem? (i := 246) (by decide +kernel)) (by decide +kernel)
theorem fl_RX3_19 : Cond.fieldLink RX3 19 "TermScan$Mended" "text" "LTermScan$Text;" ∈ gtb := tbm (List.mem_of_getElem? (i := 247) (by decide +kernel)) (by decide +kernel)
theorem fl_RX3_23 : Cond.fieldLink RX3 23 "TermScan$Mended" "scan" "LTermScan$Scan;" ∈ gtb := tbm (List.mem_of_getElem? (i := 248) (by decide +kernel)) (by decide +kernel)
theorem fl_RX3_27 : Cond.fieldLink RX3 27 "TermScan$Mended" "signs" "[C" ∈ gtb := tbm (List.mem_of_getElem? (i := 249) (by decide +kernel)) (by decide +kernel)
theorem fl_RX7_275 : Cond.fieldLink RX7 275 "TermScan$Mended" "signs" "[C" ∈ gtb := tbm (List.mem_of_getElem? (i := 250) (by decide +kernel)) (by decide +kernel)
theorem fl_RX3_35 : Cond.fieldLink RX3 35 "TermScan$Mended" "size" "I" ∈ gtb := tbm (List.mem_of_getElem? (i := 251) (by decide +kernel)) (by decide +kernel)
theorem fl_RX7_252 : Cond.fieldLink RX7 252 "TermScan$Mended" "size" "I" ∈ gtb := tbm (List.mem_of_getElem? (i := 252) (by decide +kernel)) (by decide +kernel)
theorem fl_RX3_31 : Cond.fieldLink RX3 31 "TermScan$Mended" "fresh" "Z" ∈ gtb := tbm (List.mem_of_getElem? (i := 253) (by decide +kernel)) (by decide +kernel)
theorem im_yX2_init : Cond.instanceMethod yX2_init ∈ gtb := tbm (List.mem_of_getElem? (i := 271) (by decide +kernel)) (by decide +kernel)
theorem cd_yX2_init : Cond.code yX2_init cX2_init 1 (Option.none : Option Jvm.ClassFile.FieldType) ∈ gtb := tbm (List.mem_of_getElem? (i := 272) (by decide +kernel)) (by decide +kernel)
theorem ml_RX2_1 : Cond.methodLink RX2 1 objectInit ∈ gtb := tbm (List.mem_of_getElem? (i := 273) (by decide +kernel)) (by decide +kernel)
theorem fl_RX2_7 : Cond.fieldLink RX2 7 "TermScan$Lots" "x" "J" ∈ gtb := tbm (List.mem_of_getElem? (i := 274) (by decide +kernel)) (by decide +kernel)
theorem fl_RX7_10 : Cond.fieldLink RX7 10 "TermScan" "slip" "LTermScan$Slip;" ∈ gtb := tbm (List.mem_of_getElem? (i := 278) (by decide +kernel)) (by decide +kernel)
theorem fl_RX7_19 : Cond.fieldLink RX7 19 "TermScan" "lexicon" "LTermScan$Lexicon;" ∈ gtb := tbm (List.mem_of_getElem? (i := 279) (by decide +kernel)) (by decide +kernel)
theorem fl_RX7_23 : Cond.fieldLink RX7 23 "TermScan" "images" "[LTermScan$Lexicon;" ∈ gtb := tbm (List.mem_of_getElem? (i := 280) (by decide +kernel)) (by decide +kernel)
theorem fl_RX7_30 : Cond.fieldLink RX7 30 "TermScan" "text" "LTermScan$Text;" ∈ gtb := tbm (List.mem_of_getElem? (i := 281) (by decide +kernel)) (by decide +kernel)
theorem fl_RX7_39 : Cond.fieldLink RX7 39 "TermScan" "scan" "LTermScan$Scan;" ∈ gtb := tbm (List.mem_of_getElem? (i := 282) (by decide +kernel)) (by decide +kernel)
theorem fl_RX7_48 : Cond.fieldLink RX7 48 "TermScan" "mended" "LTermScan$Mended;" ∈ gtb := tbm (List.mem_of_getElem? (i := 283) (by decide +kernel)) (by decide +kernel)
theorem fl_RX7_55 : Cond.fieldLink RX7 55 "TermScan" "lots" "LTermScan$Lots;" ∈ gtb := tbm (List.mem_of_getElem? (i := 284) (by decide +kernel)) (by decide +kernel)
theorem ml_RL_13 : Cond.methodLink RL 13 yX7_spell ∈ gtb := tbm (List.mem_of_getElem? (i := 300) (by decide +kernel)) (by decide +kernel)
theorem im_yX7_spell : Cond.instanceMethod yX7_spell ∈ gtb := tbm (List.mem_of_getElem? (i := 301) (by decide +kernel)) (by decide +kernel)
theorem se_yX7_spell : Cond.selects RX7 yX7_spell yX7_spell ∈ gtb := tbm (List.mem_of_getElem? (i := 302) (by decide +kernel)) (by decide +kernel)
theorem cd_yX7_spell : Cond.code yX7_spell cX7_spell 2 (Option.some Jvm.ClassFile.FieldType.int) ∈ gtb := tbm (List.mem_of_getElem? (i := 303) (by decide +kernel)) (by decide +kernel)
theorem ml_RX7_59 : Cond.methodLink RX7 59 yX0_isLetter ∈ gtb := tbm (List.mem_of_getElem? (i := 304) (by decide +kernel)) (by decide +kernel)
theorem st_yX0_isLetter : Cond.static yX0_isLetter ∈ gtb := tbm (List.mem_of_getElem? (i := 305) (by decide +kernel)) (by decide +kernel)
theorem cd_yX0_isLetter : Cond.code yX0_isLetter cX0_isLetter 1 (Option.some Jvm.ClassFile.FieldType.boolean) ∈ gtb := tbm (List.mem_of_getElem? (i := 306) (by decide +kernel)) (by decide +kernel)
theorem kc_RX7_65 : Cond.constant RX7 65 (-1000000002 : Int32) ∈ gtb := tbm (List.mem_of_getElem? (i := 307) (by decide +kernel)) (by decide +kernel)
theorem ml_RX7_66 : Cond.methodLink RX7 66 yX5_add ∈ gtb := tbm (List.mem_of_getElem? (i := 308) (by decide +kernel)) (by decide +kernel)
theorem im_yX5_add : Cond.instanceMethod yX5_add ∈ gtb := tbm (List.mem_of_getElem? (i := 309) (by decide +kernel)) (by decide +kernel)
theorem se_yX5_add : Cond.selects RX5 yX5_add yX5_add ∈ gtb := tbm (List.mem_of_getElem? (i := 310) (by decide +kernel)) (by decide +kernel)
theorem cd_yX5_add : Cond.code yX5_add cX5_add 2 (Option.some Jvm.ClassFile.FieldType.boolean) ∈ gtb := tbm (List.mem_of_getElem? (i := 311) (by decide +kernel)) (by decide +kernel)
theorem kc_RX7_73 : Cond.constant RX7 73 (-1000000004 : Int32) ∈ gtb := tbm (List.mem_of_getElem? (i := 312) (by decide +kernel)) (by decide +kernel)
theorem ml_RL_18 : Cond.methodLink RL 18 yX7_term ∈ gtb := tbm (List.mem_of_getElem? (i := 313) (by decide +kernel)) (by decide +kernel)
theorem im_yX7_term : Cond.instanceMethod yX7_term ∈ gtb := tbm (List.mem_of_getElem? (i := 314) (by decide +kernel)) (by decide +kernel)
theorem se_yX7_term : Cond.selects RX7 yX7_term yX7_term ∈ gtb := tbm (List.mem_of_getElem? (i := 315) (by decide +kernel)) (by decide +kernel)
theorem cd_yX7_term : Cond.code yX7_term cX7_term 5 (Option.some Jvm.ClassFile.FieldType.int) ∈ gtb := tbm (List.mem_of_getElem? (i := 316) (by decide +kernel)) (by decide +kernel)
theorem ml_RX7_74 : Cond.methodLink RX7 74 yX7_isWeight ∈ gtb := tbm (List.mem_of_getElem? (i := 317) (by decide +kernel)) (by decide +kernel)
theorem st_yX7_isWeight : Cond.static yX7_isWeight ∈ gtb := tbm (List.mem_of_getElem? (i := 318) (by decide +kernel)) (by decide +kernel)
theorem cd_yX7_isWeight : Cond.code yX7_isWeight cX7_isWeight 1 (Option.some Jvm.ClassFile.FieldType.boolean) ∈ gtb := tbm (List.mem_of_getElem? (i := 319) (by decide +kernel)) (by decide +kernel)
theorem ml_RX7_77 : Cond.methodLink RX7 77 yX7_isBent ∈ gtb := tbm (List.mem_of_getElem? (i := 320) (by decide +kernel)) (by decide +kernel)
theorem st_yX7_isBent : Cond.static yX7_isBent ∈ gtb := tbm (List.mem_of_getElem? (i := 321) (by decide +kernel)) (by decide +kernel)
theorem cd_yX7_isBent : Cond.code yX7_isBent cX7_isBent 1 (Option.some Jvm.ClassFile.FieldType.boolean) ∈ gtb := tbm (List.mem_of_getElem? (i := 322) (by decide +kernel)) (by decide +kernel)
theorem ml_RX7_80 : Cond.methodLink RX7 80 yX5_takeWords ∈ gtb := tbm (List.mem_of_getElem? (i := 323) (by decide +kernel)) (by decide +kernel)
theorem im_yX5_takeWords : Cond.instanceMethod yX5_takeWords ∈ gtb := tbm (List.mem_of_getElem? (i := 324) (by decide +kernel)) (by decide +kernel)
theorem se_yX5_takeWords : Cond.selects RX5 yX5_takeWords yX5_takeWords ∈ gtb := tbm (List.mem_of_getElem? (i := 325) (by decide +kernel)) (by decide +kernel)
theorem cd_yX5_takeWords : Cond.code yX5_takeWords cX5_takeWords 7 (Option.some Jvm.ClassFile.FieldType.int) ∈ gtb := tbm (List.mem_of_getElem? (i := 326) (by decide +kernel)) (by decide +kernel)
theorem ml_RX5_27 : Cond.methodLink RX5 27 yX0_with ∈ gtb := tbm (List.mem_of_getElem? (i := 327) (by decide +kernel)) (by decide +kernel)
theorem st_yX0_with : Cond.static yX0_with ∈ gtb := tbm (List.mem_of_getElem? (i := 328) (by decide +kernel)) (by decide +kernel)
theorem cd_yX0_with : Cond.code yX0_with cX0_with 4 (Option.some Jvm.ClassFile.FieldType.long) ∈ gtb := tbm (List.mem_of_getElem? (i := 329) (by decide +kernel)) (by decide +kernel)
theorem ml_RX7_88 : Cond.methodLink RX7 88 yX1_hasTerm ∈ gtb := tbm (List.mem_of_getElem? (i := 330) (by decide +kernel)) (by decide +kernel)
theorem im_yX1_hasTerm : Cond.instanceMethod yX1_hasTerm ∈ gtb := tbm (List.mem_of_getElem? (i := 331) (by decide +kernel)) (by decide +kernel)
theorem se_yX1_hasTerm : Cond.selects RX1 yX1_hasTerm yX1_hasTerm ∈ gtb := tbm (List.mem_of_getElem? (i := 332) (by decide +kernel)) (by decide +kernel)
theorem cd_yX1_hasTerm : Cond.code yX1_hasTerm cX1_hasTerm 4 (Option.some Jvm.ClassFile.FieldType.boolean) ∈ gtb := tbm (List.mem_of_getElem? (i := 333) (by decide +kernel)) (by decide +kernel)
theorem ml_RX1_52 : Cond.methodLink RX1 52 yX1_hasWords ∈ gtb := tbm (List.mem_of_getElem? (i := 334) (by decide +kernel)) (by decide +kernel)
theorem im_yX1_hasWords : Cond.instanceMethod yX1_hasWords ∈ gtb := tbm (List.mem_of_getElem? (i := 336) (by decide +kernel)) (by decide +kernel)
theorem cd_yX1_hasWords : Cond.code yX1_hasWords cX1_hasWords 4 (Option.some Jvm.ClassFile.FieldType.boolean) ∈ gtb := tbm (List.mem_of_getElem? (i := 337) (by decide +kernel)) (by decide +kernel)
theorem ml_RX1_56 : Cond.methodLink RX1 56 yX1_wordOf ∈ gtb := tbm (List.mem_of_getElem? (i := 338) (by decide +kernel)) (by decide +kernel)
theorem im_yX1_wordOf : Cond.instanceMethod yX1_wordOf ∈ gtb := tbm (List.mem_of_getElem? (i := 339) (by decide +kernel)) (by decide +kernel)
theorem se_yX1_wordOf : Cond.selects RX1 yX1_wordOf yX1_wordOf ∈ gtb := tbm (List.mem_of_getElem? (i := 340) (by decide +kernel)) (by decide +kernel)
theorem cd_yX1_wordOf : Cond.code yX1_wordOf cX1_wordOf 3 (Option.some Jvm.ClassFile.FieldType.long) ∈ gtb := tbm (List.mem_of_getElem? (i := 341) (by decide +kernel)) (by decide +kernel)
theorem kc_RX7_92 : Cond.constant RX7 92 (-1000000003 : Int32) ∈ gtb := tbm (List.mem_of_getElem? (i := 342) (by decide +kernel)) (by decide +kernel)
theorem ml_RX7_93 : Cond.methodLink RX7 93 yX1_addTerm ∈ gtb := tbm (List.mem_of_getElem? (i := 343) (by decide +kernel)) (by decide +kernel)
theorem im_yX1_addTerm : Cond.instanceMethod yX1_addTerm ∈ gtb := tbm (List.mem_of_getElem? (i := 344) (by decide +kernel)) (by decide +kernel)
theorem se_yX1_addTerm : Cond.selects RX1 yX1_addTerm yX1_addTerm ∈ gtb := tbm (List.mem_of_getElem? (i := 345) (by decide +kernel)) (by decide +kernel)
theorem cd_yX1_addTerm : Cond.code yX1_addTerm cX1_addTerm 7 (Option.some Jvm.ClassFile.FieldType.int) ∈ gtb := tbm (List.mem_of_getElem? (i := 346) (by decide +kernel)) (by decide +kernel)
theorem ml_RX7_97 : Cond.methodLink RX7 97 yX7_termsChanged ∈ gtb := tbm (List.mem_of_getElem? (i := 347) (by decide +kernel)) (by decide +kernel)
theorem im_yX7_termsChanged : Cond.instanceMethod yX7_termsChanged ∈ gtb := tbm (List.mem_of_getElem? (i := 349) (by decide +kernel)) (by decide +kernel)
theorem cd_yX7_termsChanged : Cond.code yX7_termsChanged cX7_termsChanged 1 (Option.none : Option Jvm.ClassFile.FieldType) ∈ gtb := tbm (List.mem_of_getElem? (i := 350) (by decide +kernel)) (by decide +kernel)
theorem ml_RX7_196 : Cond.methodLink RX7 196 yX4_forget ∈ gtb := tbm (List.mem_of_getElem? (i := 351) (by decide +kernel)) (by decide +kernel)
theorem im_yX4_forget : Cond.instanceMethod yX4_forget ∈ gtb := tbm (List.mem_of_getElem? (i := 352) (by decide +kernel)) (by decide +kernel)
theorem se_yX4_forget : Cond.selects RX4 yX4_forget yX4_forget ∈ gtb := tbm (List.mem_of_getElem? (i := 353) (by decide +kernel)) (by decide +kernel)
theorem cd_yX4_forget : Cond.code yX4_forget cX4_forget 1 (Option.none : Option Jvm.ClassFile.FieldType) ∈ gtb := tbm (List.mem_of_getElem? (i := 354) (by decide +kernel)) (by decide +kernel)
theorem ml_RX7_291 : Cond.methodLink RX7 291 yX3_forget ∈ gtb := tbm (List.mem_of_getElem? (i := 355) (by decide +kernel)) (by decide +kernel)
theorem im_yX3_forget : Cond.instanceMethod yX3_forget ∈ gtb := tbm (List.mem_of_getElem? (i := 356) (by decide +kernel)) (by decide +kernel)
theorem se_yX3_forget : Cond.selects RX3 yX3_forget yX3_forget ∈ gtb := tbm (List.mem_of_getElem? (i := 357) (by decide +kernel)) (by decide +kernel)
theorem cd_yX3_forget : Cond.code yX3_forget cX3_forget 1 (Option.none : Option Jvm.ClassFile.FieldType) ∈ gtb := tbm (List.mem_of_getElem? (i := 358) (by decide +kernel)) (by decide +kernel)
theorem ml_RL_23 : Cond.methodLink RL 23 yX7_ending ∈ gtb := tbm (List.mem_of_getElem? (i := 359) (by decide +kernel)) (by decide +kernel)
theorem im_yX7_ending : Cond.instanceMethod yX7_ending ∈ gtb := tbm (List.mem_of_getElem? (i := 360) (by decide +kernel)) (by decide +kernel)
theorem se_yX7_ending : Cond.selects RX7 yX7_ending yX7_ending ∈ gtb := tbm (List.mem_of_getElem? (i := 361) (by decide +kernel)) (by decide +kernel)
theorem cd_yX7_ending : Cond.code yX7_ending cX7_ending 5 (Option.some Jvm.ClassFile.FieldType.int) ∈ gtb := tbm (List.mem_of_getElem? (i := 362) (by decide +kernel)) (by decide +kernel)
theorem ml_RX7_100 : Cond.methodLink RX7 100 yX0_sizeOf ∈ gtb := tbm (List.mem_of_getElem? (i := 363) (by decide +kernel)) (by decide +kernel)
theorem st_yX0_sizeOf : Cond.static yX0_sizeOf ∈ gtb := tbm (List.mem_of_getElem? (i := 364) (by decide +kernel)) (by decide +kernel)
theorem cd_yX0_sizeOf : Cond.code yX0_sizeOf cX0_sizeOf 3 (Option.some Jvm.ClassFile.FieldType.int) ∈ gtb := tbm (List.mem_of_getElem? (i := 365) (by decide +kernel)) (by decide +kernel)
theorem ml_RX7_104 : Cond.methodLink RX7 104 yX1_hasEnding ∈ gtb := tbm (List.mem_of_getElem? (i := 366) (by decide +kernel)) (by decide +kernel)
theorem im_yX1_hasEnding : Cond.instanceMethod yX1_hasEnding ∈ gtb := tbm (List.mem_of_getElem? (i := 367) (by decide +kernel)) (by decide +kernel)
theorem se_yX1_hasEnding : Cond.selects RX1 yX1_hasEnding yX1_hasEnding ∈ gtb := tbm (List.mem_of_getElem? (i := 368) (by decide +kernel)) (by decide +kernel)
theorem cd_yX1_hasEnding : Cond.code yX1_hasEnding cX1_hasEnding 4 (Option.some Jvm.ClassFile.FieldType.boolean) ∈ gtb := tbm (List.mem_of_getElem? (i := 369) (by decide +kernel)) (by decide +kernel)
theorem ml_RX7_108 : Cond.methodLink RX7 108 yX1_addEnding ∈ gtb := tbm (List.mem_of_getElem? (i := 370) (by decide +kernel)) (by decide +kernel)
theorem im_yX1_addEnding : Cond.instanceMethod yX1_addEnding ∈ gtb := tbm (List.mem_of_getElem? (i := 371) (by decide +kernel)) (by decide +kernel)
theorem se_yX1_addEnding : Cond.selects RX1 yX1_addEnding yX1_addEnding ∈ gtb := tbm (List.mem_of_getElem? (i := 372) (by decide +kernel)) (by decide +kernel)
theorem cd_yX1_addEnding : Cond.code yX1_addEnding cX1_addEnding 3 (Option.some Jvm.ClassFile.FieldType.int) ∈ gtb := tbm (List.mem_of_getElem? (i := 373) (by decide +kernel)) (by decide +kernel)
theorem ml_RL_28 : Cond.methodLink RL 28 yX7_dropTerm ∈ gtb := tbm (List.mem_of_getElem? (i := 374) (by decide +kernel)) (by decide +kernel)
theorem im_yX7_dropTerm : Cond.instanceMethod yX7_dropTerm ∈ gtb := tbm (List.mem_of_getElem? (i := 375) (by decide +kernel)) (by decide +kernel)
theorem se_yX7_dropTerm : Cond.selects RX7 yX7_dropTerm yX7_dropTerm ∈ gtb := tbm (List.mem_of_getElem? (i := 376) (by decide +kernel)) (by decide +kernel)
theorem cd_yX7_dropTerm : Cond.code yX7_dropTerm cX7_dropTerm 2 (Option.some Jvm.ClassFile.FieldType.int) ∈ gtb := tbm (List.mem_of_getElem? (i := 377) (by decide +kernel)) (by decide +kernel)
theorem ml_RX7_111 : Cond.methodLink RX7 111 yX1_isTerm ∈ gtb := tbm (List.mem_of_getElem? (i := 378) (by decide +kernel)) (by decide +kernel)
theorem im_yX1_isTerm : Cond.instanceMethod yX1_isTerm ∈ gtb := tbm (List.mem_of_getElem? (i := 379) (by decide +kernel)) (by decide +kernel)
theorem se_yX1_isTerm : Cond.selects RX1 yX1_isTerm yX1_isTerm ∈ gtb := tbm (List.mem_of_getElem? (i := 380) (by decide +kernel)) (by decide +kernel)
theorem cd_yX1_isTerm : Cond.code yX1_isTerm cX1_isTerm 2 (Option.some Jvm.ClassFile.FieldType.boolean) ∈ gtb := tbm (List.mem_of_getElem? (i := 381) (by decide +kernel)) (by decide +kernel)
theorem kc_RX7_114 : Cond.constant RX7 114 (-1000000001 : Int32) ∈ gtb := tbm (List.mem_of_getElem? (i := 382) (by decide +kernel)) (by decide +kernel)
theorem ml_RX7_115 : Cond.methodLink RX7 115 yX1_isPreferred ∈ gtb := tbm (List.mem_of_getElem? (i := 383) (by decide +kernel)) (by decide +kernel)
theorem im_yX1_isPreferred : Cond.instanceMethod yX1_isPreferred ∈ gtb := tbm (List.mem_of_getElem? (i := 384) (by decide +kernel)) (by decide +kernel)
theorem se_yX1_isPreferred : Cond.selects RX1 yX1_isPreferred yX1_isPreferred ∈ gtb := tbm (List.mem_of_getElem? (i := 385) (by decide +kernel)) (by decide +kernel)
theorem cd_yX1_isPreferred : Cond.code yX1_isPreferred cX1_isPreferred 3 (Option.some Jvm.ClassFile.FieldType.boolean) ∈ gtb := tbm (List.mem_of_getElem? (i := 386) (by decide +kernel)) (by decide +kernel)
theorem ml_RX7_118 : Cond.methodLink RX7 118 yX1_removeTerm ∈ gtb := tbm (List.mem_of_getElem? (i := 387) (by decide +kernel)) (by decide +kernel)
theorem im_yX1_removeTerm : Cond.instanceMethod yX1_removeTerm ∈ gtb := tbm (List.mem_of_getElem? (i := 388) (by decide +kernel)) (by decide +kernel)
theorem se_yX1_removeTerm : Cond.selects RX1 yX1_removeTerm yX1_removeTerm ∈ gtb := tbm (List.mem_of_getElem? (i := 389) (by decide +kernel)) (by decide +kernel)
theorem cd_yX1_removeTerm : Cond.code yX1_removeTerm cX1_removeTerm 3 (Option.none : Option Jvm.ClassFile.FieldType) ∈ gtb := tbm (List.mem_of_getElem? (i := 390) (by decide +kernel)) (by decide +kernel)
theorem ml_RX1_35 : Cond.methodLink RX1 35 yX1_copyTerm ∈ gtb := tbm (List.mem_of_getElem? (i := 391) (by decide +kernel)) (by decide +kernel)
theorem im_yX1_copyTerm : Cond.instanceMethod yX1_copyTerm ∈ gtb := tbm (List.mem_of_getElem? (i := 393) (by decide +kernel)) (by decide +kernel)
theorem cd_yX1_copyTerm : Cond.code yX1_copyTerm cX1_copyTerm 4 (Option.none : Option Jvm.ClassFile.FieldType) ∈ gtb := tbm (List.mem_of_getElem? (i := 394) (by decide +kernel)) (by decide +kernel)
theorem ml_RX1_42 : Cond.methodLink RX1 42 arraycopyName ∈ gtb := tbm (List.mem_of_getElem? (i := 395) (by decide +kernel)) (by decide +kernel)
theorem cpy_stat : Cond.static arraycopyName ∈ gtb := tbm (List.mem_of_getElem? (i := 396) (by decide +kernel)) (by decide +kernel)
theorem cpy_nat : Cond.native arraycopyName ∈ gtb := tbm (List.mem_of_getElem? (i := 397) (by decide +kernel)) (by decide +kernel)
theorem ml_RL_32 : Cond.methodLink RL 32 yX7_dropEnding ∈ gtb := tbm (List.mem_of_getElem? (i := 398) (by decide +kernel)) (by decide +kernel)
theorem im_yX7_dropEnding : Cond.instanceMethod yX7_dropEnding ∈ gtb := tbm (List.mem_of_getElem? (i := 399) (by decide +kernel)) (by decide +kernel)
theorem se_yX7_dropEnding : Cond.selects RX7 yX7_dropEnding yX7_dropEnding ∈ gtb := tbm (List.mem_of_getElem? (i := 400) (by decide +kernel)) (by decide +kernel)
theorem cd_yX7_dropEnding : Cond.code yX7_dropEnding cX7_dropEnding 2 (Option.some Jvm.ClassFile.FieldType.int) ∈ gtb := tbm (List.mem_of_getElem? (i := 401) (by decide +kernel)) (by decide +kernel)
theorem ml_RX7_125 : Cond.methodLink RX7 125 yX1_isEnding ∈ gtb := tbm (List.mem_of_getElem? (i := 402) (by decide +kernel)) (by decide +kernel)
theorem im_yX1_isEnding : Cond.instanceMethod yX1_isEnding ∈ gtb := tbm (List.mem_of_getElem? (i := 403) (by decide +kernel)) (by decide +kernel)
theorem se_yX1_isEnding : Cond.selects RX1 yX1_isEnding yX1_isEnding ∈ gtb := tbm (List.mem_of_getElem? (i := 404) (by decide +kernel)) (by decide +kernel)
theorem cd_yX1_isEnding : Cond.code yX1_isEnding cX1_isEnding 2 (Option.some Jvm.ClassFile.FieldType.boolean) ∈ gtb := tbm (List.mem_of_getElem? (i := 405) (by decide +kernel)) (by decide +kernel)
theorem ml_RX7_128 : Cond.methodLink RX7 128 yX1_removeEnding ∈ gtb := tbm (List.mem_of_getElem? (i := 406) (by decide +kernel)) (by decide +kernel)
theorem im_yX1_removeEnding : Cond.instanceMethod yX1_removeEnding ∈ gtb := tbm (List.mem_of_getElem? (i := 407) (by decide +kernel)) (by decide +kernel)
theorem se_yX1_removeEnding : Cond.selects RX1 yX1_removeEnding yX1_removeEnding ∈ gtb := tbm (List.mem_of_getElem? (i := 408) (by decide +kernel)) (by decide +kernel)
theorem cd_yX1_removeEnding : Cond.code yX1_removeEnding cX1_removeEnding 3 (Option.none : Option Jvm.ClassFile.FieldType) ∈ gtb := tbm (List.mem_of_getElem? (i := 409) (by decide +kernel)) (by decide +kernel)
theorem ml_RL_36 : Cond.methodLink RL 36 yX7_forbid ∈ gtb := tbm (List.mem_of_getElem? (i := 410) (by decide +kernel)) (by decide +kernel)
theorem im_yX7_forbid : Cond.instanceMethod yX7_forbid ∈ gtb := tbm (List.mem_of_getElem? (i := 411) (by decide +kernel)) (by decide +kernel)
theorem se_yX7_forbid : Cond.selects RX7 yX7_forbid yX7_forbid ∈ gtb := tbm (List.mem_of_getElem? (i := 412) (by decide +kernel)) (by decide +kernel)
theorem cd_yX7_forbid : Cond.code yX7_forbid cX7_forbid 3 (Option.some Jvm.ClassFile.FieldType.int) ∈ gtb := tbm (List.mem_of_getElem? (i := 413) (by decide +kernel)) (by decide +kernel)
theorem ml_RX7_134 : Cond.methodLink RX7 134 yX1_isForbidden ∈ gtb := tbm (List.mem_of_getElem? (i := 414) (by decide +kernel)) (by decide +kernel)
theorem im_yX1_isForbidden : Cond.instanceMethod yX1_isForbidden ∈ gtb := tbm (List.mem_of_getElem? (i := 415) (by decide +kernel)) (by decide +kernel)
theorem se_yX1_isForbidden : Cond.selects RX1 yX1_isForbidden yX1_isForbidden ∈ gtb := tbm (List.mem_of_getElem? (i := 416) (by decide +kernel)) (by decide +kernel)
theorem cd_yX1_isForbidden : Cond.code yX1_isForbidden cX1_isForbidden 2 (Option.some Jvm.ClassFile.FieldType.boolean) ∈ gtb := tbm (List.mem_of_getElem? (i := 417) (by decide +kernel)) (by decide +kernel)
theorem ml_RX7_141 : Cond.methodLink RX7 141 yX1_forbiddenSet ∈ gtb := tbm (List.mem_of_getElem? (i := 418) (by decide +kernel)) (by decide +kernel)
theorem im_yX1_forbiddenSet : Cond.instanceMethod yX1_forbiddenSet ∈ gtb := tbm (List.mem_of_getElem? (i := 419) (by decide +kernel)) (by decide +kernel)
theorem se_yX1_forbiddenSet : Cond.selects RX1 yX1_forbiddenSet yX1_forbiddenSet ∈ gtb := tbm (List.mem_of_getElem? (i := 420) (by decide +kernel)) (by decide +kernel)
theorem cd_yX1_forbiddenSet : Cond.code yX1_forbiddenSet cX1_forbiddenSet 3 (Option.some Jvm.ClassFile.FieldType.int) ∈ gtb := tbm (List.mem_of_getElem? (i := 421) (by decide +kernel)) (by decide +kernel)
theorem ml_RX1_48 : Cond.methodLink RX1 48 yX1_isForbidden ∈ gtb := tbm (List.mem_of_getElem? (i := 422) (by decide +kernel)) (by decide +kernel)
theorem ml_RX7_144 : Cond.methodLink RX7 144 yJ6_bitCount_0f7a4 ∈ gtb := tbm (List.mem_of_getElem? (i := 423) (by decide +kernel)) (by decide +kernel)
theorem st_yJ6_bitCount_0f7a4 : Cond.static yJ6_bitCount_0f7a4 ∈ gtb := tbm (List.mem_of_getElem? (i := 424) (by decide +kernel)) (by decide +kernel)
theorem cd_yJ6_bitCount_0f7a4 : Cond.code yJ6_bitCount_0f7a4 cJ6_bitCount_0f7a4 1 (Option.some Jvm.ClassFile.FieldType.int) ∈ gtb := tbm (List.mem_of_getElem? (i := 425) (by decide +kernel)) (by decide +kernel)
theorem kc_RJ6_265 : Cond.constant RJ6 265 (1431655765 : Int32) ∈ gtb := tbm (List.mem_of_getElem? (i := 426) (by decide +kernel)) (by decide +kernel)
theorem kc_RJ6_266 : Cond.constant RJ6 266 (858993459 : Int32) ∈ gtb := tbm (List.mem_of_getElem? (i := 427) (by decide +kernel)) (by decide +kernel)
theorem kc_RJ6_267 : Cond.constant RJ6 267 (252645135 : Int32) ∈ gtb := tbm (List.mem_of_getElem? (i := 428) (by decide +kernel)) (by decide +kernel)
theorem ml_RL_40 : Cond.methodLink RL 40 yX7_allow ∈ gtb := tbm (List.mem_of_getElem? (i := 429) (by decide +kernel)) (by decide +kernel)
theorem im_yX7_allow : Cond.instanceMethod yX7_allow ∈ gtb := tbm (List.mem_of_getElem? (i := 430) (by decide +kernel)) (by decide +kernel)
theorem se_yX7_allow : Cond.selects RX7 yX7_allow yX7_allow ∈ gtb := tbm (List.mem_of_getElem? (i := 431) (by decide +kernel)) (by decide +kernel)
theorem cd_yX7_allow : Cond.code yX7_allow cX7_allow 2 (Option.some Jvm.ClassFile.FieldType.int) ∈ gtb := tbm (List.mem_of_getElem? (i := 432) (by decide +kernel)) (by decide +kernel)
theorem ml_RL_44 : Cond.methodLink RL 44 yX7_change ∈ gtb := tbm (List.mem_of_getElem? (i := 433) (by decide +kernel)) (by decide +kernel)
theorem im_yX7_change : Cond.instanceMethod yX7_change ∈ gtb := tbm (List.mem_of_getElem? (i := 434) (by decide +kernel)) (by decide +kernel)
theorem se_yX7_change : Cond.selects RX7 yX7_change yX7_change ∈ gtb := tbm (List.mem_of_getElem? (i := 435) (by decide +kernel)) (by decide +kernel)
theorem cd_yX7_change : Cond.code yX7_change cX7_change 5 (Option.some Jvm.ClassFile.FieldType.int) ∈ gtb := tbm (List.mem_of_getElem? (i := 436) (by decide +kernel)) (by decide +kernel)
theorem ml_RL_49 : Cond.methodLink RL 49 yX7_termOf ∈ gtb := tbm (List.mem_of_getElem? (i := 437) (by decide +kernel)) (by decide +kernel)
theorem im_yX7_termOf : Cond.instanceMethod yX7_termOf ∈ gtb := tbm (List.mem_of_getElem? (i := 438) (by decide +kernel)) (by decide +kernel)
theorem se_yX7_termOf : Cond.selects RX7 yX7_termOf yX7_termOf ∈ gtb := tbm (List.mem_of_getElem? (i := 439) (by decide +kernel)) (by decide +kernel)
theorem cd_yX7_termOf : Cond.code yX7_termOf cX7_termOf 3 (Option.some Jvm.ClassFile.FieldType.int) ∈ gtb := tbm (List.mem_of_getElem? (i := 440) (by decide +kernel)) (by decide +kernel)
theorem ml_RX7_159 : Cond.methodLink RX7 159 yX7_settled ∈ gtb := tbm (List.mem_of_getElem? (i := 441) (by decide +kernel)) (by decide +kernel)
theorem im_yX7_settled : Cond.instanceMethod yX7_settled ∈ gtb := tbm (List.mem_of_getElem? (i := 443) (by decide +kernel)) (by decide +kernel)
theorem cd_yX7_settled : Cond.code yX7_settled cX7_settled 1 (Option.some (Jvm.ClassFile.FieldType.object "TermScan$Scan")) ∈ gtb := tbm (List.mem_of_getElem? (i := 444) (by decide +kernel)) (by decide +kernel)
theorem ml_RX7_295 : Cond.methodLink RX7 295 yX4_settle ∈ gtb := tbm (List.mem_of_getElem? (i := 445) (by decide +kernel)) (by decide +kernel)
theorem im_yX4_settle : Cond.instanceMethod yX4_settle ∈ gtb := tbm (List.mem_of_getElem? (i := 446) (by decide +kernel)) (by decide +kernel)
theorem se_yX4_settle : Cond.selects RX4 yX4_settle yX4_settle ∈ gtb := tbm (List.mem_of_getElem? (i := 447) (by decide +kernel)) (by decide +kernel)
theorem cd_yX4_settle : Cond.code yX4_settle cX4_settle 2 (Option.none : Option Jvm.ClassFile.FieldType) ∈ gtb := tbm (List.mem_of_getElem? (i := 448) (by decide +kernel)) (by decide +kernel)
theorem ml_RX4_63 : Cond.methodLink RX4 63 yX4_look ∈ gtb := tbm (List.mem_of_getElem? (i := 449) (by decide +kernel)) (by decide +kernel)
theorem im_yX4_look : Cond.instanceMethod yX4_look ∈ gtb := tbm (List.mem_of_getElem? (i := 451) (by decide +kernel)) (by decide +kernel)
theorem cd_yX4_look : Cond.code yX4_look cX4_look 6 (Option.none : Option Jvm.ClassFile.FieldType) ∈ gtb := tbm (List.mem_of_getElem? (i := 452) (by decide +kernel)) (by decide +kernel)
theorem ml_RX4_73 : Cond.methodLink RX4 73 yX6_beginsSentence ∈ gtb := tbm (List.mem_of_getElem? (i := 453) (by decide +kernel)) (by decide +kernel)
theorem im_yX6_beginsSentence : Cond.instanceMethod yX6_beginsSentence ∈ gtb := tbm (List.mem_of_getElem? (i := 454) (by decide +kernel)) (by decide +kernel)
theorem se_yX6_beginsSentence : Cond.selects RX6 yX6_beginsSentence yX6_beginsSentence ∈ gtb := tbm (List.mem_of_getElem? (i := 455) (by decide +kernel)) (by decide +kernel)
theorem cd_yX6_beginsSentence : Cond.code yX6_beginsSentence cX6_beginsSentence 2 (Option.some Jvm.ClassFile.FieldType.boolean) ∈ gtb := tbm (List.mem_of_getElem? (i := 456) (by decide +kernel)) (by decide +kernel)
theorem kc_RX4_77 : Cond.constant RX4 77 (286331153 : Int32) ∈ gtb := tbm (List.mem_of_getElem? (i := 457) (by decide +kernel)) (by decide +kernel)
theorem ml_RX4_78 : Cond.methodLink RX4 78 yX4_meets ∈ gtb := tbm (List.mem_of_getElem? (i := 458) (by decide +kernel)) (by decide +kernel)
theorem im_yX4_meets : Cond.instanceMethod yX4_meets ∈ gtb := tbm (List.mem_of_getElem? (i := 460) (by decide +kernel)) (by decide +kernel)
theorem cd_yX4_meets : Cond.code yX4_meets cX4_meets 6 (Option.some Jvm.ClassFile.FieldType.int) ∈ gtb := tbm (List.mem_of_getElem? (i := 461) (by decide +kernel)) (by decide +kernel)
theorem ml_RX4_99 : Cond.methodLink RX4 99 yX4_makeForms ∈ gtb := tbm (List.mem_of_getElem? (i := 462) (by decide +kernel)) (by decide +kernel)
theorem im_yX4_makeForms : Cond.instanceMethod yX4_makeForms ∈ gtb := tbm (List.mem_of_getElem? (i := 464) (by decide +kernel)) (by decide +kernel)
theorem cd_yX4_makeForms : Cond.code yX4_makeForms cX4_makeForms 9 (Option.none : Option Jvm.ClassFile.FieldType) ∈ gtb := tbm (List.mem_of_getElem? (i := 465) (by decide +kernel)) (by decide +kernel)
theorem ml_RX4_117 : Cond.methodLink RX4 117 yX0_sizeOf ∈ gtb := tbm (List.mem_of_getElem? (i := 466) (by decide +kernel)) (by decide +kernel)
theorem ml_RX4_129 : Cond.methodLink RX4 129 yX0_without ∈ gtb := tbm (List.mem_of_getElem? (i := 467) (by decide +kernel)) (by decide +kernel)
theorem st_yX0_without : Cond.static yX0_without ∈ gtb := tbm (List.mem_of_getElem? (i := 468) (by decide +kernel)) (by decide +kernel)
theorem cd_yX0_without : Cond.code yX0_without cX0_without 5 (Option.some Jvm.ClassFile.FieldType.long) ∈ gtb := tbm (List.mem_of_getElem? (i := 469) (by decide +kernel)) (by decide +kernel)
theorem ml_RX4_109 : Cond.methodLink RX4 109 yX1_wordOf ∈ gtb := tbm (List.mem_of_getElem? (i := 470) (by decide +kernel)) (by decide +kernel)
theorem ml_RX4_113 : Cond.methodLink RX4 113 yX4_isForm ∈ gtb := tbm (List.mem_of_getElem? (i := 471) (by decide +kernel)) (by decide +kernel)
theorem im_yX4_isForm : Cond.instanceMethod yX4_isForm ∈ gtb := tbm (List.mem_of_getElem? (i := 473) (by decide +kernel)) (by decide +kernel)
theorem cd_yX4_isForm : Cond.code yX4_isForm cX4_isForm 5 (Option.some Jvm.ClassFile.FieldType.boolean) ∈ gtb := tbm (List.mem_of_getElem? (i := 474) (by decide +kernel)) (by decide +kernel)
theorem ml_RX4_88 : Cond.methodLink RX4 88 yX4_hasBegun ∈ gtb := tbm (List.mem_of_getElem? (i := 475) (by decide +kernel)) (by decide +kernel)
theorem im_yX4_hasBegun : Cond.instanceMethod yX4_hasBegun ∈ gtb := tbm (List.mem_of_getElem? (i := 477) (by decide +kernel)) (by decide +kernel)
theorem cd_yX4_hasBegun : Cond.code yX4_hasBegun cX4_hasBegun 4 (Option.some Jvm.ClassFile.FieldType.boolean) ∈ gtb := tbm (List.mem_of_getElem? (i := 478) (by decide +kernel)) (by decide +kernel)
theorem ml_RX4_67 : Cond.methodLink RX4 67 yX4_weigh ∈ gtb := tbm (List.mem_of_getElem? (i := 479) (by decide +kernel)) (by decide +kernel)
theorem im_yX4_weigh : Cond.instanceMethod yX4_weigh ∈ gtb := tbm (List.mem_of_getElem? (i := 481) (by decide +kernel)) (by decide +kernel)
theorem cd_yX4_weigh : Cond.code yX4_weigh cX4_weigh 2 (Option.none : Option Jvm.ClassFile.FieldType) ∈ gtb := tbm (List.mem_of_getElem? (i := 482) (by decide +kernel)) (by decide +kernel)
theorem ml_RX4_133 : Cond.methodLink RX4 133 yX4_weighFrom ∈ gtb := tbm (List.mem_of_getElem? (i := 483) (by decide +kernel)) (by decide +kernel)
theorem im_yX4_weighFrom : Cond.instanceMethod yX4_weighFrom ∈ gtb := tbm (List.mem_of_getElem? (i := 485) (by decide +kernel)) (by decide +kernel)
theorem cd_yX4_weighFrom : Cond.code yX4_weighFrom cX4_weighFrom 6 (Option.none : Option Jvm.ClassFile.FieldType) ∈ gtb := tbm (List.mem_of_getElem? (i := 486) (by decide +kernel)) (by decide +kernel)
theorem ml_RX4_136 : Cond.methodLink RX4 136 yX4_isFound ∈ gtb := tbm (List.mem_of_getElem? (i := 487) (by decide +kernel)) (by decide +kernel)
theorem im_yX4_isFound : Cond.instanceMethod yX4_isFound ∈ gtb := tbm (List.mem_of_getElem? (i := 488) (by decide +kernel)) (by decide +kernel)
theorem se_yX4_isFound : Cond.selects RX4 yX4_isFound yX4_isFound ∈ gtb := tbm (List.mem_of_getElem? (i := 489) (by decide +kernel)) (by decide +kernel)
theorem cd_yX4_isFound : Cond.code yX4_isFound cX4_isFound 3 (Option.some Jvm.ClassFile.FieldType.boolean) ∈ gtb := tbm (List.mem_of_getElem? (i := 490) (by decide +kernel)) (by decide +kernel)
theorem ml_RX4_140 : Cond.methodLink RX4 140 yX1_worthOf ∈ gtb := tbm (List.mem_of_getElem? (i := 491) (by decide +kernel)) (by decide +kernel)
theorem im_yX1_worthOf : Cond.instanceMethod yX1_worthOf ∈ gtb := tbm (List.mem_of_getElem? (i := 492) (by decide +kernel)) (by decide +kernel)
theorem se_yX1_worthOf : Cond.selects RX1 yX1_worthOf yX1_worthOf ∈ gtb := tbm (List.mem_of_getElem? (i := 493) (by decide +kernel)) (by decide +kernel)
theorem cd_yX1_worthOf : Cond.code yX1_worthOf cX1_worthOf 2 (Option.some Jvm.ClassFile.FieldType.int) ∈ gtb := tbm (List.mem_of_getElem? (i := 494) (by decide +kernel)) (by decide +kernel)
theorem ml_RX4_143 : Cond.methodLink RX4 143 yX4_isBetter ∈ gtb := tbm (List.mem_of_getElem? (i := 495) (by decide +kernel)) (by decide +kernel)
theorem im_yX4_isBetter : Cond.instanceMethod yX4_isBetter ∈ gtb := tbm (List.mem_of_getElem? (i := 497) (by decide +kernel)) (by decide +kernel)
theorem cd_yX4_isBetter : Cond.code yX4_isBetter cX4_isBetter 5 (Option.some Jvm.ClassFile.FieldType.boolean) ∈ gtb := tbm (List.mem_of_getElem? (i := 498) (by decide +kernel)) (by decide +kernel)
theorem ml_RX4_70 : Cond.methodLink RX4 70 yX4_choose ∈ gtb := tbm (List.mem_of_getElem? (i := 499) (by decide +kernel)) (by decide +kernel)
theorem im_yX4_choose : Cond.instanceMethod yX4_choose ∈ gtb := tbm (List.mem_of_getElem? (i := 501) (by decide +kernel)) (by decide +kernel)
theorem cd_yX4_choose : Cond.code yX4_choose cX4_choose 3 (Option.none : Option Jvm.ClassFile.FieldType) ∈ gtb := tbm (List.mem_of_getElem? (i := 502) (by decide +kernel)) (by decide +kernel)
theorem ml_RX7_163 : Cond.methodLink RX7 163 yX4_timesFound ∈ gtb := tbm (List.mem_of_getElem? (i := 503) (by decide +kernel)) (by decide +kernel)
theorem im_yX4_timesFound : Cond.instanceMethod yX4_timesFound ∈ gtb := tbm (List.mem_of_getElem? (i := 504) (by decide +kernel)) (by decide +kernel)
theorem se_yX4_timesFound : Cond.selects RX4 yX4_timesFound yX4_timesFound ∈ gtb := tbm (List.mem_of_getElem? (i := 505) (by decide +kernel)) (by decide +kernel)
theorem cd_yX4_timesFound : Cond.code yX4_timesFound cX4_timesFound 4 (Option.some Jvm.ClassFile.FieldType.int) ∈ gtb := tbm (List.mem_of_getElem? (i := 506) (by decide +kernel)) (by decide +kernel)
theorem ml_RX7_166 : Cond.methodLink RX7 166 yX4_timesChosen ∈ gtb := tbm (List.mem_of_getElem? (i := 507) (by decide +kernel)) (by decide +kernel)
theorem im_yX4_timesChosen : Cond.instanceMethod yX4_timesChosen ∈ gtb := tbm (List.mem_of_getElem? (i := 508) (by decide +kernel)) (by decide +kernel)
theorem se_yX4_timesChosen : Cond.selects RX4 yX4_timesChosen yX4_timesChosen ∈ gtb := tbm (List.mem_of_getElem? (i := 509) (by decide +kernel)) (by decide +kernel)
theorem cd_yX4_timesChosen : Cond.code yX4_timesChosen cX4_timesChosen 4 (Option.some Jvm.ClassFile.FieldType.int) ∈ gtb := tbm (List.mem_of_getElem? (i := 510) (by decide +kernel)) (by decide +kernel)
theorem ml_RL_53 : Cond.methodLink RL 53 yX7_letter ∈ gtb := tbm (List.mem_of_getElem? (i := 511) (by decide +kernel)) (by decide +kernel)
theorem im_yX7_letter : Cond.instanceMethod yX7_letter ∈ gtb := tbm (List.mem_of_getElem? (i := 512) (by decide +kernel)) (by decide +kernel)
theorem se_yX7_letter : Cond.selects RX7 yX7_letter yX7_letter ∈ gtb := tbm (List.mem_of_getElem? (i := 513) (by decide +kernel)) (by decide +kernel)
theorem cd_yX7_letter : Cond.code yX7_letter cX7_letter 5 (Option.some Jvm.ClassFile.FieldType.int) ∈ gtb := tbm (List.mem_of_getElem? (i := 514) (by decide +kernel)) (by decide +kernel)
theorem ml_RX7_172 : Cond.methodLink RX7 172 yX0_at ∈ gtb := tbm (List.mem_of_getElem? (i := 515) (by decide +kernel)) (by decide +kernel)
theorem st_yX0_at : Cond.static yX0_at ∈ gtb := tbm (List.mem_of_getElem? (i := 516) (by decide +kernel)) (by decide +kernel)
theorem cd_yX0_at : Cond.code yX0_at cX0_at 4 (Option.some Jvm.ClassFile.FieldType.int) ∈ gtb := tbm (List.mem_of_getElem? (i := 517) (by decide +kernel)) (by decide +kernel)
theorem ml_RX7_176 : Cond.methodLink RX7 176 yX1_wordOf ∈ gtb := tbm (List.mem_of_getElem? (i := 518) (by decide +kernel)) (by decide +kernel)
theorem ml_RL_57 : Cond.methodLink RL 57 yX7_read ∈ gtb := tbm (List.mem_of_getElem? (i := 519) (by decide +kernel)) (by decide +kernel)
theorem im_yX7_read : Cond.instanceMethod yX7_read ∈ gtb := tbm (List.mem_of_getElem? (i := 520) (by decide +kernel)) (by decide +kernel)
theorem se_yX7_read : Cond.selects RX7 yX7_read yX7_read ∈ gtb := tbm (List.mem_of_getElem? (i := 521) (by decide +kernel)) (by decide +kernel)
theorem cd_yX7_read : Cond.code yX7_read cX7_read 2 (Option.some Jvm.ClassFile.FieldType.int) ∈ gtb := tbm (List.mem_of_getElem? (i := 522) (by decide +kernel)) (by decide +kernel)
theorem ml_RX7_180 : Cond.methodLink RX7 180 yX6_hasRoom ∈ gtb := tbm (List.mem_of_getElem? (i := 523) (by decide +kernel)) (by decide +kernel)
theorem im_yX6_hasRoom : Cond.instanceMethod yX6_hasRoom ∈ gtb := tbm (List.mem_of_getElem? (i := 524) (by decide +kernel)) (by decide +kernel)
theorem se_yX6_hasRoom : Cond.selects RX6 yX6_hasRoom yX6_hasRoom ∈ gtb := tbm (List.mem_of_getElem? (i := 525) (by decide +kernel)) (by decide +kernel)
theorem cd_yX6_hasRoom : Cond.code yX6_hasRoom cX6_hasRoom 1 (Option.some Jvm.ClassFile.FieldType.boolean) ∈ gtb := tbm (List.mem_of_getElem? (i := 526) (by decide +kernel)) (by decide +kernel)
theorem ml_RX7_184 : Cond.methodLink RX7 184 yX6_take ∈ gtb := tbm (List.mem_of_getElem? (i := 527) (by decide +kernel)) (by decide +kernel)
theorem im_yX6_take : Cond.instanceMethod yX6_take ∈ gtb := tbm (List.mem_of_getElem? (i := 528) (by decide +kernel)) (by decide +kernel)
theorem se_yX6_take : Cond.selects RX6 yX6_take yX6_take ∈ gtb := tbm (List.mem_of_getElem? (i := 529) (by decide +kernel)) (by decide +kernel)
theorem cd_yX6_take : Cond.code yX6_take cX6_take 2 (Option.none : Option Jvm.ClassFile.FieldType) ∈ gtb := tbm (List.mem_of_getElem? (i := 530) (by decide +kernel)) (by decide +kernel)
theorem ml_RX6_38 : Cond.methodLink RX6 38 yX0_isLetter ∈ gtb := tbm (List.mem_of_getElem? (i := 531) (by decide +kernel)) (by decide +kernel)
theorem ml_RX6_44 : Cond.methodLink RX6 44 yX6_addLetter ∈ gtb := tbm (List.mem_of_getElem? (i := 532) (by decide +kernel)) (by decide +kernel)
theorem im_yX6_addLetter : Cond.instanceMethod yX6_addLetter ∈ gtb := tbm (List.mem_of_getElem? (i := 534) (by decide +kernel)) (by decide +kernel)
theorem cd_yX6_addLetter : Cond.code yX6_addLetter cX6_addLetter 3 (Option.none : Option Jvm.ClassFile.FieldType) ∈ gtb := tbm (List.mem_of_getElem? (i := 535) (by decide +kernel)) (by decide +kernel)
theorem ml_RX6_54 : Cond.methodLink RX6 54 yX0_sizeOf ∈ gtb := tbm (List.mem_of_getElem? (i := 536) (by decide +kernel)) (by decide +kernel)
theorem ml_RX6_62 : Cond.methodLink RX6 62 yX0_with ∈ gtb := tbm (List.mem_of_getElem? (i := 537) (by decide +kernel)) (by decide +kernel)
theorem ml_RX6_48 : Cond.methodLink RX6 48 yX6_endWord ∈ gtb := tbm (List.mem_of_getElem? (i := 538) (by decide +kernel)) (by decide +kernel)
theorem im_yX6_endWord : Cond.instanceMethod yX6_endWord ∈ gtb := tbm (List.mem_of_getElem? (i := 540) (by decide +kernel)) (by decide +kernel)
theorem cd_yX6_endWord : Cond.code yX6_endWord cX6_endWord 1 (Option.none : Option Jvm.ClassFile.FieldType) ∈ gtb := tbm (List.mem_of_getElem? (i := 541) (by decide +kernel)) (by decide +kernel)
theorem ml_RX6_51 : Cond.methodLink RX6 51 yX6_endSentence ∈ gtb := tbm (List.mem_of_getElem? (i := 542) (by decide +kernel)) (by decide +kernel)
theorem im_yX6_endSentence : Cond.instanceMethod yX6_endSentence ∈ gtb := tbm (List.mem_of_getElem? (i := 544) (by decide +kernel)) (by decide +kernel)
theorem cd_yX6_endSentence : Cond.code yX6_endSentence cX6_endSentence 1 (Option.none : Option Jvm.ClassFile.FieldType) ∈ gtb := tbm (List.mem_of_getElem? (i := 545) (by decide +kernel)) (by decide +kernel)
theorem ml_RX7_187 : Cond.methodLink RX7 187 yX7_textChanged ∈ gtb := tbm (List.mem_of_getElem? (i := 546) (by decide +kernel)) (by decide +kernel)
theorem im_yX7_textChanged : Cond.instanceMethod yX7_textChanged ∈ gtb := tbm (List.mem_of_getElem? (i := 548) (by decide +kernel)) (by decide +kernel)
theorem cd_yX7_textChanged : Cond.code yX7_textChanged cX7_textChanged 1 (Option.none : Option Jvm.ClassFile.FieldType) ∈ gtb := tbm (List.mem_of_getElem? (i := 549) (by decide +kernel)) (by decide +kernel)
theorem ml_RX7_292 : Cond.methodLink RX7 292 yX4_unsettle ∈ gtb := tbm (List.mem_of_getElem? (i := 550) (by decide +kernel)) (by decide +kernel)
theorem im_yX4_unsettle : Cond.instanceMethod yX4_unsettle ∈ gtb := tbm (List.mem_of_getElem? (i := 551) (by decide +kernel)) (by decide +kernel)
theorem se_yX4_unsettle : Cond.selects RX4 yX4_unsettle yX4_unsettle ∈ gtb := tbm (List.mem_of_getElem? (i := 552) (by decide +kernel)) (by decide +kernel)
theorem cd_yX4_unsettle : Cond.code yX4_unsettle cX4_unsettle 1 (Option.none : Option Jvm.ClassFile.FieldType) ∈ gtb := tbm (List.mem_of_getElem? (i := 553) (by decide +kernel)) (by decide +kernel)
theorem ml_RL_61 : Cond.methodLink RL 61 yX7_wipe ∈ gtb := tbm (List.mem_of_getElem? (i := 554) (by decide +kernel)) (by decide +kernel)
theorem im_yX7_wipe : Cond.instanceMethod yX7_wipe ∈ gtb := tbm (List.mem_of_getElem? (i := 555) (by decide +kernel)) (by decide +kernel)
theorem se_yX7_wipe : Cond.selects RX7 yX7_wipe yX7_wipe ∈ gtb := tbm (List.mem_of_getElem? (i := 556) (by decide +kernel)) (by decide +kernel)
theorem cd_yX7_wipe : Cond.code yX7_wipe cX7_wipe 2 (Option.some Jvm.ClassFile.FieldType.int) ∈ gtb := tbm (List.mem_of_getElem? (i := 557) (by decide +kernel)) (by decide +kernel)
theorem ml_RX7_193 : Cond.methodLink RX7 193 yX6_clear ∈ gtb := tbm (List.mem_of_getElem? (i := 558) (by decide +kernel)) (by decide +kernel)
theorem im_yX6_clear : Cond.instanceMethod yX6_clear ∈ gtb := tbm (List.mem_of_getElem? (i := 559) (by decide +kernel)) (by decide +kernel)
theorem se_yX6_clear : Cond.selects RX6 yX6_clear yX6_clear ∈ gtb := tbm (List.mem_of_getElem? (i := 560) (by decide +kernel)) (by decide +kernel)
theorem cd_yX6_clear : Cond.code yX6_clear cX6_clear 1 (Option.none : Option Jvm.ClassFile.FieldType) ∈ gtb := tbm (List.mem_of_getElem? (i := 561) (by decide +kernel)) (by decide +kernel)
theorem ml_RL_65 : Cond.methodLink RL 65 yX7_drift ∈ gtb := tbm (List.mem_of_getElem? (i := 562) (by decide +kernel)) (by decide +kernel)
theorem im_yX7_drift : Cond.instanceMethod yX7_drift ∈ gtb := tbm (List.mem_of_getElem? (i := 563) (by decide +kernel)) (by decide +kernel)
theorem se_yX7_drift : Cond.selects RX7 yX7_drift yX7_drift ∈ gtb := tbm (List.mem_of_getElem? (i := 564) (by decide +kernel)) (by decide +kernel)
theorem cd_yX7_drift : Cond.code yX7_drift cX7_drift 5 (Option.some Jvm.ClassFile.FieldType.int) ∈ gtb := tbm (List.mem_of_getElem? (i := 565) (by decide +kernel)) (by decide +kernel)
theorem kc_RX7_199 : Cond.constant RX7 199 (999999 : Int32) ∈ gtb := tbm (List.mem_of_getElem? (i := 566) (by decide +kernel)) (by decide +kernel)
theorem ml_RX7_200 : Cond.methodLink RX7 200 yX2_start ∈ gtb := tbm (List.mem_of_getElem? (i := 567) (by decide +kernel)) (by decide +kernel)
theorem im_yX2_start : Cond.instanceMethod yX2_start ∈ gtb := tbm (List.mem_of_getElem? (i := 568) (by decide +kernel)) (by decide +kernel)
theorem se_yX2_start : Cond.selects RX2 yX2_start yX2_start ∈ gtb := tbm (List.mem_of_getElem? (i := 569) (by decide +kernel)) (by decide +kernel)
theorem cd_yX2_start : Cond.code yX2_start cX2_start 2 (Option.none : Option Jvm.ClassFile.FieldType) ∈ gtb := tbm (List.mem_of_getElem? (i := 570) (by decide +kernel)) (by decide +kernel)
theorem ml_RX7_203 : Cond.methodLink RX7 203 yX7_takeLot ∈ gtb := tbm (List.mem_of_getElem? (i := 571) (by decide +kernel)) (by decide +kernel)
theorem im_yX7_takeLot : Cond.instanceMethod yX7_takeLot ∈ gtb := tbm (List.mem_of_getElem? (i := 573) (by decide +kernel)) (by decide +kernel)
theorem cd_yX7_takeLot : Cond.code yX7_takeLot cX7_takeLot 2 (Option.some Jvm.ClassFile.FieldType.boolean) ∈ gtb := tbm (List.mem_of_getElem? (i := 574) (by decide +kernel)) (by decide +kernel)
theorem ml_RX7_301 : Cond.methodLink RX7 301 yX2_below ∈ gtb := tbm (List.mem_of_getElem? (i := 575) (by decide +kernel)) (by decide +kernel)
theorem im_yX2_below : Cond.instanceMethod yX2_below ∈ gtb := tbm (List.mem_of_getElem? (i := 576) (by decide +kernel)) (by decide +kernel)
theorem se_yX2_below : Cond.selects RX2 yX2_below yX2_below ∈ gtb := tbm (List.mem_of_getElem? (i := 577) (by decide +kernel)) (by decide +kernel)
theorem cd_yX2_below : Cond.code yX2_below cX2_below 2 (Option.some Jvm.ClassFile.FieldType.int) ∈ gtb := tbm (List.mem_of_getElem? (i := 578) (by decide +kernel)) (by decide +kernel)
theorem kl_RX2_13 : Cond.constantLong RX2 13 (16807 : Int64) ∈ gtb := tbm (List.mem_of_getElem? (i := 579) (by decide +kernel)) (by decide +kernel)
theorem kl_RX2_15 : Cond.constantLong RX2 15 (2147483647 : Int64) ∈ gtb := tbm (List.mem_of_getElem? (i := 580) (by decide +kernel)) (by decide +kernel)
theorem ml_RX7_304 : Cond.methodLink RX7 304 yX6_takeLetters ∈ gtb := tbm (List.mem_of_getElem? (i := 581) (by decide +kernel)) (by decide +kernel)
theorem im_yX6_takeLetters : Cond.instanceMethod yX6_takeLetters ∈ gtb := tbm (List.mem_of_getElem? (i := 582) (by decide +kernel)) (by decide +kernel)
theorem se_yX6_takeLetters : Cond.selects RX6 yX6_takeLetters yX6_takeLetters ∈ gtb := tbm (List.mem_of_getElem? (i := 583) (by decide +kernel)) (by decide +kernel)
theorem cd_yX6_takeLetters : Cond.code yX6_takeLetters cX6_takeLetters 5 (Option.none : Option Jvm.ClassFile.FieldType) ∈ gtb := tbm (List.mem_of_getElem? (i := 584) (by decide +kernel)) (by decide +kernel)
theorem ml_RX6_58 : Cond.methodLink RX6 58 yX0_at ∈ gtb := tbm (List.mem_of_getElem? (i := 585) (by decide +kernel)) (by decide +kernel)
theorem ml_RL_69 : Cond.methodLink RL 69 yX7_word ∈ gtb := tbm (List.mem_of_getElem? (i := 586) (by decide +kernel)) (by decide +kernel)
theorem im_yX7_word : Cond.instanceMethod yX7_word ∈ gtb := tbm (List.mem_of_getElem? (i := 587) (by decide +kernel)) (by decide +kernel)
theorem se_yX7_word : Cond.selects RX7 yX7_word yX7_word ∈ gtb := tbm (List.mem_of_getElem? (i := 588) (by decide +kernel)) (by decide +kernel)
theorem cd_yX7_word : Cond.code yX7_word cX7_word 3 (Option.some Jvm.ClassFile.FieldType.int) ∈ gtb := tbm (List.mem_of_getElem? (i := 589) (by decide +kernel)) (by decide +kernel)
theorem ml_RX7_206 : Cond.methodLink RX7 206 yX6_isWord ∈ gtb := tbm (List.mem_of_getElem? (i := 590) (by decide +kernel)) (by decide +kernel)
theorem im_yX6_isWord : Cond.instanceMethod yX6_isWord ∈ gtb := tbm (List.mem_of_getElem? (i := 591) (by decide +kernel)) (by decide +kernel)
theorem se_yX6_isWord : Cond.selects RX6 yX6_isWord yX6_isWord ∈ gtb := tbm (List.mem_of_getElem? (i := 592) (by decide +kernel)) (by decide +kernel)
theorem cd_yX6_isWord : Cond.code yX6_isWord cX6_isWord 2 (Option.some Jvm.ClassFile.FieldType.boolean) ∈ gtb := tbm (List.mem_of_getElem? (i := 593) (by decide +kernel)) (by decide +kernel)
theorem ml_RX7_217 : Cond.methodLink RX7 217 yX4_reach ∈ gtb := tbm (List.mem_of_getElem? (i := 594) (by decide +kernel)) (by decide +kernel)
theorem im_yX4_reach : Cond.instanceMethod yX4_reach ∈ gtb := tbm (List.mem_of_getElem? (i := 595) (by decide +kernel)) (by decide +kernel)
theorem se_yX4_reach : Cond.selects RX4 yX4_reach yX4_reach ∈ gtb := tbm (List.mem_of_getElem? (i := 596) (by decide +kernel)) (by decide +kernel)
theorem cd_yX4_reach : Cond.code yX4_reach cX4_reach 4 (Option.some Jvm.ClassFile.FieldType.int) ∈ gtb := tbm (List.mem_of_getElem? (i := 597) (by decide +kernel)) (by decide +kernel)
theorem ml_RX7_220 : Cond.methodLink RX7 220 yX4_termsOver ∈ gtb := tbm (List.mem_of_getElem? (i := 598) (by decide +kernel)) (by decide +kernel)
theorem im_yX4_termsOver : Cond.instanceMethod yX4_termsOver ∈ gtb := tbm (List.mem_of_getElem? (i := 599) (by decide +kernel)) (by decide +kernel)
theorem se_yX4_termsOver : Cond.selects RX4 yX4_termsOver yX4_termsOver ∈ gtb := tbm (List.mem_of_getElem? (i := 600) (by decide +kernel)) (by decide +kernel)
theorem cd_yX4_termsOver : Cond.code yX4_termsOver cX4_termsOver 5 (Option.some Jvm.ClassFile.FieldType.int) ∈ gtb := tbm (List.mem_of_getElem? (i := 601) (by decide +kernel)) (by decide +kernel)
theorem ml_RL_73 : Cond.methodLink RL 73 yX7_told ∈ gtb := tbm (List.mem_of_getElem? (i := 602) (by decide +kernel)) (by decide +kernel)
theorem im_yX7_told : Cond.instanceMethod yX7_told ∈ gtb := tbm (List.mem_of_getElem? (i := 603) (by decide +kernel)) (by decide +kernel)
theorem se_yX7_told : Cond.selects RX7 yX7_told yX7_told ∈ gtb := tbm (List.mem_of_getElem? (i := 604) (by decide +kernel)) (by decide +kernel)
theorem cd_yX7_told : Cond.code yX7_told cX7_told 2 (Option.some Jvm.ClassFile.FieldType.int) ∈ gtb := tbm (List.mem_of_getElem? (i := 605) (by decide +kernel)) (by decide +kernel)
theorem ml_RX7_233 : Cond.methodLink RX7 233 yX4_foundCount ∈ gtb := tbm (List.mem_of_getElem? (i := 606) (by decide +kernel)) (by decide +kernel)
theorem im_yX4_foundCount : Cond.instanceMethod yX4_foundCount ∈ gtb := tbm (List.mem_of_getElem? (i := 607) (by decide +kernel)) (by decide +kernel)
theorem se_yX4_foundCount : Cond.selects RX4 yX4_foundCount yX4_foundCount ∈ gtb := tbm (List.mem_of_getElem? (i := 608) (by decide +kernel)) (by decide +kernel)
theorem cd_yX4_foundCount : Cond.code yX4_foundCount cX4_foundCount 3 (Option.some Jvm.ClassFile.FieldType.int) ∈ gtb := tbm (List.mem_of_getElem? (i := 609) (by decide +kernel)) (by decide +kernel)
theorem ml_RX4_150 : Cond.methodLink RX4 150 yJ6_bitCount_0f7a4 ∈ gtb := tbm (List.mem_of_getElem? (i := 610) (by decide +kernel)) (by decide +kernel)
theorem ml_RX7_242 : Cond.methodLink RX7 242 yX4_wordsChosen ∈ gtb := tbm (List.mem_of_getElem? (i := 611) (by decide +kernel)) (by decide +kernel)
theorem im_yX4_wordsChosen : Cond.instanceMethod yX4_wordsChosen ∈ gtb := tbm (List.mem_of_getElem? (i := 612) (by decide +kernel)) (by decide +kernel)
theorem se_yX4_wordsChosen : Cond.selects RX4 yX4_wordsChosen yX4_wordsChosen ∈ gtb := tbm (List.mem_of_getElem? (i := 613) (by decide +kernel)) (by decide +kernel)
theorem cd_yX4_wordsChosen : Cond.code yX4_wordsChosen cX4_wordsChosen 3 (Option.some Jvm.ClassFile.FieldType.int) ∈ gtb := tbm (List.mem_of_getElem? (i := 614) (by decide +kernel)) (by decide +kernel)
theorem ml_RX7_245 : Cond.methodLink RX7 245 yX4_insteadCount ∈ gtb := tbm (List.mem_of_getElem? (i := 615) (by decide +kernel)) (by decide +kernel)
theorem im_yX4_insteadCount : Cond.instanceMethod yX4_insteadCount ∈ gtb := tbm (List.mem_of_getElem? (i := 616) (by decide +kernel)) (by decide +kernel)
theorem se_yX4_insteadCount : Cond.selects RX4 yX4_insteadCount yX4_insteadCount ∈ gtb := tbm (List.mem_of_getElem? (i := 617) (by decide +kernel)) (by decide +kernel)
theorem cd_yX4_insteadCount : Cond.code yX4_insteadCount cX4_insteadCount 3 (Option.some Jvm.ClassFile.FieldType.int) ∈ gtb := tbm (List.mem_of_getElem? (i := 618) (by decide +kernel)) (by decide +kernel)
theorem ml_RX4_155 : Cond.methodLink RX4 155 yX1_isForbidden ∈ gtb := tbm (List.mem_of_getElem? (i := 619) (by decide +kernel)) (by decide +kernel)
theorem ml_RX7_248 : Cond.methodLink RX7 248 yX7_written ∈ gtb := tbm (List.mem_of_getElem? (i := 620) (by decide +kernel)) (by decide +kernel)
theorem im_yX7_written : Cond.instanceMethod yX7_written ∈ gtb := tbm (List.mem_of_getElem? (i := 622) (by decide +kernel)) (by decide +kernel)
theorem cd_yX7_written : Cond.code yX7_written cX7_written 1 (Option.some (Jvm.ClassFile.FieldType.object "TermScan$Mended")) ∈ gtb := tbm (List.mem_of_getElem? (i := 623) (by decide +kernel)) (by decide +kernel)
theorem ml_RX7_298 : Cond.methodLink RX7 298 yX3_write ∈ gtb := tbm (List.mem_of_getElem? (i := 624) (by decide +kernel)) (by decide +kernel)
theorem im_yX3_write : Cond.instanceMethod yX3_write ∈ gtb := tbm (List.mem_of_getElem? (i := 625) (by decide +kernel)) (by decide +kernel)
theorem se_yX3_write : Cond.selects RX3 yX3_write yX3_write ∈ gtb := tbm (List.mem_of_getElem? (i := 626) (by decide +kernel)) (by decide +kernel)
theorem cd_yX3_write : Cond.code yX3_write cX3_write 3 (Option.none : Option Jvm.ClassFile.FieldType) ∈ gtb := tbm (List.mem_of_getElem? (i := 627) (by decide +kernel)) (by decide +kernel)
theorem ml_RX3_42 : Cond.methodLink RX3 42 yX4_insteadOver ∈ gtb := tbm (List.mem_of_getElem? (i := 628) (by decide +kernel)) (by decide +kernel)
theorem im_yX4_insteadOver : Cond.instanceMethod yX4_insteadOver ∈ gtb := tbm (List.mem_of_getElem? (i := 629) (by decide +kernel)) (by decide +kernel)
theorem se_yX4_insteadOver : Cond.selects RX4 yX4_insteadOver yX4_insteadOver ∈ gtb := tbm (List.mem_of_getElem? (i := 630) (by decide +kernel)) (by decide +kernel)
theorem cd_yX4_insteadOver : Cond.code yX4_insteadOver cX4_insteadOver 3 (Option.some Jvm.ClassFile.FieldType.int) ∈ gtb := tbm (List.mem_of_getElem? (i := 631) (by decide +kernel)) (by decide +kernel)
theorem ml_RX3_52 : Cond.methodLink RX3 52 yX3_addWord ∈ gtb := tbm (List.mem_of_getElem? (i := 632) (by decide +kernel)) (by decide +kernel)
theorem im_yX3_addWord : Cond.instanceMethod yX3_addWord ∈ gtb := tbm (List.mem_of_getElem? (i := 634) (by decide +kernel)) (by decide +kernel)
theorem cd_yX3_addWord : Cond.code yX3_addWord cX3_addWord 5 (Option.none : Option Jvm.ClassFile.FieldType) ∈ gtb := tbm (List.mem_of_getElem? (i := 635) (by decide +kernel)) (by decide +kernel)
theorem ml_RX3_71 : Cond.methodLink RX3 71 yX3_addSign ∈ gtb := tbm (List.mem_of_getElem? (i := 636) (by decide +kernel)) (by decide +kernel)
theorem im_yX3_addSign : Cond.instanceMethod yX3_addSign ∈ gtb := tbm (List.mem_of_getElem? (i := 638) (by decide +kernel)) (by decide +kernel)
theorem cd_yX3_addSign : Cond.code yX3_addSign cX3_addSign 2 (Option.none : Option Jvm.ClassFile.FieldType) ∈ gtb := tbm (List.mem_of_getElem? (i := 639) (by decide +kernel)) (by decide +kernel)
theorem ml_RX3_83 : Cond.methodLink RX3 83 yX0_sizeOf ∈ gtb := tbm (List.mem_of_getElem? (i := 640) (by decide +kernel)) (by decide +kernel)
theorem ml_RX3_89 : Cond.methodLink RX3 89 yX0_at ∈ gtb := tbm (List.mem_of_getElem? (i := 641) (by decide +kernel)) (by decide +kernel)
theorem ml_RX3_63 : Cond.methodLink RX3 63 yX3_addWordsOf ∈ gtb := tbm (List.mem_of_getElem? (i := 642) (by decide +kernel)) (by decide +kernel)
theorem im_yX3_addWordsOf : Cond.instanceMethod yX3_addWordsOf ∈ gtb := tbm (List.mem_of_getElem? (i := 644) (by decide +kernel)) (by decide +kernel)
theorem cd_yX3_addWordsOf : Cond.code yX3_addWordsOf cX3_addWordsOf 3 (Option.none : Option Jvm.ClassFile.FieldType) ∈ gtb := tbm (List.mem_of_getElem? (i := 645) (by decide +kernel)) (by decide +kernel)
theorem ml_RX3_79 : Cond.methodLink RX3 79 yX1_wordOf ∈ gtb := tbm (List.mem_of_getElem? (i := 646) (by decide +kernel)) (by decide +kernel)
theorem ml_RX3_67 : Cond.methodLink RX3 67 yX6_endsSentence ∈ gtb := tbm (List.mem_of_getElem? (i := 647) (by decide +kernel)) (by decide +kernel)
theorem im_yX6_endsSentence : Cond.instanceMethod yX6_endsSentence ∈ gtb := tbm (List.mem_of_getElem? (i := 648) (by decide +kernel)) (by decide +kernel)
theorem se_yX6_endsSentence : Cond.selects RX6 yX6_endsSentence yX6_endsSentence ∈ gtb := tbm (List.mem_of_getElem? (i := 649) (by decide +kernel)) (by decide +kernel)
theorem cd_yX6_endsSentence : Cond.code yX6_endsSentence cX6_endsSentence 3 (Option.some Jvm.ClassFile.FieldType.boolean) ∈ gtb := tbm (List.mem_of_getElem? (i := 650) (by decide +kernel)) (by decide +kernel)
theorem ml_RL_77 : Cond.methodLink RL 77 yX7_found ∈ gtb := tbm (List.mem_of_getElem? (i := 651) (by decide +kernel)) (by decide +kernel)
theorem im_yX7_found : Cond.instanceMethod yX7_found ∈ gtb := tbm (List.mem_of_getElem? (i := 652) (by decide +kernel)) (by decide +kernel)
theorem se_yX7_found : Cond.selects RX7 yX7_found yX7_found ∈ gtb := tbm (List.mem_of_getElem? (i := 653) (by decide +kernel)) (by decide +kernel)
theorem cd_yX7_found : Cond.code yX7_found cX7_found 5 (Option.some Jvm.ClassFile.FieldType.int) ∈ gtb := tbm (List.mem_of_getElem? (i := 654) (by decide +kernel)) (by decide +kernel)
theorem ml_RX7_253 : Cond.methodLink RX7 253 yX4_foundAt ∈ gtb := tbm (List.mem_of_getElem? (i := 655) (by decide +kernel)) (by decide +kernel)
theorem im_yX4_foundAt : Cond.instanceMethod yX4_foundAt ∈ gtb := tbm (List.mem_of_getElem? (i := 656) (by decide +kernel)) (by decide +kernel)
theorem se_yX4_foundAt : Cond.selects RX4 yX4_foundAt yX4_foundAt ∈ gtb := tbm (List.mem_of_getElem? (i := 657) (by decide +kernel)) (by decide +kernel)
theorem cd_yX4_foundAt : Cond.code yX4_foundAt cX4_foundAt 4 (Option.some Jvm.ClassFile.FieldType.int) ∈ gtb := tbm (List.mem_of_getElem? (i := 658) (by decide +kernel)) (by decide +kernel)
theorem ml_RX7_256 : Cond.methodLink RX7 256 yX4_foundTerm ∈ gtb := tbm (List.mem_of_getElem? (i := 659) (by decide +kernel)) (by decide +kernel)
theorem im_yX4_foundTerm : Cond.instanceMethod yX4_foundTerm ∈ gtb := tbm (List.mem_of_getElem? (i := 660) (by decide +kernel)) (by decide +kernel)
theorem se_yX4_foundTerm : Cond.selects RX4 yX4_foundTerm yX4_foundTerm ∈ gtb := tbm (List.mem_of_getElem? (i := 661) (by decide +kernel)) (by decide +kernel)
theorem cd_yX4_foundTerm : Cond.code yX4_foundTerm cX4_foundTerm 5 (Option.some Jvm.ClassFile.FieldType.int) ∈ gtb := tbm (List.mem_of_getElem? (i := 662) (by decide +kernel)) (by decide +kernel)
theorem ml_RX7_259 : Cond.methodLink RX7 259 yX1_worthOf ∈ gtb := tbm (List.mem_of_getElem? (i := 663) (by decide +kernel)) (by decide +kernel)
theorem ml_RX7_262 : Cond.methodLink RX7 262 yX4_isChosen ∈ gtb := tbm (List.mem_of_getElem? (i := 664) (by decide +kernel)) (by decide +kernel)
theorem im_yX4_isChosen : Cond.instanceMethod yX4_isChosen ∈ gtb := tbm (List.mem_of_getElem? (i := 665) (by decide +kernel)) (by decide +kernel)
theorem se_yX4_isChosen : Cond.selects RX4 yX4_isChosen yX4_isChosen ∈ gtb := tbm (List.mem_of_getElem? (i := 666) (by decide +kernel)) (by decide +kernel)
theorem cd_yX4_isChosen : Cond.code yX4_isChosen cX4_isChosen 4 (Option.some Jvm.ClassFile.FieldType.boolean) ∈ gtb := tbm (List.mem_of_getElem? (i := 667) (by decide +kernel)) (by decide +kernel)
theorem ml_RL_81 : Cond.methodLink RL 81 yX7_chosen ∈ gtb := tbm (List.mem_of_getElem? (i := 668) (by decide +kernel)) (by decide +kernel)
theorem im_yX7_chosen : Cond.instanceMethod yX7_chosen ∈ gtb := tbm (List.mem_of_getElem? (i := 669) (by decide +kernel)) (by decide +kernel)
theorem se_yX7_chosen : Cond.selects RX7 yX7_chosen yX7_chosen ∈ gtb := tbm (List.mem_of_getElem? (i := 670) (by decide +kernel)) (by decide +kernel)
theorem cd_yX7_chosen : Cond.code yX7_chosen cX7_chosen 4 (Option.some Jvm.ClassFile.FieldType.int) ∈ gtb := tbm (List.mem_of_getElem? (i := 671) (by decide +kernel)) (by decide +kernel)
theorem ml_RL_85 : Cond.methodLink RL 85 yX7_longest ∈ gtb := tbm (List.mem_of_getElem? (i := 672) (by decide +kernel)) (by decide +kernel)
theorem im_yX7_longest : Cond.instanceMethod yX7_longest ∈ gtb := tbm (List.mem_of_getElem? (i := 673) (by decide +kernel)) (by decide +kernel)
theorem se_yX7_longest : Cond.selects RX7 yX7_longest yX7_longest ∈ gtb := tbm (List.mem_of_getElem? (i := 674) (by decide +kernel)) (by decide +kernel)
theorem cd_yX7_longest : Cond.code yX7_longest cX7_longest 2 (Option.some Jvm.ClassFile.FieldType.int) ∈ gtb := tbm (List.mem_of_getElem? (i := 675) (by decide +kernel)) (by decide +kernel)
theorem ml_RX7_272 : Cond.methodLink RX7 272 yX4_longestAt ∈ gtb := tbm (List.mem_of_getElem? (i := 676) (by decide +kernel)) (by decide +kernel)
theorem im_yX4_longestAt : Cond.instanceMethod yX4_longestAt ∈ gtb := tbm (List.mem_of_getElem? (i := 677) (by decide +kernel)) (by decide +kernel)
theorem se_yX4_longestAt : Cond.selects RX4 yX4_longestAt yX4_longestAt ∈ gtb := tbm (List.mem_of_getElem? (i := 678) (by decide +kernel)) (by decide +kernel)
theorem cd_yX4_longestAt : Cond.code yX4_longestAt cX4_longestAt 4 (Option.some Jvm.ClassFile.FieldType.int) ∈ gtb := tbm (List.mem_of_getElem? (i := 679) (by decide +kernel)) (by decide +kernel)
theorem ml_RX4_161 : Cond.methodLink RX4 161 yX4_isLonger ∈ gtb := tbm (List.mem_of_getElem? (i := 680) (by decide +kernel)) (by decide +kernel)
theorem im_yX4_isLonger : Cond.instanceMethod yX4_isLonger ∈ gtb := tbm (List.mem_of_getElem? (i := 682) (by decide +kernel)) (by decide +kernel)
theorem cd_yX4_isLonger : Cond.code yX4_isLonger cX4_isLonger 3 (Option.some Jvm.ClassFile.FieldType.boolean) ∈ gtb := tbm (List.mem_of_getElem? (i := 683) (by decide +kernel)) (by decide +kernel)
theorem ml_RL_89 : Cond.methodLink RL 89 yX7_sign ∈ gtb := tbm (List.mem_of_getElem? (i := 684) (by decide +kernel)) (by decide +kernel)
theorem im_yX7_sign : Cond.instanceMethod yX7_sign ∈ gtb := tbm (List.mem_of_getElem? (i := 685) (by decide +kernel)) (by decide +kernel)
theorem se_yX7_sign : Cond.selects RX7 yX7_sign yX7_sign ∈ gtb := tbm (List.mem_of_getElem? (i := 686) (by decide +kernel)) (by decide +kernel)
theorem cd_yX7_sign : Cond.code yX7_sign cX7_sign 2 (Option.some Jvm.ClassFile.FieldType.int) ∈ gtb := tbm (List.mem_of_getElem? (i := 687) (by decide +kernel)) (by decide +kernel)
theorem ml_RL_93 : Cond.methodLink RL 93 yX7_same ∈ gtb := tbm (List.mem_of_getElem? (i := 688) (by decide +kernel)) (by decide +kernel)
theorem im_yX7_same : Cond.instanceMethod yX7_same ∈ gtb := tbm (List.mem_of_getElem? (i := 689) (by decide +kernel)) (by decide +kernel)
theorem se_yX7_same : Cond.selects RX7 yX7_same yX7_same ∈ gtb := tbm (List.mem_of_getElem? (i := 690) (by decide +kernel)) (by decide +kernel)
theorem cd_yX7_same : Cond.code yX7_same cX7_same 4 (Option.some Jvm.ClassFile.FieldType.int) ∈ gtb := tbm (List.mem_of_getElem? (i := 691) (by decide +kernel)) (by decide +kernel)
theorem ml_RL_97 : Cond.methodLink RL 97 yX7_keep ∈ gtb := tbm (List.mem_of_getElem? (i := 692) (by decide +kernel)) (by decide +kernel)
theorem im_yX7_keep : Cond.instanceMethod yX7_keep ∈ gtb := tbm (List.mem_of_getElem? (i := 693) (by decide +kernel)) (by decide +kernel)
theorem se_yX7_keep : Cond.selects RX7 yX7_keep yX7_keep ∈ gtb := tbm (List.mem_of_getElem? (i := 694) (by decide +kernel)) (by decide +kernel)
theorem cd_yX7_keep : Cond.code yX7_keep cX7_keep 3 (Option.some Jvm.ClassFile.FieldType.int) ∈ gtb := tbm (List.mem_of_getElem? (i := 695) (by decide +kernel)) (by decide +kernel)
theorem ml_RX7_279 : Cond.methodLink RX7 279 yX7_imageOf ∈ gtb := tbm (List.mem_of_getElem? (i := 696) (by decide +kernel)) (by decide +kernel)
theorem im_yX7_imageOf : Cond.instanceMethod yX7_imageOf ∈ gtb := tbm (List.mem_of_getElem? (i := 698) (by decide +kernel)) (by decide +kernel)
theorem cd_yX7_imageOf : Cond.code yX7_imageOf cX7_imageOf 2 (Option.some (Jvm.ClassFile.FieldType.object "TermScan$Lexicon")) ∈ gtb := tbm (List.mem_of_getElem? (i := 699) (by decide +kernel)) (by decide +kernel)
theorem ml_RX7_283 : Cond.methodLink RX7 283 yX1_copyFrom ∈ gtb := tbm (List.mem_of_getElem? (i := 700) (by decide +kernel)) (by decide +kernel)
theorem im_yX1_copyFrom : Cond.instanceMethod yX1_copyFrom ∈ gtb := tbm (List.mem_of_getElem? (i := 701) (by decide +kernel)) (by decide +kernel)
theorem se_yX1_copyFrom : Cond.selects RX1 yX1_copyFrom yX1_copyFrom ∈ gtb := tbm (List.mem_of_getElem? (i := 702) (by decide +kernel)) (by decide +kernel)
theorem cd_yX1_copyFrom : Cond.code yX1_copyFrom cX1_copyFrom 3 (Option.none : Option Jvm.ClassFile.FieldType) ∈ gtb := tbm (List.mem_of_getElem? (i := 703) (by decide +kernel)) (by decide +kernel)
theorem ml_RL_101 : Cond.methodLink RL 101 yX7_goBack ∈ gtb := tbm (List.mem_of_getElem? (i := 704) (by decide +kernel)) (by decide +kernel)
theorem im_yX7_goBack : Cond.instanceMethod yX7_goBack ∈ gtb := tbm (List.mem_of_getElem? (i := 705) (by decide +kernel)) (by decide +kernel)
theorem se_yX7_goBack : Cond.selects RX7 yX7_goBack yX7_goBack ∈ gtb := tbm (List.mem_of_getElem? (i := 706) (by decide +kernel)) (by decide +kernel)
theorem cd_yX7_goBack : Cond.code yX7_goBack cX7_goBack 3 (Option.some Jvm.ClassFile.FieldType.int) ∈ gtb := tbm (List.mem_of_getElem? (i := 707) (by decide +kernel)) (by decide +kernel)
theorem ml_RL_12 : Cond.methodLink RL 12 yX8_init ∈ gtb := tbm (List.mem_of_getElem? (i := 710) (by decide +kernel)) (by decide +kernel)
theorem im_yX8_init : Cond.instanceMethod yX8_init ∈ gtb := tbm (List.mem_of_getElem? (i := 711) (by decide +kernel)) (by decide +kernel)
theorem cd_yX8_init : Cond.code yX8_init cX8_init 1 (Option.none : Option Jvm.ClassFile.FieldType) ∈ gtb := tbm (List.mem_of_getElem? (i := 712) (by decide +kernel)) (by decide +kernel)
theorem ml_RX8_1 : Cond.methodLink RX8 1 objectInit ∈ gtb := tbm (List.mem_of_getElem? (i := 713) (by decide +kernel)) (by decide +kernel)
theorem fl_RX8_7 : Cond.fieldLink RX8 7 "TermScanModel" "book" "[I" ∈ gtb := tbm (List.mem_of_getElem? (i := 714) (by decide +kernel)) (by decide +kernel)
theorem fl_RX8_13 : Cond.fieldLink RX8 13 "TermScanModel" "images" "[I" ∈ gtb := tbm (List.mem_of_getElem? (i := 715) (by decide +kernel)) (by decide +kernel)
theorem fl_RX8_16 : Cond.fieldLink RX8 16 "TermScanModel" "kept" "[Z" ∈ gtb := tbm (List.mem_of_getElem? (i := 716) (by decide +kernel)) (by decide +kernel)
theorem fl_RX8_20 : Cond.fieldLink RX8 20 "TermScanModel" "slip" "[I" ∈ gtb := tbm (List.mem_of_getElem? (i := 717) (by decide +kernel)) (by decide +kernel)
theorem fl_RX8_53 : Cond.fieldLink RX8 53 "TermScanModel" "spelled" "I" ∈ gtb := tbm (List.mem_of_getElem? (i := 718) (by decide +kernel)) (by decide +kernel)
theorem fl_RX8_23 : Cond.fieldLink RX8 23 "TermScanModel" "text" "[I" ∈ gtb := tbm (List.mem_of_getElem? (i := 719) (by decide +kernel)) (by decide +kernel)
theorem fl_RX8_104 : Cond.fieldLink RX8 104 "TermScanModel" "ended" "I" ∈ gtb := tbm (List.mem_of_getElem? (i := 720) (by decide +kernel)) (by decide +kernel)
theorem fl_RX8_110 : Cond.fieldLink RX8 110 "TermScanModel" "sentences" "I" ∈ gtb := tbm (List.mem_of_getElem? (i := 721) (by decide +kernel)) (by decide +kernel)
theorem fl_RX8_26 : Cond.fieldLink RX8 26 "TermScanModel" "begins" "[I" ∈ gtb := tbm (List.mem_of_getElem? (i := 722) (by decide +kernel)) (by decide +kernel)
theorem fl_RX8_29 : Cond.fieldLink RX8 29 "TermScanModel" "sizes" "[I" ∈ gtb := tbm (List.mem_of_getElem? (i := 723) (by decide +kernel)) (by decide +kernel)
theorem fl_RX8_32 : Cond.fieldLink RX8 32 "TermScanModel" "worths" "[I" ∈ gtb := tbm (List.mem_of_getElem? (i := 724) (by decide +kernel)) (by decide +kernel)
theorem fl_RX8_35 : Cond.fieldLink RX8 35 "TermScanModel" "many" "[I" ∈ gtb := tbm (List.mem_of_getElem? (i := 725) (by decide +kernel)) (by decide +kernel)
theorem fl_RX8_38 : Cond.fieldLink RX8 38 "TermScanModel" "choice" "[I" ∈ gtb := tbm (List.mem_of_getElem? (i := 726) (by decide +kernel)) (by decide +kernel)
theorem fl_RX8_41 : Cond.fieldLink RX8 41 "TermScanModel" "mended" "[I" ∈ gtb := tbm (List.mem_of_getElem? (i := 727) (by decide +kernel)) (by decide +kernel)
theorem ml_RL_17 : Cond.methodLink RL 17 yX8_spell ∈ gtb := tbm (List.mem_of_getElem? (i := 757) (by decide +kernel)) (by decide +kernel)
theorem im_yX8_spell : Cond.instanceMethod yX8_spell ∈ gtb := tbm (List.mem_of_getElem? (i := 758) (by decide +kernel)) (by decide +kernel)
theorem se_yX8_spell : Cond.selects RX8 yX8_spell yX8_spell ∈ gtb := tbm (List.mem_of_getElem? (i := 759) (by decide +kernel)) (by decide +kernel)
theorem cd_yX8_spell : Cond.code yX8_spell cX8_spell 2 (Option.some Jvm.ClassFile.FieldType.int) ∈ gtb := tbm (List.mem_of_getElem? (i := 760) (by decide +kernel)) (by decide +kernel)
theorem ml_RX8_48 : Cond.methodLink RX8 48 yX8_isLetter ∈ gtb := tbm (List.mem_of_getElem? (i := 761) (by decide +kernel)) (by decide +kernel)
theorem st_yX8_isLetter : Cond.static yX8_isLetter ∈ gtb := tbm (List.mem_of_getElem? (i := 762) (by decide +kernel)) (by decide +kernel)
theorem cd_yX8_isLetter : Cond.code yX8_isLetter cX8_isLetter 1 (Option.some Jvm.ClassFile.FieldType.boolean) ∈ gtb := tbm (List.mem_of_getElem? (i := 763) (by decide +kernel)) (by decide +kernel)
theorem ml_RX8_44 : Cond.methodLink RX8 44 yX8_in ∈ gtb := tbm (List.mem_of_getElem? (i := 764) (by decide +kernel)) (by decide +kernel)
theorem st_yX8_in : Cond.static yX8_in ∈ gtb := tbm (List.mem_of_getElem? (i := 765) (by decide +kernel)) (by decide +kernel)
theorem cd_yX8_in : Cond.code yX8_in cX8_in 3 (Option.some Jvm.ClassFile.FieldType.boolean) ∈ gtb := tbm (List.mem_of_getElem? (i := 766) (by decide +kernel)) (by decide +kernel)
theorem kc_RX8_52 : Cond.constant RX8 52 (-1000000002 : Int32) ∈ gtb := tbm (List.mem_of_getElem? (i := 767) (by decide +kernel)) (by decide +kernel)
theorem kc_RX8_57 : Cond.constant RX8 57 (-1000000004 : Int32) ∈ gtb := tbm (List.mem_of_getElem? (i := 768) (by decide +kernel)) (by decide +kernel)
theorem ml_RL_22 : Cond.methodLink RL 22 yX8_term ∈ gtb := tbm (List.mem_of_getElem? (i := 769) (by decide +kernel)) (by decide +kernel)
theorem im_yX8_term : Cond.instanceMethod yX8_term ∈ gtb := tbm (List.mem_of_getElem? (i := 770) (by decide +kernel)) (by decide +kernel)
theorem se_yX8_term : Cond.selects RX8 yX8_term yX8_term ∈ gtb := tbm (List.mem_of_getElem? (i := 771) (by decide +kernel)) (by decide +kernel)
theorem cd_yX8_term : Cond.code yX8_term cX8_term 7 (Option.some Jvm.ClassFile.FieldType.int) ∈ gtb := tbm (List.mem_of_getElem? (i := 772) (by decide +kernel)) (by decide +kernel)
theorem ml_RX8_70 : Cond.methodLink RX8 70 yX8_parts ∈ gtb := tbm (List.mem_of_getElem? (i := 773) (by decide +kernel)) (by decide +kernel)
theorem im_yX8_parts : Cond.instanceMethod yX8_parts ∈ gtb := tbm (List.mem_of_getElem? (i := 775) (by decide +kernel)) (by decide +kernel)
theorem cd_yX8_parts : Cond.code yX8_parts cX8_parts 5 (Option.some Jvm.ClassFile.FieldType.int) ∈ gtb := tbm (List.mem_of_getElem? (i := 776) (by decide +kernel)) (by decide +kernel)
theorem ml_RX8_74 : Cond.methodLink RX8 74 yX8_isTermThere ∈ gtb := tbm (List.mem_of_getElem? (i := 777) (by decide +kernel)) (by decide +kernel)
theorem im_yX8_isTermThere : Cond.instanceMethod yX8_isTermThere ∈ gtb := tbm (List.mem_of_getElem? (i := 779) (by decide +kernel)) (by decide +kernel)
theorem cd_yX8_isTermThere : Cond.code yX8_isTermThere cX8_isTermThere 6 (Option.some Jvm.ClassFile.FieldType.boolean) ∈ gtb := tbm (List.mem_of_getElem? (i := 780) (by decide +kernel)) (by decide +kernel)
theorem ml_RX8_58 : Cond.methodLink RX8 58 yX8_termAt ∈ gtb := tbm (List.mem_of_getElem? (i := 781) (by decide +kernel)) (by decide +kernel)
theorem st_yX8_termAt : Cond.static yX8_termAt ∈ gtb := tbm (List.mem_of_getElem? (i := 782) (by decide +kernel)) (by decide +kernel)
theorem cd_yX8_termAt : Cond.code yX8_termAt cX8_termAt 1 (Option.some Jvm.ClassFile.FieldType.int) ∈ gtb := tbm (List.mem_of_getElem? (i := 783) (by decide +kernel)) (by decide +kernel)
theorem ml_RX8_62 : Cond.methodLink RX8 62 yX8_wordAt ∈ gtb := tbm (List.mem_of_getElem? (i := 784) (by decide +kernel)) (by decide +kernel)
theorem st_yX8_wordAt : Cond.static yX8_wordAt ∈ gtb := tbm (List.mem_of_getElem? (i := 785) (by decide +kernel)) (by decide +kernel)
theorem cd_yX8_wordAt : Cond.code yX8_wordAt cX8_wordAt 2 (Option.some Jvm.ClassFile.FieldType.int) ∈ gtb := tbm (List.mem_of_getElem? (i := 786) (by decide +kernel)) (by decide +kernel)
theorem ml_RX8_66 : Cond.methodLink RX8 66 yX8_isSame ∈ gtb := tbm (List.mem_of_getElem? (i := 787) (by decide +kernel)) (by decide +kernel)
theorem im_yX8_isSame : Cond.instanceMethod yX8_isSame ∈ gtb := tbm (List.mem_of_getElem? (i := 789) (by decide +kernel)) (by decide +kernel)
theorem cd_yX8_isSame : Cond.code yX8_isSame cX8_isSame 5 (Option.some Jvm.ClassFile.FieldType.boolean) ∈ gtb := tbm (List.mem_of_getElem? (i := 790) (by decide +kernel)) (by decide +kernel)
theorem kc_RX8_77 : Cond.constant RX8 77 (-1000000003 : Int32) ∈ gtb := tbm (List.mem_of_getElem? (i := 791) (by decide +kernel)) (by decide +kernel)
theorem ml_RX8_78 : Cond.methodLink RX8 78 yX8_writes ∈ gtb := tbm (List.mem_of_getElem? (i := 792) (by decide +kernel)) (by decide +kernel)
theorem im_yX8_writes : Cond.instanceMethod yX8_writes ∈ gtb := tbm (List.mem_of_getElem? (i := 794) (by decide +kernel)) (by decide +kernel)
theorem cd_yX8_writes : Cond.code yX8_writes cX8_writes 4 (Option.none : Option Jvm.ClassFile.FieldType) ∈ gtb := tbm (List.mem_of_getElem? (i := 795) (by decide +kernel)) (by decide +kernel)
theorem ml_RL_27 : Cond.methodLink RL 27 yX8_ending ∈ gtb := tbm (List.mem_of_getElem? (i := 796) (by decide +kernel)) (by decide +kernel)
theorem im_yX8_ending : Cond.instanceMethod yX8_ending ∈ gtb := tbm (List.mem_of_getElem? (i := 797) (by decide +kernel)) (by decide +kernel)
theorem se_yX8_ending : Cond.selects RX8 yX8_ending yX8_ending ∈ gtb := tbm (List.mem_of_getElem? (i := 798) (by decide +kernel)) (by decide +kernel)
theorem cd_yX8_ending : Cond.code yX8_ending cX8_ending 4 (Option.some Jvm.ClassFile.FieldType.int) ∈ gtb := tbm (List.mem_of_getElem? (i := 799) (by decide +kernel)) (by decide +kernel)
theorem ml_RX8_82 : Cond.methodLink RX8 82 yX8_endingAt ∈ gtb := tbm (List.mem_of_getElem? (i := 800) (by decide +kernel)) (by decide +kernel)
theorem st_yX8_endingAt : Cond.static yX8_endingAt ∈ gtb := tbm (List.mem_of_getElem? (i := 801) (by decide +kernel)) (by decide +kernel)
theorem cd_yX8_endingAt : Cond.code yX8_endingAt cX8_endingAt 1 (Option.some Jvm.ClassFile.FieldType.int) ∈ gtb := tbm (List.mem_of_getElem? (i := 802) (by decide +kernel)) (by decide +kernel)
theorem ml_RL_31 : Cond.methodLink RL 31 yX8_dropTerm ∈ gtb := tbm (List.mem_of_getElem? (i := 803) (by decide +kernel)) (by decide +kernel)
theorem im_yX8_dropTerm : Cond.instanceMethod yX8_dropTerm ∈ gtb := tbm (List.mem_of_getElem? (i := 804) (by decide +kernel)) (by decide +kernel)
theorem se_yX8_dropTerm : Cond.selects RX8 yX8_dropTerm yX8_dropTerm ∈ gtb := tbm (List.mem_of_getElem? (i := 805) (by decide +kernel)) (by decide +kernel)
theorem cd_yX8_dropTerm : Cond.code yX8_dropTerm cX8_dropTerm 4 (Option.some Jvm.ClassFile.FieldType.int) ∈ gtb := tbm (List.mem_of_getElem? (i := 806) (by decide +kernel)) (by decide +kernel)
theorem ml_RX8_85 : Cond.methodLink RX8 85 yX8_isTerm ∈ gtb := tbm (List.mem_of_getElem? (i := 807) (by decide +kernel)) (by decide +kernel)
theorem im_yX8_isTerm : Cond.instanceMethod yX8_isTerm ∈ gtb := tbm (List.mem_of_getElem? (i := 809) (by decide +kernel)) (by decide +kernel)
theorem cd_yX8_isTerm : Cond.code yX8_isTerm cX8_isTerm 2 (Option.some Jvm.ClassFile.FieldType.boolean) ∈ gtb := tbm (List.mem_of_getElem? (i := 810) (by decide +kernel)) (by decide +kernel)
theorem kc_RX8_88 : Cond.constant RX8 88 (-1000000001 : Int32) ∈ gtb := tbm (List.mem_of_getElem? (i := 811) (by decide +kernel)) (by decide +kernel)
theorem ml_RX8_89 : Cond.methodLink RX8 89 yX8_isPreferred ∈ gtb := tbm (List.mem_of_getElem? (i := 812) (by decide +kernel)) (by decide +kernel)
theorem im_yX8_isPreferred : Cond.instanceMethod yX8_isPreferred ∈ gtb := tbm (List.mem_of_getElem? (i := 814) (by decide +kernel)) (by decide +kernel)
theorem cd_yX8_isPreferred : Cond.code yX8_isPreferred cX8_isPreferred 4 (Option.some Jvm.ClassFile.FieldType.boolean) ∈ gtb := tbm (List.mem_of_getElem? (i := 815) (by decide +kernel)) (by decide +kernel)
theorem ml_RL_35 : Cond.methodLink RL 35 yX8_dropEnding ∈ gtb := tbm (List.mem_of_getElem? (i := 816) (by decide +kernel)) (by decide +kernel)
theorem im_yX8_dropEnding : Cond.instanceMethod yX8_dropEnding ∈ gtb := tbm (List.mem_of_getElem? (i := 817) (by decide +kernel)) (by decide +kernel)
theorem se_yX8_dropEnding : Cond.selects RX8 yX8_dropEnding yX8_dropEnding ∈ gtb := tbm (List.mem_of_getElem? (i := 818) (by decide +kernel)) (by decide +kernel)
theorem cd_yX8_dropEnding : Cond.code yX8_dropEnding cX8_dropEnding 3 (Option.some Jvm.ClassFile.FieldType.int) ∈ gtb := tbm (List.mem_of_getElem? (i := 819) (by decide +kernel)) (by decide +kernel)
theorem ml_RX8_92 : Cond.methodLink RX8 92 yX8_isEnding ∈ gtb := tbm (List.mem_of_getElem? (i := 820) (by decide +kernel)) (by decide +kernel)
theorem im_yX8_isEnding : Cond.instanceMethod yX8_isEnding ∈ gtb := tbm (List.mem_of_getElem? (i := 822) (by decide +kernel)) (by decide +kernel)
theorem cd_yX8_isEnding : Cond.code yX8_isEnding cX8_isEnding 2 (Option.some Jvm.ClassFile.FieldType.boolean) ∈ gtb := tbm (List.mem_of_getElem? (i := 823) (by decide +kernel)) (by decide +kernel)
theorem ml_RL_39 : Cond.methodLink RL 39 yX8_forbid ∈ gtb := tbm (List.mem_of_getElem? (i := 824) (by decide +kernel)) (by decide +kernel)
theorem im_yX8_forbid : Cond.instanceMethod yX8_forbid ∈ gtb := tbm (List.mem_of_getElem? (i := 825) (by decide +kernel)) (by decide +kernel)
theorem se_yX8_forbid : Cond.selects RX8 yX8_forbid yX8_forbid ∈ gtb := tbm (List.mem_of_getElem? (i := 826) (by decide +kernel)) (by decide +kernel)
theorem cd_yX8_forbid : Cond.code yX8_forbid cX8_forbid 3 (Option.some Jvm.ClassFile.FieldType.int) ∈ gtb := tbm (List.mem_of_getElem? (i := 827) (by decide +kernel)) (by decide +kernel)
theorem ml_RX8_95 : Cond.methodLink RX8 95 yX8_forbidden ∈ gtb := tbm (List.mem_of_getElem? (i := 828) (by decide +kernel)) (by decide +kernel)
theorem im_yX8_forbidden : Cond.instanceMethod yX8_forbidden ∈ gtb := tbm (List.mem_of_getElem? (i := 830) (by decide +kernel)) (by decide +kernel)
theorem cd_yX8_forbidden : Cond.code yX8_forbidden cX8_forbidden 3 (Option.some Jvm.ClassFile.FieldType.int) ∈ gtb := tbm (List.mem_of_getElem? (i := 831) (by decide +kernel)) (by decide +kernel)
theorem ml_RX8_98 : Cond.methodLink RX8 98 yX8_ones ∈ gtb := tbm (List.mem_of_getElem? (i := 832) (by decide +kernel)) (by decide +kernel)
theorem st_yX8_ones : Cond.static yX8_ones ∈ gtb := tbm (List.mem_of_getElem? (i := 833) (by decide +kernel)) (by decide +kernel)
theorem cd_yX8_ones : Cond.code yX8_ones cX8_ones 3 (Option.some Jvm.ClassFile.FieldType.int) ∈ gtb := tbm (List.mem_of_getElem? (i := 834) (by decide +kernel)) (by decide +kernel)
theorem ml_RL_43 : Cond.methodLink RL 43 yX8_allow ∈ gtb := tbm (List.mem_of_getElem? (i := 835) (by decide +kernel)) (by decide +kernel)
theorem im_yX8_allow : Cond.instanceMethod yX8_allow ∈ gtb := tbm (List.mem_of_getElem? (i := 836) (by decide +kernel)) (by decide +kernel)
theorem se_yX8_allow : Cond.selects RX8 yX8_allow yX8_allow ∈ gtb := tbm (List.mem_of_getElem? (i := 837) (by decide +kernel)) (by decide +kernel)
theorem cd_yX8_allow : Cond.code yX8_allow cX8_allow 2 (Option.some Jvm.ClassFile.FieldType.int) ∈ gtb := tbm (List.mem_of_getElem? (i := 838) (by decide +kernel)) (by decide +kernel)
theorem ml_RL_48 : Cond.methodLink RL 48 yX8_change ∈ gtb := tbm (List.mem_of_getElem? (i := 839) (by decide +kernel)) (by decide +kernel)
theorem im_yX8_change : Cond.instanceMethod yX8_change ∈ gtb := tbm (List.mem_of_getElem? (i := 840) (by decide +kernel)) (by decide +kernel)
theorem se_yX8_change : Cond.selects RX8 yX8_change yX8_change ∈ gtb := tbm (List.mem_of_getElem? (i := 841) (by decide +kernel)) (by decide +kernel)
theorem cd_yX8_change : Cond.code yX8_change cX8_change 7 (Option.some Jvm.ClassFile.FieldType.int) ∈ gtb := tbm (List.mem_of_getElem? (i := 842) (by decide +kernel)) (by decide +kernel)
theorem ml_RL_52 : Cond.methodLink RL 52 yX8_termOf ∈ gtb := tbm (List.mem_of_getElem? (i := 843) (by decide +kernel)) (by decide +kernel)
theorem im_yX8_termOf : Cond.instanceMethod yX8_termOf ∈ gtb := tbm (List.mem_of_getElem? (i := 844) (by decide +kernel)) (by decide +kernel)
theorem se_yX8_termOf : Cond.selects RX8 yX8_termOf yX8_termOf ∈ gtb := tbm (List.mem_of_getElem? (i := 845) (by decide +kernel)) (by decide +kernel)
theorem cd_yX8_termOf : Cond.code yX8_termOf cX8_termOf 5 (Option.some Jvm.ClassFile.FieldType.int) ∈ gtb := tbm (List.mem_of_getElem? (i := 846) (by decide +kernel)) (by decide +kernel)
theorem ml_RX8_101 : Cond.methodLink RX8 101 yX8_choose ∈ gtb := tbm (List.mem_of_getElem? (i := 847) (by decide +kernel)) (by decide +kernel)
theorem im_yX8_choose : Cond.instanceMethod yX8_choose ∈ gtb := tbm (List.mem_of_getElem? (i := 849) (by decide +kernel)) (by decide +kernel)
theorem cd_yX8_choose : Cond.code yX8_choose cX8_choose 7 (Option.none : Option Jvm.ClassFile.FieldType) ∈ gtb := tbm (List.mem_of_getElem? (i := 850) (by decide +kernel)) (by decide +kernel)
theorem ml_RX8_107 : Cond.methodLink RX8 107 yX8_isFound ∈ gtb := tbm (List.mem_of_getElem? (i := 851) (by decide +kernel)) (by decide +kernel)
theorem im_yX8_isFound : Cond.instanceMethod yX8_isFound ∈ gtb := tbm (List.mem_of_getElem? (i := 853) (by decide +kernel)) (by decide +kernel)
theorem cd_yX8_isFound : Cond.code yX8_isFound cX8_isFound 3 (Option.some Jvm.ClassFile.FieldType.boolean) ∈ gtb := tbm (List.mem_of_getElem? (i := 854) (by decide +kernel)) (by decide +kernel)
theorem ml_RX8_152 : Cond.methodLink RX8 152 yX8_isMet ∈ gtb := tbm (List.mem_of_getElem? (i := 855) (by decide +kernel)) (by decide +kernel)
theorem im_yX8_isMet : Cond.instanceMethod yX8_isMet ∈ gtb := tbm (List.mem_of_getElem? (i := 857) (by decide +kernel)) (by decide +kernel)
theorem cd_yX8_isMet : Cond.code yX8_isMet cX8_isMet 6 (Option.some Jvm.ClassFile.FieldType.boolean) ∈ gtb := tbm (List.mem_of_getElem? (i := 858) (by decide +kernel)) (by decide +kernel)
theorem ml_RX8_149 : Cond.methodLink RX8 149 yX8_meets ∈ gtb := tbm (List.mem_of_getElem? (i := 859) (by decide +kernel)) (by decide +kernel)
theorem im_yX8_meets : Cond.instanceMethod yX8_meets ∈ gtb := tbm (List.mem_of_getElem? (i := 861) (by decide +kernel)) (by decide +kernel)
theorem cd_yX8_meets : Cond.code yX8_meets cX8_meets 7 (Option.some Jvm.ClassFile.FieldType.boolean) ∈ gtb := tbm (List.mem_of_getElem? (i := 862) (by decide +kernel)) (by decide +kernel)
theorem ml_RX8_143 : Cond.methodLink RX8 143 yX8_isBegun ∈ gtb := tbm (List.mem_of_getElem? (i := 863) (by decide +kernel)) (by decide +kernel)
theorem im_yX8_isBegun : Cond.instanceMethod yX8_isBegun ∈ gtb := tbm (List.mem_of_getElem? (i := 865) (by decide +kernel)) (by decide +kernel)
theorem cd_yX8_isBegun : Cond.code yX8_isBegun cX8_isBegun 5 (Option.some Jvm.ClassFile.FieldType.boolean) ∈ gtb := tbm (List.mem_of_getElem? (i := 866) (by decide +kernel)) (by decide +kernel)
theorem ml_RX8_146 : Cond.methodLink RX8 146 yX8_isAs ∈ gtb := tbm (List.mem_of_getElem? (i := 867) (by decide +kernel)) (by decide +kernel)
theorem im_yX8_isAs : Cond.instanceMethod yX8_isAs ∈ gtb := tbm (List.mem_of_getElem? (i := 869) (by decide +kernel)) (by decide +kernel)
theorem cd_yX8_isAs : Cond.code yX8_isAs cX8_isAs 6 (Option.some Jvm.ClassFile.FieldType.boolean) ∈ gtb := tbm (List.mem_of_getElem? (i := 870) (by decide +kernel)) (by decide +kernel)
theorem ml_RX8_155 : Cond.methodLink RX8 155 yX8_worthOf ∈ gtb := tbm (List.mem_of_getElem? (i := 871) (by decide +kernel)) (by decide +kernel)
theorem im_yX8_worthOf : Cond.instanceMethod yX8_worthOf ∈ gtb := tbm (List.mem_of_getElem? (i := 873) (by decide +kernel)) (by decide +kernel)
theorem cd_yX8_worthOf : Cond.code yX8_worthOf cX8_worthOf 2 (Option.some Jvm.ClassFile.FieldType.int) ∈ gtb := tbm (List.mem_of_getElem? (i := 874) (by decide +kernel)) (by decide +kernel)
theorem ml_RL_56 : Cond.methodLink RL 56 yX8_letter ∈ gtb := tbm (List.mem_of_getElem? (i := 875) (by decide +kernel)) (by decide +kernel)
theorem im_yX8_letter : Cond.instanceMethod yX8_letter ∈ gtb := tbm (List.mem_of_getElem? (i := 876) (by decide +kernel)) (by decide +kernel)
theorem se_yX8_letter : Cond.selects RX8 yX8_letter yX8_letter ∈ gtb := tbm (List.mem_of_getElem? (i := 877) (by decide +kernel)) (by decide +kernel)
theorem cd_yX8_letter : Cond.code yX8_letter cX8_letter 5 (Option.some Jvm.ClassFile.FieldType.int) ∈ gtb := tbm (List.mem_of_getElem? (i := 878) (by decide +kernel)) (by decide +kernel)
theorem ml_RL_60 : Cond.methodLink RL 60 yX8_read ∈ gtb := tbm (List.mem_of_getElem? (i := 879) (by decide +kernel)) (by decide +kernel)
theorem im_yX8_read : Cond.instanceMethod yX8_read ∈ gtb := tbm (List.mem_of_getElem? (i := 880) (by decide +kernel)) (by decide +kernel)
theorem se_yX8_read : Cond.selects RX8 yX8_read yX8_read ∈ gtb := tbm (List.mem_of_getElem? (i := 881) (by decide +kernel)) (by decide +kernel)
theorem cd_yX8_read : Cond.code yX8_read cX8_read 2 (Option.some Jvm.ClassFile.FieldType.int) ∈ gtb := tbm (List.mem_of_getElem? (i := 882) (by decide +kernel)) (by decide +kernel)
theorem ml_RX8_124 : Cond.methodLink RX8 124 yX8_comes ∈ gtb := tbm (List.mem_of_getElem? (i := 883) (by decide +kernel)) (by decide +kernel)
theorem im_yX8_comes : Cond.instanceMethod yX8_comes ∈ gtb := tbm (List.mem_of_getElem? (i := 885) (by decide +kernel)) (by decide +kernel)
theorem cd_yX8_comes : Cond.code yX8_comes cX8_comes 3 (Option.none : Option Jvm.ClassFile.FieldType) ∈ gtb := tbm (List.mem_of_getElem? (i := 886) (by decide +kernel)) (by decide +kernel)
theorem ml_RX8_117 : Cond.methodLink RX8 117 yX8_ends ∈ gtb := tbm (List.mem_of_getElem? (i := 887) (by decide +kernel)) (by decide +kernel)
theorem im_yX8_ends : Cond.instanceMethod yX8_ends ∈ gtb := tbm (List.mem_of_getElem? (i := 889) (by decide +kernel)) (by decide +kernel)
theorem cd_yX8_ends : Cond.code yX8_ends cX8_ends 1 (Option.none : Option Jvm.ClassFile.FieldType) ∈ gtb := tbm (List.mem_of_getElem? (i := 890) (by decide +kernel)) (by decide +kernel)
theorem ml_RX8_113 : Cond.methodLink RX8 113 yX8_clears ∈ gtb := tbm (List.mem_of_getElem? (i := 891) (by decide +kernel)) (by decide +kernel)
theorem im_yX8_clears : Cond.instanceMethod yX8_clears ∈ gtb := tbm (List.mem_of_getElem? (i := 893) (by decide +kernel)) (by decide +kernel)
theorem cd_yX8_clears : Cond.code yX8_clears cX8_clears 3 (Option.none : Option Jvm.ClassFile.FieldType) ∈ gtb := tbm (List.mem_of_getElem? (i := 894) (by decide +kernel)) (by decide +kernel)
theorem ml_RX8_120 : Cond.methodLink RX8 120 yX8_hasWord ∈ gtb := tbm (List.mem_of_getElem? (i := 895) (by decide +kernel)) (by decide +kernel)
theorem im_yX8_hasWord : Cond.instanceMethod yX8_hasWord ∈ gtb := tbm (List.mem_of_getElem? (i := 897) (by decide +kernel)) (by decide +kernel)
theorem cd_yX8_hasWord : Cond.code yX8_hasWord cX8_hasWord 1 (Option.some Jvm.ClassFile.FieldType.boolean) ∈ gtb := tbm (List.mem_of_getElem? (i := 898) (by decide +kernel)) (by decide +kernel)
theorem ml_RL_64 : Cond.methodLink RL 64 yX8_wipe ∈ gtb := tbm (List.mem_of_getElem? (i := 899) (by decide +kernel)) (by decide +kernel)
theorem im_yX8_wipe : Cond.instanceMethod yX8_wipe ∈ gtb := tbm (List.mem_of_getElem? (i := 900) (by decide +kernel)) (by decide +kernel)
theorem se_yX8_wipe : Cond.selects RX8 yX8_wipe yX8_wipe ∈ gtb := tbm (List.mem_of_getElem? (i := 901) (by decide +kernel)) (by decide +kernel)
theorem cd_yX8_wipe : Cond.code yX8_wipe cX8_wipe 2 (Option.some Jvm.ClassFile.FieldType.int) ∈ gtb := tbm (List.mem_of_getElem? (i := 902) (by decide +kernel)) (by decide +kernel)
theorem ml_RL_68 : Cond.methodLink RL 68 yX8_drift ∈ gtb := tbm (List.mem_of_getElem? (i := 903) (by decide +kernel)) (by decide +kernel)
theorem im_yX8_drift : Cond.instanceMethod yX8_drift ∈ gtb := tbm (List.mem_of_getElem? (i := 904) (by decide +kernel)) (by decide +kernel)
theorem se_yX8_drift : Cond.selects RX8 yX8_drift yX8_drift ∈ gtb := tbm (List.mem_of_getElem? (i := 905) (by decide +kernel)) (by decide +kernel)
theorem cd_yX8_drift : Cond.code yX8_drift cX8_drift 8 (Option.some Jvm.ClassFile.FieldType.int) ∈ gtb := tbm (List.mem_of_getElem? (i := 906) (by decide +kernel)) (by decide +kernel)
theorem kc_RX8_131 : Cond.constant RX8 131 (999999 : Int32) ∈ gtb := tbm (List.mem_of_getElem? (i := 907) (by decide +kernel)) (by decide +kernel)
theorem ml_RX8_132 : Cond.methodLink RX8 132 yX8_next ∈ gtb := tbm (List.mem_of_getElem? (i := 908) (by decide +kernel)) (by decide +kernel)
theorem st_yX8_next : Cond.static yX8_next ∈ gtb := tbm (List.mem_of_getElem? (i := 909) (by decide +kernel)) (by decide +kernel)
theorem cd_yX8_next : Cond.code yX8_next cX8_next 2 (Option.some Jvm.ClassFile.FieldType.long) ∈ gtb := tbm (List.mem_of_getElem? (i := 910) (by decide +kernel)) (by decide +kernel)
theorem kl_RX8_127 : Cond.constantLong RX8 127 (16807 : Int64) ∈ gtb := tbm (List.mem_of_getElem? (i := 911) (by decide +kernel)) (by decide +kernel)
theorem kl_RX8_129 : Cond.constantLong RX8 129 (2147483647 : Int64) ∈ gtb := tbm (List.mem_of_getElem? (i := 912) (by decide +kernel)) (by decide +kernel)
theorem kl_RX8_136 : Cond.constantLong RX8 136 (8 : Int64) ∈ gtb := tbm (List.mem_of_getElem? (i := 913) (by decide +kernel)) (by decide +kernel)
theorem ml_RX8_138 : Cond.methodLink RX8 138 yX8_comesAll ∈ gtb := tbm (List.mem_of_getElem? (i := 914) (by decide +kernel)) (by decide +kernel)
theorem im_yX8_comesAll : Cond.instanceMethod yX8_comesAll ∈ gtb := tbm (List.mem_of_getElem? (i := 916) (by decide +kernel)) (by decide +kernel)
theorem cd_yX8_comesAll : Cond.code yX8_comesAll cX8_comesAll 3 (Option.none : Option Jvm.ClassFile.FieldType) ∈ gtb := tbm (List.mem_of_getElem? (i := 917) (by decide +kernel)) (by decide +kernel)
theorem kl_RX8_141 : Cond.constantLong RX8 141 (3 : Int64) ∈ gtb := tbm (List.mem_of_getElem? (i := 918) (by decide +kernel)) (by decide +kernel)
theorem ml_RL_72 : Cond.methodLink RL 72 yX8_word ∈ gtb := tbm (List.mem_of_getElem? (i := 919) (by decide +kernel)) (by decide +kernel)
theorem im_yX8_word : Cond.instanceMethod yX8_word ∈ gtb := tbm (List.mem_of_getElem? (i := 920) (by decide +kernel)) (by decide +kernel)
theorem se_yX8_word : Cond.selects RX8 yX8_word yX8_word ∈ gtb := tbm (List.mem_of_getElem? (i := 921) (by decide +kernel)) (by decide +kernel)
theorem cd_yX8_word : Cond.code yX8_word cX8_word 3 (Option.some Jvm.ClassFile.FieldType.int) ∈ gtb := tbm (List.mem_of_getElem? (i := 922) (by decide +kernel)) (by decide +kernel)
theorem ml_RX8_158 : Cond.methodLink RX8 158 yX8_isWord ∈ gtb := tbm (List.mem_of_getElem? (i := 923) (by decide +kernel)) (by decide +kernel)
theorem im_yX8_isWord : Cond.instanceMethod yX8_isWord ∈ gtb := tbm (List.mem_of_getElem? (i := 925) (by decide +kernel)) (by decide +kernel)
theorem cd_yX8_isWord : Cond.code yX8_isWord cX8_isWord 2 (Option.some Jvm.ClassFile.FieldType.boolean) ∈ gtb := tbm (List.mem_of_getElem? (i := 926) (by decide +kernel)) (by decide +kernel)
theorem ml_RX8_161 : Cond.methodLink RX8 161 yX8_reach ∈ gtb := tbm (List.mem_of_getElem? (i := 927) (by decide +kernel)) (by decide +kernel)
theorem im_yX8_reach : Cond.instanceMethod yX8_reach ∈ gtb := tbm (List.mem_of_getElem? (i := 929) (by decide +kernel)) (by decide +kernel)
theorem cd_yX8_reach : Cond.code yX8_reach cX8_reach 5 (Option.some Jvm.ClassFile.FieldType.int) ∈ gtb := tbm (List.mem_of_getElem? (i := 930) (by decide +kernel)) (by decide +kernel)
theorem ml_RX8_164 : Cond.methodLink RX8 164 yX8_foundOver ∈ gtb := tbm (List.mem_of_getElem? (i := 931) (by decide +kernel)) (by decide +kernel)
theorem im_yX8_foundOver : Cond.instanceMethod yX8_foundOver ∈ gtb := tbm (List.mem_of_getElem? (i := 933) (by decide +kernel)) (by decide +kernel)
theorem cd_yX8_foundOver : Cond.code yX8_foundOver cX8_foundOver 5 (Option.some Jvm.ClassFile.FieldType.int) ∈ gtb := tbm (List.mem_of_getElem? (i := 934) (by decide +kernel)) (by decide +kernel)
theorem ml_RX8_167 : Cond.methodLink RX8 167 yX8_chosenOver ∈ gtb := tbm (List.mem_of_getElem? (i := 935) (by decide +kernel)) (by decide +kernel)
theorem im_yX8_chosenOver : Cond.instanceMethod yX8_chosenOver ∈ gtb := tbm (List.mem_of_getElem? (i := 937) (by decide +kernel)) (by decide +kernel)
theorem cd_yX8_chosenOver : Cond.code yX8_chosenOver cX8_chosenOver 4 (Option.some Jvm.ClassFile.FieldType.int) ∈ gtb := tbm (List.mem_of_getElem? (i := 938) (by decide +kernel)) (by decide +kernel)
theorem ml_RL_76 : Cond.methodLink RL 76 yX8_told ∈ gtb := tbm (List.mem_of_getElem? (i := 939) (by decide +kernel)) (by decide +kernel)
theorem im_yX8_told : Cond.instanceMethod yX8_told ∈ gtb := tbm (List.mem_of_getElem? (i := 940) (by decide +kernel)) (by decide +kernel)
theorem se_yX8_told : Cond.selects RX8 yX8_told yX8_told ∈ gtb := tbm (List.mem_of_getElem? (i := 941) (by decide +kernel)) (by decide +kernel)
theorem cd_yX8_told : Cond.code yX8_told cX8_told 2 (Option.some Jvm.ClassFile.FieldType.int) ∈ gtb := tbm (List.mem_of_getElem? (i := 942) (by decide +kernel)) (by decide +kernel)
theorem ml_RX8_170 : Cond.methodLink RX8 170 yX8_counts ∈ gtb := tbm (List.mem_of_getElem? (i := 943) (by decide +kernel)) (by decide +kernel)
theorem im_yX8_counts : Cond.instanceMethod yX8_counts ∈ gtb := tbm (List.mem_of_getElem? (i := 945) (by decide +kernel)) (by decide +kernel)
theorem cd_yX8_counts : Cond.code yX8_counts cX8_counts 7 (Option.some Jvm.ClassFile.FieldType.int) ∈ gtb := tbm (List.mem_of_getElem? (i := 946) (by decide +kernel)) (by decide +kernel)
theorem ml_RX8_173 : Cond.methodLink RX8 173 yX8_mends ∈ gtb := tbm (List.mem_of_getElem? (i := 947) (by decide +kernel)) (by decide +kernel)
theorem im_yX8_mends : Cond.instanceMethod yX8_mends ∈ gtb := tbm (List.mem_of_getElem? (i := 949) (by decide +kernel)) (by decide +kernel)
theorem cd_yX8_mends : Cond.code yX8_mends cX8_mends 10 (Option.some Jvm.ClassFile.FieldType.int) ∈ gtb := tbm (List.mem_of_getElem? (i := 950) (by decide +kernel)) (by decide +kernel)
theorem ml_RL_80 : Cond.methodLink RL 80 yX8_found ∈ gtb := tbm (List.mem_of_getElem? (i := 951) (by decide +kernel)) (by decide +kernel)
theorem im_yX8_found : Cond.instanceMethod yX8_found ∈ gtb := tbm (List.mem_of_getElem? (i := 952) (by decide +kernel)) (by decide +kernel)
theorem se_yX8_found : Cond.selects RX8 yX8_found yX8_found ∈ gtb := tbm (List.mem_of_getElem? (i := 953) (by decide +kernel)) (by decide +kernel)
theorem cd_yX8_found : Cond.code yX8_found cX8_found 4 (Option.some Jvm.ClassFile.FieldType.int) ∈ gtb := tbm (List.mem_of_getElem? (i := 954) (by decide +kernel)) (by decide +kernel)
theorem ml_RX8_176 : Cond.methodLink RX8 176 yX8_place ∈ gtb := tbm (List.mem_of_getElem? (i := 955) (by decide +kernel)) (by decide +kernel)
theorem im_yX8_place : Cond.instanceMethod yX8_place ∈ gtb := tbm (List.mem_of_getElem? (i := 957) (by decide +kernel)) (by decide +kernel)
theorem cd_yX8_place : Cond.code yX8_place cX8_place 7 (Option.some Jvm.ClassFile.FieldType.int) ∈ gtb := tbm (List.mem_of_getElem? (i := 958) (by decide +kernel)) (by decide +kernel)
theorem ml_RL_84 : Cond.methodLink RL 84 yX8_chosen ∈ gtb := tbm (List.mem_of_getElem? (i := 959) (by decide +kernel)) (by decide +kernel)
theorem im_yX8_chosen : Cond.instanceMethod yX8_chosen ∈ gtb := tbm (List.mem_of_getElem? (i := 960) (by decide +kernel)) (by decide +kernel)
theorem se_yX8_chosen : Cond.selects RX8 yX8_chosen yX8_chosen ∈ gtb := tbm (List.mem_of_getElem? (i := 961) (by decide +kernel)) (by decide +kernel)
theorem cd_yX8_chosen : Cond.code yX8_chosen cX8_chosen 4 (Option.some Jvm.ClassFile.FieldType.int) ∈ gtb := tbm (List.mem_of_getElem? (i := 962) (by decide +kernel)) (by decide +kernel)
theorem ml_RL_88 : Cond.methodLink RL 88 yX8_longest ∈ gtb := tbm (List.mem_of_getElem? (i := 963) (by decide +kernel)) (by decide +kernel)
theorem im_yX8_longest : Cond.instanceMethod yX8_longest ∈ gtb := tbm (List.mem_of_getElem? (i := 964) (by decide +kernel)) (by decide +kernel)
theorem se_yX8_longest : Cond.selects RX8 yX8_longest yX8_longest ∈ gtb := tbm (List.mem_of_getElem? (i := 965) (by decide +kernel)) (by decide +kernel)
theorem cd_yX8_longest : Cond.code yX8_longest cX8_longest 7 (Option.some Jvm.ClassFile.FieldType.int) ∈ gtb := tbm (List.mem_of_getElem? (i := 966) (by decide +kernel)) (by decide +kernel)
theorem ml_RL_92 : Cond.methodLink RL 92 yX8_sign ∈ gtb := tbm (List.mem_of_getElem? (i := 967) (by decide +kernel)) (by decide +kernel)
theorem im_yX8_sign : Cond.instanceMethod yX8_sign ∈ gtb := tbm (List.mem_of_getElem? (i := 968) (by decide +kernel)) (by decide +kernel)
theorem se_yX8_sign : Cond.selects RX8 yX8_sign yX8_sign ∈ gtb := tbm (List.mem_of_getElem? (i := 969) (by decide +kernel)) (by decide +kernel)
theorem cd_yX8_sign : Cond.code yX8_sign cX8_sign 2 (Option.some Jvm.ClassFile.FieldType.int) ∈ gtb := tbm (List.mem_of_getElem? (i := 970) (by decide +kernel)) (by decide +kernel)
theorem ml_RL_96 : Cond.methodLink RL 96 yX8_same ∈ gtb := tbm (List.mem_of_getElem? (i := 971) (by decide +kernel)) (by decide +kernel)
theorem im_yX8_same : Cond.instanceMethod yX8_same ∈ gtb := tbm (List.mem_of_getElem? (i := 972) (by decide +kernel)) (by decide +kernel)
theorem se_yX8_same : Cond.selects RX8 yX8_same yX8_same ∈ gtb := tbm (List.mem_of_getElem? (i := 973) (by decide +kernel)) (by decide +kernel)
theorem cd_yX8_same : Cond.code yX8_same cX8_same 5 (Option.some Jvm.ClassFile.FieldType.int) ∈ gtb := tbm (List.mem_of_getElem? (i := 974) (by decide +kernel)) (by decide +kernel)
theorem ml_RL_100 : Cond.methodLink RL 100 yX8_keep ∈ gtb := tbm (List.mem_of_getElem? (i := 975) (by decide +kernel)) (by decide +kernel)
theorem im_yX8_keep : Cond.instanceMethod yX8_keep ∈ gtb := tbm (List.mem_of_getElem? (i := 976) (by decide +kernel)) (by decide +kernel)
theorem se_yX8_keep : Cond.selects RX8 yX8_keep yX8_keep ∈ gtb := tbm (List.mem_of_getElem? (i := 977) (by decide +kernel)) (by decide +kernel)
theorem cd_yX8_keep : Cond.code yX8_keep cX8_keep 3 (Option.some Jvm.ClassFile.FieldType.int) ∈ gtb := tbm (List.mem_of_getElem? (i := 978) (by decide +kernel)) (by decide +kernel)
theorem ml_RL_104 : Cond.methodLink RL 104 yX8_goBack ∈ gtb := tbm (List.mem_of_getElem? (i := 979) (by decide +kernel)) (by decide +kernel)
theorem im_yX8_goBack : Cond.instanceMethod yX8_goBack ∈ gtb := tbm (List.mem_of_getElem? (i := 980) (by decide +kernel)) (by decide +kernel)
theorem se_yX8_goBack : Cond.selects RX8 yX8_goBack yX8_goBack ∈ gtb := tbm (List.mem_of_getElem? (i := 981) (by decide +kernel)) (by decide +kernel)
theorem cd_yX8_goBack : Cond.code yX8_goBack cX8_goBack 3 (Option.some Jvm.ClassFile.FieldType.int) ∈ gtb := tbm (List.mem_of_getElem? (i := 982) (by decide +kernel)) (by decide +kernel)
theorem se_yX1_hasWords : Cond.selects RX1 yX1_hasWords yX1_hasWords ∈ gtb := tbm (List.mem_of_getElem? (i := 0) (by decide +kernel)) (by decide +kernel)
theorem se_yX7_termsChanged : Cond.selects RX7 yX7_termsChanged yX7_termsChanged ∈ gtb := tbm (List.mem_of_getElem? (i := 1) (by decide +kernel)) (by decide +kernel)
theorem se_yX1_copyTerm : Cond.selects RX1 yX1_copyTerm yX1_copyTerm ∈ gtb := tbm (List.mem_of_getElem? (i := 2) (by decide +kernel)) (by decide +kernel)
theorem se_yX7_settled : Cond.selects RX7 yX7_settled yX7_settled ∈ gtb := tbm (List.mem_of_getElem? (i := 3) (by decide +kernel)) (by decide +kernel)
theorem se_yX4_look : Cond.selects RX4 yX4_look yX4_look ∈ gtb := tbm (List.mem_of_getElem? (i := 4) (by decide +kernel)) (by decide +kernel)
theorem se_yX4_meets : Cond.selects RX4 yX4_meets yX4_meets ∈ gtb := tbm (List.mem_of_getElem? (i := 5) (by decide +kernel)) (by decide +kernel)
theorem se_yX4_makeForms : Cond.selects RX4 yX4_makeForms yX4_makeForms ∈ gtb := tbm (List.mem_of_getElem? (i := 6) (by decide +kernel)) (by decide +kernel)
theorem se_yX4_isForm : Cond.selects RX4 yX4_isForm yX4_isForm ∈ gtb := tbm (List.mem_of_getElem? (i := 7) (by decide +kernel)) (by decide +kernel)
theorem se_yX4_hasBegun : Cond.selects RX4 yX4_hasBegun yX4_hasBegun ∈ gtb := tbm (List.mem_of_getElem? (i := 8) (by decide +kernel)) (by decide +kernel)
theorem se_yX4_weigh : Cond.selects RX4 yX4_weigh yX4_weigh ∈ gtb := tbm (List.mem_of_getElem? (i := 9) (by decide +kernel)) (by decide +kernel)
theorem se_yX4_weighFrom : Cond.selects RX4 yX4_weighFrom yX4_weighFrom ∈ gtb := tbm (List.mem_of_getElem? (i := 10) (by decide +kernel)) (by decide +kernel)
theorem se_yX4_isBetter : Cond.selects RX4 yX4_isBetter yX4_isBetter ∈ gtb := tbm (List.mem_of_getElem? (i := 11) (by decide +kernel)) (by decide +kernel)
theorem se_yX4_choose : Cond.selects RX4 yX4_choose yX4_choose ∈ gtb := tbm (List.mem_of_getElem? (i := 12) (by decide +kernel)) (by decide +kernel)
theorem se_yX6_addLetter : Cond.selects RX6 yX6_addLetter yX6_addLetter ∈ gtb := tbm (List.mem_of_getElem? (i := 13) (by decide +kernel)) (by decide +kernel)
theorem se_yX6_endWord : Cond.selects RX6 yX6_endWord yX6_endWord ∈ gtb := tbm (List.mem_of_getElem? (i := 14) (by decide +kernel)) (by decide +kernel)
theorem se_yX6_endSentence : Cond.selects RX6 yX6_endSentence yX6_endSentence ∈ gtb := tbm (List.mem_of_getElem? (i := 15) (by decide +kernel)) (by decide +kernel)
theorem se_yX7_textChanged : Cond.selects RX7 yX7_textChanged yX7_textChanged ∈ gtb := tbm (List.mem_of_getElem? (i := 16) (by decide +kernel)) (by decide +kernel)
theorem se_yX7_takeLot : Cond.selects RX7 yX7_takeLot yX7_takeLot ∈ gtb := tbm (List.mem_of_getElem? (i := 17) (by decide +kernel)) (by decide +kernel)
theorem se_yX7_written : Cond.selects RX7 yX7_written yX7_written ∈ gtb := tbm (List.mem_of_getElem? (i := 18) (by decide +kernel)) (by decide +kernel)
theorem se_yX3_addWord : Cond.selects RX3 yX3_addWord yX3_addWord ∈ gtb := tbm (List.mem_of_getElem? (i := 19) (by decide +kernel)) (by decide +kernel)
theorem se_yX3_addSign : Cond.selects RX3 yX3_addSign yX3_addSign ∈ gtb := tbm (List.mem_of_getElem? (i := 20) (by decide +kernel)) (by decide +kernel)
theorem se_yX3_addWordsOf : Cond.selects RX3 yX3_addWordsOf yX3_addWordsOf ∈ gtb := tbm (List.mem_of_getElem? (i := 21) (by decide +kernel)) (by decide +kernel)
theorem se_yX4_isLonger : Cond.selects RX4 yX4_isLonger yX4_isLonger ∈ gtb := tbm (List.mem_of_getElem? (i := 22) (by decide +kernel)) (by decide +kernel)
theorem se_yX7_imageOf : Cond.selects RX7 yX7_imageOf yX7_imageOf ∈ gtb := tbm (List.mem_of_getElem? (i := 23) (by decide +kernel)) (by decide +kernel)
theorem se_yX8_parts : Cond.selects RX8 yX8_parts yX8_parts ∈ gtb := tbm (List.mem_of_getElem? (i := 24) (by decide +kernel)) (by decide +kernel)
theorem se_yX8_isTermThere : Cond.selects RX8 yX8_isTermThere yX8_isTermThere ∈ gtb := tbm (List.mem_of_getElem? (i := 25) (by decide +kernel)) (by decide +kernel)
theorem se_yX8_isSame : Cond.selects RX8 yX8_isSame yX8_isSame ∈ gtb := tbm (List.mem_of_getElem? (i := 26) (by decide +kernel)) (by decide +kernel)
theorem se_yX8_writes : Cond.selects RX8 yX8_writes yX8_writes ∈ gtb := tbm (List.mem_of_getElem? (i := 27) (by decide +kernel)) (by decide +kernel)
theorem se_yX8_isTerm : Cond.selects RX8 yX8_isTerm yX8_isTerm ∈ gtb := tbm (List.mem_of_getElem? (i := 28) (by decide +kernel)) (by decide +kernel)
theorem se_yX8_isPreferred : Cond.selects RX8 yX8_isPreferred yX8_isPreferred ∈ gtb := tbm (List.mem_of_getElem? (i := 29) (by decide +kernel)) (by decide +kernel)
theorem se_yX8_isEnding : Cond.selects RX8 yX8_isEnding yX8_isEnding ∈ gtb := tbm (List.mem_of_getElem? (i := 30) (by decide +kernel)) (by decide +kernel)
theorem se_yX8_forbidden : Cond.selects RX8 yX8_forbidden yX8_forbidden ∈ gtb := tbm (List.mem_of_getElem? (i := 31) (by decide +kernel)) (by decide +kernel)
theorem se_yX8_choose : Cond.selects RX8 yX8_choose yX8_choose ∈ gtb := tbm (List.mem_of_getElem? (i := 32) (by decide +kernel)) (by decide +kernel)
theorem se_yX8_isFound : Cond.selects RX8 yX8_isFound yX8_isFound ∈ gtb := tbm (List.mem_of_getElem? (i := 33) (by decide +kernel)) (by decide +kernel)
theorem se_yX8_isMet : Cond.selects RX8 yX8_isMet yX8_isMet ∈ gtb := tbm (List.mem_of_getElem? (i := 34) (by decide +kernel)) (by decide +kernel)
theorem se_yX8_meets : Cond.selects RX8 yX8_meets yX8_meets ∈ gtb := tbm (List.mem_of_getElem? (i := 35) (by decide +kernel)) (by decide +kernel)
theorem se_yX8_isBegun : Cond.selects RX8 yX8_isBegun yX8_isBegun ∈ gtb := tbm (List.mem_of_getElem? (i := 36) (by decide +kernel)) (by decide +kernel)
theorem se_yX8_isAs : Cond.selects RX8 yX8_isAs yX8_isAs ∈ gtb := tbm (List.mem_of_getElem? (i := 37) (by decide +kernel)) (by decide +kernel)
theorem se_yX8_worthOf : Cond.selects RX8 yX8_worthOf yX8_worthOf ∈ gtb := tbm (List.mem_of_getElem? (i := 38) (by decide +kernel)) (by decide +kernel)
theorem se_yX8_comes : Cond.selects RX8 yX8_comes yX8_comes ∈ gtb := tbm (List.mem_of_getElem? (i := 39) (by decide +kernel)) (by decide +kernel)
theorem se_yX8_ends : Cond.selects RX8 yX8_ends yX8_ends ∈ gtb := tbm (List.mem_of_getElem? (i := 40) (by decide +kernel)) (by decide +kernel)
theorem se_yX8_clears : Cond.selects RX8 yX8_clears yX8_clears ∈ gtb := tbm (List.mem_of_getElem? (i := 41) (by decide +kernel)) (by decide +kernel)
theorem se_yX8_hasWord : Cond.selects RX8 yX8_hasWord yX8_hasWord ∈ gtb := tbm (List.mem_of_getElem? (i := 42) (by decide +kernel)) (by decide +kernel)
theorem se_yX8_comesAll : Cond.selects RX8 yX8_comesAll yX8_comesAll ∈ gtb := tbm (List.mem_of_getElem? (i := 43) (by decide +kernel)) (by decide +kernel)
theorem se_yX8_isWord : Cond.selects RX8 yX8_isWord yX8_isWord ∈ gtb := tbm (List.mem_of_getElem? (i := 44) (by decide +kernel)) (by decide +kernel)
theorem se_yX8_reach : Cond.selects RX8 yX8_reach yX8_reach ∈ gtb := tbm (List.mem_of_getElem? (i := 45) (by decide +kernel)) (by decide +kernel)
theorem se_yX8_foundOver : Cond.selects RX8 yX8_foundOver yX8_foundOver ∈ gtb := tbm (List.mem_of_getElem? (i := 46) (by decide +kernel)) (by decide +kernel)
theorem se_yX8_chosenOver : Cond.selects RX8 yX8_chosenOver yX8_chosenOver ∈ gtb := tbm (List.mem_of_getElem? (i := 47) (by decide +kernel)) (by decide +kernel)
theorem se_yX8_counts : Cond.selects RX8 yX8_counts yX8_counts ∈ gtb := tbm (List.mem_of_getElem? (i := 48) (by decide +kernel)) (by decide +kernel)
theorem se_yX8_mends : Cond.selects RX8 yX8_mends yX8_mends ∈ gtb := tbm (List.mem_of_getElem? (i := 49) (by decide +kernel)) (by decide +kernel)
theorem se_yX8_place : Cond.selects RX8 yX8_place yX8_place ∈ gtb := tbm (List.mem_of_getElem? (i := 50) (by decide +kernel)) (by decide +kernel)
theorem inX1 : ∀ w ∈ u_ws RX1 TX1 9, w ∈ gtb := fun w h => tbm ((by decide +kernel : ∀ w ∈ u_ws RX1 TX1 9, w ∈ lw_tbl) w h) ((by decide +kernel : ∀ w ∈ u_ws RX1 TX1 9, goodWord w = true) w h)
theorem inX2 : ∀ w ∈ u_ws RX2 TX2 1, w ∈ gtb := fun w h => tbm ((by decide +kernel : ∀ w ∈ u_ws RX2 TX2 1, w ∈ lw_tbl) w h) ((by decide +kernel : ∀ w ∈ u_ws RX2 TX2 1, goodWord w = true) w h)
theorem inX3 : ∀ w ∈ u_ws RX3 TX3 6, w ∈ gtb := fun w h => tbm ((by decide +kernel : ∀ w ∈ u_ws RX3 TX3 6, w ∈ lw_tbl) w h) ((by decide +kernel : ∀ w ∈ u_ws RX3 TX3 6, goodWord w = true) w h)
theorem inX4 : ∀ w ∈ u_ws RX4 TX4 15, w ∈ gtb := fun w h => tbm ((by decide +kernel : ∀ w ∈ u_ws RX4 TX4 15, w ∈ lw_tbl) w h) ((by decide +kernel : ∀ w ∈ u_ws RX4 TX4 15, goodWord w = true) w h)
theorem inX5 : ∀ w ∈ u_ws RX5 TX5 3, w ∈ gtb := fun w h => tbm ((by decide +kernel : ∀ w ∈ u_ws RX5 TX5 3, w ∈ lw_tbl) w h) ((by decide +kernel : ∀ w ∈ u_ws RX5 TX5 3, goodWord w = true) w h)
theorem inX6 : ∀ w ∈ u_ws RX6 TX6 7, w ∈ gtb := fun w h => tbm ((by decide +kernel : ∀ w ∈ u_ws RX6 TX6 7, w ∈ lw_tbl) w h) ((by decide +kernel : ∀ w ∈ u_ws RX6 TX6 7, goodWord w = true) w h)
theorem inX7 : ∀ w ∈ u_ws RX7 TX7 7, w ∈ gtb := fun w h => tbm ((by decide +kernel : ∀ w ∈ u_ws RX7 TX7 7, w ∈ lw_tbl) w h) ((by decide +kernel : ∀ w ∈ u_ws RX7 TX7 7, goodWord w = true) w h)
theorem inX8 : ∀ w ∈ u_ws RX8 TX8 14, w ∈ gtb := fun w h => tbm ((by decide +kernel : ∀ w ∈ u_ws RX8 TX8 14, w ∈ lw_tbl) w h) ((by decide +kernel : ∀ w ∈ u_ws RX8 TX8 14, goodWord w = true) w h)
end
section
/-! V: the machine at a place of a method's code, over the fixed world of cells 'wl Y σ' -/
abbrev Yc : Type := va_G × (Nat → Nat) × (Nat → ClassId)
abbrev Mc : Type := String × ByteArray × Nat × Room × Option FieldType
abbrev Xc : Type := Program × Launch × Env × State × MethodId × Array Value × List Frame × Method × Code × (Nat → Prop) × Yc × Nat × Nat
abbrev xp (X : Xc) : Program := X.1
abbrev xl (X : Xc) : Launch := X.2.1
abbrev xe (X : Xc) : Env := X.2.2.1
abbrev xs (X : Xc) : State := X.2.2.2.1
abbrev xm (X : Xc) : MethodId := X.2.2.2.2.1
abbrev xa (X : Xc) : Array Value := X.2.2.2.2.2.1
abbrev xb (X : Xc) : List Frame := X.2.2.2.2.2.2.1
abbrev xh (X : Xc) : Method := X.2.2.2.2.2.2.2.1
abbrev xc (X : Xc) : Code := X.2.2.2.2.2.2.2.2.1
abbrev xA (X : Xc) : Nat → Prop := X.2.2.2.2.2.2.2.2.2.1
abbrev xY (X : Xc) : Yc := X.2.2.2.2.2.2.2.2.2.2.1
abbrev xn (X : Xc) : Nat := X.2.2.2.2.2.2.2.2.2.2.2.1
abbrev xz (X : Xc) : Nat := X.2.2.2.2.2.2.2.2.2.2.2.2
/-- a cell's address -/
abbrev ad (Y : Yc) (k : Nat) : Nat := Y.2.1 k
def tysY (Y : Yc) : List (ClassId × FieldType) := [(Y.2.2 0, .int), (Y.2.2 1, .boolean), (Y.2.2 2, .char), (Y.2.2 3, .long), (Y.2.2 4, .object "TermScan$Lexicon")]
def vcl : List vw_C := [(RX1, TX1, 9), (RX2, TX2, 1), (RX3, TX3, 6), (RX4, TX4, 15), (RX5, TX5, 3), (RX6, TX6, 7), (RX7, TX7, 7), (RX8, TX8, 14)]
def fv (Y : Yc) (σ : Sg) (k j : Nat) (f : Nat × Nat) : Value := match f.1 with
  | 0 => .int (σ.1 k j)
  | 1 => .long (σ.2 k j)
  | _ => .ref (Y.2.1 f.2)
def flds (Y : Yc) (σ : Sg) (k : Nat) : List (Nat × Nat) → Nat → List Value
  | [], _ => []
  | f :: r, j => fv Y σ k j f :: flds Y σ k r (j + 1)
theorem flds_at (Y : Yc) (σ : Sg) (k : Nat) : ∀ (fs : List (Nat × Nat)) (j i : Nat), (flds Y σ k fs j)[i]? = (fs[i]?).map (fv Y σ k (j + i))
  | [], j, i => by simp [flds]
  | f :: r, j, 0 => by simp [flds]
  | f :: r, j, i + 1 => by
    have h := flds_at Y σ k r (j + 1) i
    simp only [flds, List.getElem?_cons_succ, h]
    rw [show j + 1 + i = j + (i + 1) by omega]
theorem flds_len (Y : Yc) (σ : Sg) (k : Nat) : ∀ (fs : List (Nat × Nat)) (j : Nat), (flds Y σ k fs j).length = fs.length
  | [], j => rfl
  | f :: r, j => by simp [flds, flds_len Y σ k r (j + 1)]
def cel (Y : Yc) (σ : Sg) (k : Nat) (q : Nat × Nat × List (Nat × Nat)) : va_E := match q.1 with
  | 0 => .inl (Y.2.2 0, q.2.1, .inl (σ.1 k))
  | 1 => .inl (Y.2.2 1, q.2.1, .inl (σ.1 k))
  | 2 => .inl (Y.2.2 2, q.2.1, .inl (σ.1 k))
  | 3 => .inl (Y.2.2 3, q.2.1, .inr (.inl (σ.2 k)))
  | 4 => .inl (Y.2.2 4, q.2.1, .inr (.inr (.inr (.inr (fun i => (q.2.2[i]?).map (fun f => Y.2.1 f.2))))))
  | c + 5 => .inr (c, flds Y σ k q.2.2 0)
def wl (Y : Yc) (σ : Sg) : va_W := shp.mapIdx (fun k q => (Y.2.1 k, cel Y σ k q))
theorem wl_at {Y : Yc} {σ : Sg} {k : Nat} {q : Nat × Nat × List (Nat × Nat)} (h : shp[k]? = some q) : (wl Y σ)[k]? = some (Y.2.1 k, cel Y σ k q) := by
  simp [wl, List.getElem?_mapIdx, h]
theorem wl_any {Y : Yc} {σ : Sg} {k : Nat} {r : Nat × va_E} (h : (wl Y σ)[k]? = some r) : ∃ q, shp[k]? = some q ∧ r = (Y.2.1 k, cel Y σ k q) := by
  simp only [wl, List.getElem?_mapIdx] at h
  cases hq : shp[k]? with
  | none => rw [hq] at h; cases h
  | some q => rw [hq] at h; exact ⟨q, rfl, (Option.some.inj h).symm⟩
theorem flds_cg {Y : Yc} {σ σ' : Sg} {k : Nat} (h1 : σ'.1 k = σ.1 k) (h2 : σ'.2 k = σ.2 k) : ∀ (fs : List (Nat × Nat)) (j : Nat), flds Y σ' k fs j = flds Y σ k fs j
  | [], _ => rfl
  | f :: r, j => by simp only [flds, flds_cg h1 h2 r (j + 1), fv, h1, h2]
theorem cel_cg {Y : Yc} {σ σ' : Sg} {k : Nat} {q : Nat × Nat × List (Nat × Nat)} (h1 : σ'.1 k = σ.1 k) (h2 : σ'.2 k = σ.2 k) : cel Y σ' k q = cel Y σ k q := by
  unfold cel
  rw [h1, h2, flds_cg h1 h2]
theorem wl_set {Y : Yc} {σ σ' : Sg} {k : Nat} {q : Nat × Nat × List (Nat × Nat)} (h : shp[k]? = some q) (h1 : ∀ a, a ≠ k → σ'.1 a = σ.1 a ∧ σ'.2 a = σ.2 a) {e : va_E} (he : cel Y σ' k q = e) : (wl Y σ).set k (Y.2.1 k, e) = wl Y σ' := by
  subst he
  apply List.ext_getElem?
  intro i
  rw [List.getElem?_set]
  have hk : k < (wl Y σ).length := (List.getElem?_eq_some_iff.mp (wl_at (Y := Y) (σ := σ) h)).1
  by_cases hi : k = i
  · subst hi
    rw [if_pos rfl, if_pos hk]
    exact (wl_at h).symm
  · rw [if_neg hi]
    cases hq : shp[i]? with
    | none => simp [wl, List.getElem?_mapIdx, hq]
    | some r => rw [wl_at hq, wl_at hq, cel_cg (h1 i (fun z => hi z.symm)).1 (h1 i (fun z => hi z.symm)).2]
theorem wl_D {Y : Yc} {σ σ' : Sg} {A : Nat → Prop} (h : va_D A (wl Y σ)) : va_D A (wl Y σ') := by
  refine ⟨fun i j p q hp hq hpq => ?_, fun k q hk => ?_⟩
  · obtain ⟨a, ha, rfl⟩ := wl_any hp
    obtain ⟨b, hb, rfl⟩ := wl_any hq
    exact h.1 i j (Y.2.1 i, cel Y σ i a) (Y.2.1 j, cel Y σ j b) (wl_at ha) (wl_at hb) hpq
  · obtain ⟨a, ha, rfl⟩ := wl_any hk
    exact h.2 k (Y.2.1 k, cel Y σ k a) (wl_at ha)
theorem wl_A {Y : Yc} {σ σ' : Sg} {sz q : Nat} (h : va_A (wl Y σ) sz q) : va_A (wl Y σ') sz q := by
  rcases h with ⟨k, e, h⟩ | h
  · obtain ⟨a, ha, he⟩ := wl_any h
    refine Or.inl ⟨k, cel Y σ' k a, ?_⟩
    rw [wl_at ha]
    have : q = Y.2.1 k := congrArg Prod.fst he
    rw [this]
  · exact Or.inr h
/-- the locals -/
def lok (ls : Array Slot) (nL : Nat) (L : List (Option Value)) : Prop := ls.size = nL ∧ lv_wf ls ∧ ∀ (i : Nat) (v : Value), L[i]? = some (some v) → ls[i]? = some (.val v)
def lvo (L : List (Option Value)) : List (Nat × Value) := (List.range L.length).filterMap (fun i => match L[i]? with
  | some (some v) => some (i, v)
  | _ => none)
theorem lvo_mem {L : List (Option Value)} {i : Nat} {v : Value} : (i, v) ∈ lvo L ↔ L[i]? = some (some v) := by
  unfold lvo
  rw [List.mem_filterMap]
  constructor
  · rintro ⟨a, -, h⟩
    split at h
    · cases h; assumption
    · cases h
  · intro h
    refine ⟨i, List.mem_range.mpr (List.getElem?_eq_some_iff.mp h).1, ?_⟩
    rw [h]
theorem lok.has {ls : Array Slot} {nL : Nat} {L : List (Option Value)} (h : lok ls nL L) : lv_has ls nL (lvo L) := ⟨h.1, h.2.1, fun q hq => h.2.2 q.1 q.2 (lvo_mem.mp hq)⟩
/-- a value is stored: a long ahead of it is gone -/
def clL (L : List (Option Value)) (i : Nat) : List (Option Value) := match i with
  | 0 => L
  | j + 1 => match L[j]? with
    | some (some w) => if w.category = 2 then L.set j none else L
    | _ => L
def stL (L : List (Option Value)) (i : Nat) (v : Value) : List (Option Value) := (clL L i).set i (some v)
def stL2 (L : List (Option Value)) (i : Nat) (v : Value) : List (Option Value) := ((clL L i).set (i + 1) none).set i (some v)
theorem clL_at {L : List (Option Value)} {i j : Nat} {w : Value} (h : (clL L i)[j]? = some (some w)) : L[j]? = some (some w) ∧ ¬ (j + 1 = i ∧ w.category = 2) := by
  unfold clL at h
  cases i with
  | zero => exact ⟨h, fun q => by omega⟩
  | succ a =>
    dsimp only at h
    split at h
    · rename_i w2 hw2
      split at h
      · rw [List.getElem?_set] at h
        split at h
        · split at h <;> cases h
        · rename_i hne
          exact ⟨h, fun q => hne (by omega)⟩
      · rename_i hc
        refine ⟨h, fun q => ?_⟩
        have hja : j = a := by omega
        subst hja
        rw [hw2] at h
        cases h
        exact hc q.2
    · rename_i hno
      refine ⟨h, fun q => ?_⟩
      have hja : j = a := by omega
      subst hja
      exact hno w h
theorem stL_ok {ls : Array Slot} {nL : Nat} {L : List (Option Value)} {i : Nat} {v : Value} (h : lv_has ls nL ((i, v) :: (lvo L).filter (fun q => !(q.1 == i) && !(q.1 + 1 == i && q.2.category == 2)))) : lok ls nL (stL L i v) := by
  refine ⟨h.1, h.2.1, fun j w hj => ?_⟩
  unfold stL at hj
  rw [List.getElem?_set] at hj
  split at hj
  · rename_i hij
    subst hij
    split at hj
    · cases hj
      exact h.2.2 _ List.mem_cons_self
    · cases hj
  · rename_i hij
    obtain ⟨h1, h2⟩ := clL_at hj
    refine h.2.2 (j, w) (List.mem_cons_of_mem _ (List.mem_filter.mpr ⟨lvo_mem.mpr h1, ?_⟩))
    have a1 : (j == i) = false := by simpa using fun z => hij z.symm
    have a2 : (j + 1 == i && w.category == 2) = false := by
      rw [Bool.eq_false_iff]
      intro z
      simp only [Bool.and_eq_true, beq_iff_eq] at z
      exact h2 z
    dsimp only
    rw [a1, a2]
    rfl
theorem stL2_ok {ls : Array Slot} {nL : Nat} {L : List (Option Value)} {i : Nat} {v : Value} (h : lv_has ls nL ((i, v) :: (lvo L).filter (fun q => !(q.1 == i) && (!(q.1 == i + 1) && !(q.1 + 1 == i && q.2.category == 2))))) : lok ls nL (stL2 L i v) := by
  refine ⟨h.1, h.2.1, fun j w hj => ?_⟩
  unfold stL2 at hj
  rw [List.getElem?_set] at hj
  split at hj
  · rename_i hij
    subst hij
    split at hj
    · cases hj
      exact h.2.2 _ List.mem_cons_self
    · cases hj
  · rename_i hij
    rw [List.getElem?_set] at hj
    split at hj
    · split at hj <;> cases hj
    · rename_i hij2
      obtain ⟨h1, h2⟩ := clL_at hj
      refine h.2.2 (j, w) (List.mem_cons_of_mem _ (List.mem_filter.mpr ⟨lvo_mem.mpr h1, ?_⟩))
      have a1 : (j == i) = false := by simpa using fun z => hij z.symm
      have a3 : (j == i + 1) = false := by simpa using fun z => hij2 z.symm
      have a2 : (j + 1 == i && w.category == 2) = false := by
        rw [Bool.eq_false_iff]
        intro z
        simp only [Bool.and_eq_true, beq_iff_eq] at z
        exact h2 z
      dsimp only
      rw [a1, a2, a3]
      rfl
/-- what a walk stands on -/
def Vok (X : Xc) (M : Mc) : Prop := (xp X).tables.exec = Jvm.exec ∧ (xc X).code = M.2.1 ∧ (xc X).maxLocals = M.2.2.1 ∧ (xs X).vm.findClass M.1 = some (xm X).cls ∧ (∀ w ∈ gtb, w.before (xa X) (xs X) = true) ∧ va_K (xY X).1 vcl (tysY (xY X)) (xs X) ∧ (∀ q, (xs X).heap.size ≤ q → xA X q) ∧ (xh X).sig.returnType = M.2.2.2.2 ∧ (xh X).locks = false ∧ xn X ≤ M.2.2.2.1.cells ∧ xz X ≤ M.2.2.2.1.slots
def V (X : Xc) (M : Mc) (Q : State → Prop) (pc : Nat) (L : List (Option Value)) (st : List Value) (σ : Sg) : Prop :=
  Vok X M → ∀ (H : Heap) (locs : List Loc) (ls : Array Slot), lok ls M.2.2.1 L → va_P (xY X).1 vcl (wl (xY X) σ) H → va_D (xA X) (wl (xY X) σ) → va_S (xA X) (xs X).heap H locs →
    W (xp X) (xl X) (xe X) M.2.2.2.1 (xs X) (xm X) (xa X) (xb X) (xh X) (xc X) H locs (xn X) (xz X) Q (F0 (xm X) pc ls st)
section VR
variable {X : Xc} {M : Mc} {Q : State → Prop} {pc q : Nat} {L L' : List (Option Value)} {st : List Value} {σ : Sg}
theorem V_iadd {x y : Int32} (d : decode M.2.1 pc = .ok (.iadd, 1)) (e : pc + 1 = q)  (k : V X M Q q L (.int (x + y) :: st) σ) : V X M Q pc L (.int y :: .int x :: st) σ := fun ok H locs ls h1 h2 h3 h4 => by
  subst e
  exact lv_iadd ok.1 ok.2.1 d  (k ok H locs ls h1 h2 h3 h4)
theorem V_isub {x y : Int32} (d : decode M.2.1 pc = .ok (.isub, 1)) (e : pc + 1 = q)  (k : V X M Q q L (.int (x - y) :: st) σ) : V X M Q pc L (.int y :: .int x :: st) σ := fun ok H locs ls h1 h2 h3 h4 => by
  subst e
  exact lv_isub ok.1 ok.2.1 d  (k ok H locs ls h1 h2 h3 h4)
theorem V_imul {x y : Int32} (d : decode M.2.1 pc = .ok (.imul, 1)) (e : pc + 1 = q)  (k : V X M Q q L (.int (x * y) :: st) σ) : V X M Q pc L (.int y :: .int x :: st) σ := fun ok H locs ls h1 h2 h3 h4 => by
  subst e
  exact lv_imul ok.1 ok.2.1 d  (k ok H locs ls h1 h2 h3 h4)
theorem V_iand {x y : Int32} (d : decode M.2.1 pc = .ok (.iand, 1)) (e : pc + 1 = q)  (k : V X M Q q L (.int (x &&& y) :: st) σ) : V X M Q pc L (.int y :: .int x :: st) σ := fun ok H locs ls h1 h2 h3 h4 => by
  subst e
  exact lv_iand ok.1 ok.2.1 d  (k ok H locs ls h1 h2 h3 h4)
theorem V_ior {x y : Int32} (d : decode M.2.1 pc = .ok (.ior, 1)) (e : pc + 1 = q)  (k : V X M Q q L (.int (x ||| y) :: st) σ) : V X M Q pc L (.int y :: .int x :: st) σ := fun ok H locs ls h1 h2 h3 h4 => by
  subst e
  exact lv_ior ok.1 ok.2.1 d  (k ok H locs ls h1 h2 h3 h4)
theorem V_ishl {x y : Int32} (d : decode M.2.1 pc = .ok (.ishl, 1)) (e : pc + 1 = q)  (k : V X M Q q L (.int (x <<< (y &&& 31)) :: st) σ) : V X M Q pc L (.int y :: .int x :: st) σ := fun ok H locs ls h1 h2 h3 h4 => by
  subst e
  exact lv_ishl ok.1 ok.2.1 d  (k ok H locs ls h1 h2 h3 h4)
theorem V_ishr {x y : Int32} (d : decode M.2.1 pc = .ok (.ishr, 1)) (e : pc + 1 = q)  (k : V X M Q q L (.int (x >>> (y &&& 31)) :: st) σ) : V X M Q pc L (.int y :: .int x :: st) σ := fun ok H locs ls h1 h2 h3 h4 => by
  subst e
  exact lv_ishr ok.1 ok.2.1 d  (k ok H locs ls h1 h2 h3 h4)
theorem V_idiv {x y : Int32} (d : decode M.2.1 pc = .ok (.idiv, 1)) (e : pc + 1 = q) (hne : ¬ y = 0) (k : V X M Q q L (.int (x / y) :: st) σ) : V X M Q pc L (.int y :: .int x :: st) σ := fun ok H locs ls h1 h2 h3 h4 => by
  subst e
  exact lv_idiv ok.1 ok.2.1 d hne (k ok H locs ls h1 h2 h3 h4)
theorem V_irem {x y : Int32} (d : decode M.2.1 pc = .ok (.irem, 1)) (e : pc + 1 = q) (hne : ¬ y = 0) (k : V X M Q q L (.int (x - x / y * y) :: st) σ) : V X M Q pc L (.int y :: .int x :: st) σ := fun ok H locs ls h1 h2 h3 h4 => by
  subst e
  exact lv_irem ok.1 ok.2.1 d hne (k ok H locs ls h1 h2 h3 h4)
theorem V_lrem {x y : Int64} (d : decode M.2.1 pc = .ok (.lrem, 1)) (e : pc + 1 = q) (hne : ¬ y = 0) (k : V X M Q q L (.long (x - x / y * y) :: st) σ) : V X M Q pc L (.long y :: .long x :: st) σ := fun ok H locs ls h1 h2 h3 h4 => by
  subst e
  exact lv_lrem ok.1 ok.2.1 d hne (k ok H locs ls h1 h2 h3 h4)
theorem V_ladd {x y : Int64} (d : decode M.2.1 pc = .ok (.ladd, 1)) (e : pc + 1 = q)  (k : V X M Q q L (.long (x + y) :: st) σ) : V X M Q pc L (.long y :: .long x :: st) σ := fun ok H locs ls h1 h2 h3 h4 => by
  subst e
  exact lv_ladd ok.1 ok.2.1 d  (k ok H locs ls h1 h2 h3 h4)
theorem V_lsub {x y : Int64} (d : decode M.2.1 pc = .ok (.lsub, 1)) (e : pc + 1 = q)  (k : V X M Q q L (.long (x - y) :: st) σ) : V X M Q pc L (.long y :: .long x :: st) σ := fun ok H locs ls h1 h2 h3 h4 => by
  subst e
  exact lv_lsub ok.1 ok.2.1 d  (k ok H locs ls h1 h2 h3 h4)
theorem V_lmul {x y : Int64} (d : decode M.2.1 pc = .ok (.lmul, 1)) (e : pc + 1 = q)  (k : V X M Q q L (.long (x * y) :: st) σ) : V X M Q pc L (.long y :: .long x :: st) σ := fun ok H locs ls h1 h2 h3 h4 => by
  subst e
  exact lv_lmul ok.1 ok.2.1 d  (k ok H locs ls h1 h2 h3 h4)
theorem V_land {x y : Int64} (d : decode M.2.1 pc = .ok (.land, 1)) (e : pc + 1 = q)  (k : V X M Q q L (.long (x &&& y) :: st) σ) : V X M Q pc L (.long y :: .long x :: st) σ := fun ok H locs ls h1 h2 h3 h4 => by
  subst e
  exact lv_land ok.1 ok.2.1 d  (k ok H locs ls h1 h2 h3 h4)
theorem V_lor {x y : Int64} (d : decode M.2.1 pc = .ok (.lor, 1)) (e : pc + 1 = q)  (k : V X M Q q L (.long (x ||| y) :: st) σ) : V X M Q pc L (.long y :: .long x :: st) σ := fun ok H locs ls h1 h2 h3 h4 => by
  subst e
  exact lv_lor ok.1 ok.2.1 d  (k ok H locs ls h1 h2 h3 h4)
theorem V_lcmp {x y : Int64} (d : decode M.2.1 pc = .ok (.lcmp, 1)) (e : pc + 1 = q)  (k : V X M Q q L (.int (lg_cmp x y) :: st) σ) : V X M Q pc L (.long y :: .long x :: st) σ := fun ok H locs ls h1 h2 h3 h4 => by
  subst e
  exact W.lcmp ok.1 ok.2.1 d  (k ok H locs ls h1 h2 h3 h4)
theorem V_i2l {x : Int32} (d : decode M.2.1 pc = .ok (.i2l, 1)) (e : pc + 1 = q)  (k : V X M Q q L (.long x.toInt64 :: st) σ) : V X M Q pc L (.int x :: st) σ := fun ok H locs ls h1 h2 h3 h4 => by
  subst e
  exact lv_i2l ok.1 ok.2.1 d rfl (k ok H locs ls h1 h2 h3 h4)
theorem V_l2i {x : Int64} (d : decode M.2.1 pc = .ok (.l2i, 1)) (e : pc + 1 = q)  (k : V X M Q q L (.int x.toInt32 :: st) σ) : V X M Q pc L (.long x :: st) σ := fun ok H locs ls h1 h2 h3 h4 => by
  subst e
  exact lv_l2i ok.1 ok.2.1 d rfl (k ok H locs ls h1 h2 h3 h4)
theorem V_i2c {x : Int32} (d : decode M.2.1 pc = .ok (.i2c, 1)) (e : pc + 1 = q)  (k : V X M Q q L (.int (x.toUInt32 % 65536).toInt32 :: st) σ) : V X M Q pc L (.int x :: st) σ := fun ok H locs ls h1 h2 h3 h4 => by
  subst e
  exact lv_i2c ok.1 ok.2.1 d rfl (k ok H locs ls h1 h2 h3 h4)
theorem V_iushr {x y : Int32} (d : decode M.2.1 pc = .ok (.iushr, 1)) (e : pc + 1 = q)  (k : V X M Q q L (.int (x.toUInt32 >>> (y.toUInt32 &&& Int32.toUInt32 31)).toInt32 :: st) σ) : V X M Q pc L (.int y :: .int x :: st) σ := fun ok H locs ls h1 h2 h3 h4 => by
  subst e
  exact lv_iushr ok.1 ok.2.1 d rfl (k ok H locs ls h1 h2 h3 h4)
theorem V_lushr {x : Int64} {y : Int32} (d : decode M.2.1 pc = .ok (.lushr, 1)) (e : pc + 1 = q)  (k : V X M Q q L (.long (x.toUInt64 >>> (y.toInt64.toUInt64 &&& Int64.toUInt64 63)).toInt64 :: st) σ) : V X M Q pc L (.int y :: .long x :: st) σ := fun ok H locs ls h1 h2 h3 h4 => by
  subst e
  exact lv_lushr ok.1 ok.2.1 d rfl (k ok H locs ls h1 h2 h3 h4)
theorem V_lshl {x : Int64} {y : Int32} (d : decode M.2.1 pc = .ok (.lshl, 1)) (e : pc + 1 = q)  (k : V X M Q q L (.long (x <<< (y.toInt64 &&& 63)) :: st) σ) : V X M Q pc L (.int y :: .long x :: st) σ := fun ok H locs ls h1 h2 h3 h4 => by
  subst e
  exact lv_lshl ok.1 ok.2.1 d rfl (k ok H locs ls h1 h2 h3 h4)
theorem V_dup {va : Value} (d : decode M.2.1 pc = .ok (.dup, 1)) (e : pc + 1 = q) (hva : va.category = 1) (k : V X M Q q L (va :: va :: st) σ) : V X M Q pc L (va :: st) σ := fun ok H locs ls h1 h2 h3 h4 => by
  subst e
  exact lv_dup ok.1 ok.2.1 d hva (k ok H locs ls h1 h2 h3 h4)
theorem V_dup2 {va vb : Value} (d : decode M.2.1 pc = .ok (.dup2, 1)) (e : pc + 1 = q) (hva : va.category = 1) (hvb : vb.category = 1) (k : V X M Q q L (va :: vb :: va :: vb :: st) σ) : V X M Q pc L (va :: vb :: st) σ := fun ok H locs ls h1 h2 h3 h4 => by
  subst e
  exact lv_dup2_11 ok.1 ok.2.1 d hva hvb (k ok H locs ls h1 h2 h3 h4)
theorem V_iconst {n : Int} {v : Int32} (d : decode M.2.1 pc = .ok (.iconst n, 1)) (e : pc + 1 = q) (hv : Int32.ofInt n = v) (k : V X M Q q L (.int v :: st) σ) : V X M Q pc L (st) σ := fun ok H locs ls h1 h2 h3 h4 => by
  subst e
  exact lv_iconst ok.1 ok.2.1 d hv (k ok H locs ls h1 h2 h3 h4)
theorem V_lconst {n : Fin 2} {v : Int64} (d : decode M.2.1 pc = .ok (.lconst n, 1)) (e : pc + 1 = q) (hv : Int64.ofNat (n : Nat) = v) (k : V X M Q q L (.long v :: st) σ) : V X M Q pc L (st) σ := fun ok H locs ls h1 h2 h3 h4 => by
  subst e
  exact lv_lconst ok.1 ok.2.1 d hv (k ok H locs ls h1 h2 h3 h4)
theorem V_bipush {n : Int} {v : Int32} (d : decode M.2.1 pc = .ok (.bipush n, 2)) (e : pc + 2 = q) (hv : (Int8.ofInt n).toInt32 = v) (k : V X M Q q L (.int v :: st) σ) : V X M Q pc L (st) σ := fun ok H locs ls h1 h2 h3 h4 => by
  subst e
  exact lv_bipush ok.1 ok.2.1 d hv (k ok H locs ls h1 h2 h3 h4)
theorem V_sipush {n : Int} {v : Int32} (d : decode M.2.1 pc = .ok (.sipush n, 3)) (e : pc + 3 = q) (hv : (Int16.ofInt n).toInt32 = v) (k : V X M Q q L (.int v :: st) σ) : V X M Q pc L (st) σ := fun ok H locs ls h1 h2 h3 h4 => by
  subst e
  exact lv_sipush ok.1 ok.2.1 d hv (k ok H locs ls h1 h2 h3 h4)
theorem V_null  (d : decode M.2.1 pc = .ok (.aconst_null, 1)) (e : pc + 1 = q)  (k : V X M Q q L (.null :: st) σ) : V X M Q pc L (st) σ := fun ok H locs ls h1 h2 h3 h4 => by
  subst e
  exact lv_null ok.1 ok.2.1 d  (k ok H locs ls h1 h2 h3 h4)
theorem V_iload_n {k0 : Fin 4} {x : Int32} (d : decode M.2.1 pc = .ok (.iload_n k0, 1)) (e : pc + 1 = q) (hl : L[(k0 : Nat)]? = some (some (.int x))) (k : V X M Q q L (.int x :: st) σ) : V X M Q pc L st σ := fun ok H locs ls h1 h2 h3 h4 => by
  subst e
  exact lv_iload_n ok.1 ok.2.1 d rfl (h1.2.2 _ _ hl) (k ok H locs ls h1 h2 h3 h4)
theorem V_iload {i : Nat} {x : Int32} (d : decode M.2.1 pc = .ok (.iload i, 2)) (e : pc + 2 = q) (hl : L[i]? = some (some (.int x))) (k : V X M Q q L (.int x :: st) σ) : V X M Q pc L st σ := fun ok H locs ls h1 h2 h3 h4 => by
  subst e
  exact lv_iload ok.1 ok.2.1 d (h1.2.2 _ _ hl) (k ok H locs ls h1 h2 h3 h4)
theorem V_istore_n {k0 : Fin 4} {x : Int32} (d : decode M.2.1 pc = .ok (.istore_n k0, 1)) (e : pc + 1 = q) (hn : (k0 : Nat) < M.2.2.1) (hL : stL L (k0 : Nat) (.int x) = L') (k : V X M Q q L' st σ) : V X M Q pc L (.int x :: st) σ := fun ok H locs ls h1 h2 h3 h4 => by
  subst e; subst hL
  exact lv_istore_n ok.1 ok.2.1 d rfl h1.has hn rfl (fun ls' h' => k ok H locs ls' (stL_ok h') h2 h3 h4)
theorem V_istore {i : Nat} {x : Int32} (d : decode M.2.1 pc = .ok (.istore i, 2)) (e : pc + 2 = q) (hn : i < M.2.2.1) (hL : stL L i (.int x) = L') (k : V X M Q q L' st σ) : V X M Q pc L (.int x :: st) σ := fun ok H locs ls h1 h2 h3 h4 => by
  subst e; subst hL
  exact lv_istore ok.1 ok.2.1 d h1.has hn rfl (fun ls' h' => k ok H locs ls' (stL_ok h') h2 h3 h4)
theorem V_lload_n {k0 : Fin 4} {x : Int64} (d : decode M.2.1 pc = .ok (.lload_n k0, 1)) (e : pc + 1 = q) (hl : L[(k0 : Nat)]? = some (some (.long x))) (k : V X M Q q L (.long x :: st) σ) : V X M Q pc L st σ := fun ok H locs ls h1 h2 h3 h4 => by
  subst e
  exact lv_lload_n ok.1 ok.2.1 d rfl (h1.2.2 _ _ hl) (k ok H locs ls h1 h2 h3 h4)
theorem V_lload {i : Nat} {x : Int64} (d : decode M.2.1 pc = .ok (.lload i, 2)) (e : pc + 2 = q) (hl : L[i]? = some (some (.long x))) (k : V X M Q q L (.long x :: st) σ) : V X M Q pc L st σ := fun ok H locs ls h1 h2 h3 h4 => by
  subst e
  exact lv_lload ok.1 ok.2.1 d (h1.2.2 _ _ hl) (k ok H locs ls h1 h2 h3 h4)
theorem V_lstore_n {k0 : Fin 4} {x : Int64} (d : decode M.2.1 pc = .ok (.lstore_n k0, 1)) (e : pc + 1 = q) (hn : (k0 : Nat) + 1 < M.2.2.1) (hL : stL2 L (k0 : Nat) (.long x) = L') (k : V X M Q q L' st σ) : V X M Q pc L (.long x :: st) σ := fun ok H locs ls h1 h2 h3 h4 => by
  subst e; subst hL
  exact lv_lstore_n ok.1 ok.2.1 d rfl h1.has hn rfl (fun ls' h' => k ok H locs ls' (stL2_ok h') h2 h3 h4)
theorem V_lstore {i : Nat} {x : Int64} (d : decode M.2.1 pc = .ok (.lstore i, 2)) (e : pc + 2 = q) (hn : i + 1 < M.2.2.1) (hL : stL2 L i (.long x) = L') (k : V X M Q q L' st σ) : V X M Q pc L (.long x :: st) σ := fun ok H locs ls h1 h2 h3 h4 => by
  subst e; subst hL
  exact lv_lstore ok.1 ok.2.1 d h1.has hn rfl (fun ls' h' => k ok H locs ls' (stL2_ok h') h2 h3 h4)
theorem V_aload_n {k0 : Fin 4} {x : Nat} (d : decode M.2.1 pc = .ok (.aload_n k0, 1)) (e : pc + 1 = q) (hl : L[(k0 : Nat)]? = some (some (.ref x))) (k : V X M Q q L (.ref x :: st) σ) : V X M Q pc L st σ := fun ok H locs ls h1 h2 h3 h4 => by
  subst e
  exact lv_aload_n ok.1 ok.2.1 d rfl (h1.2.2 _ _ hl) (k ok H locs ls h1 h2 h3 h4)
theorem V_aload {i : Nat} {x : Nat} (d : decode M.2.1 pc = .ok (.aload i, 2)) (e : pc + 2 = q) (hl : L[i]? = some (some (.ref x))) (k : V X M Q q L (.ref x :: st) σ) : V X M Q pc L st σ := fun ok H locs ls h1 h2 h3 h4 => by
  subst e
  exact lv_aload ok.1 ok.2.1 d (h1.2.2 _ _ hl) (k ok H locs ls h1 h2 h3 h4)
theorem V_astore_n {k0 : Fin 4} {x : Nat} (d : decode M.2.1 pc = .ok (.astore_n k0, 1)) (e : pc + 1 = q) (hn : (k0 : Nat) < M.2.2.1) (hL : stL L (k0 : Nat) (.ref x) = L') (k : V X M Q q L' st σ) : V X M Q pc L (.ref x :: st) σ := fun ok H locs ls h1 h2 h3 h4 => by
  subst e; subst hL
  exact lv_astore_n ok.1 ok.2.1 d rfl h1.has hn rfl (fun ls' h' => k ok H locs ls' (stL_ok h') h2 h3 h4)
theorem V_astore {i : Nat} {x : Nat} (d : decode M.2.1 pc = .ok (.astore i, 2)) (e : pc + 2 = q) (hn : i < M.2.2.1) (hL : stL L i (.ref x) = L') (k : V X M Q q L' st σ) : V X M Q pc L (.ref x :: st) σ := fun ok H locs ls h1 h2 h3 h4 => by
  subst e; subst hL
  exact lv_astore ok.1 ok.2.1 d h1.has hn rfl (fun ls' h' => k ok H locs ls' (stL_ok h') h2 h3 h4)
theorem V_astoreN_n {k0 : Fin 4} (d : decode M.2.1 pc = .ok (.astore_n k0, 1)) (e : pc + 1 = q) (hn : (k0 : Nat) < M.2.2.1) (hL : stL L (k0 : Nat) .null = L') (k : V X M Q q L' st σ) : V X M Q pc L (.null :: st) σ := fun ok H locs ls h1 h2 h3 h4 => by
  subst e; subst hL
  exact lv_astore_nN ok.1 ok.2.1 d rfl h1.has hn rfl (fun ls' h' => k ok H locs ls' (stL_ok h') h2 h3 h4)
theorem V_aloadN_n {k0 : Fin 4} (d : decode M.2.1 pc = .ok (.aload_n k0, 1)) (e : pc + 1 = q) (hl : L[(k0 : Nat)]? = some (some .null)) (k : V X M Q q L (.null :: st) σ) : V X M Q pc L st σ := fun ok H locs ls h1 h2 h3 h4 => by
  subst e
  exact lv_aload_nN ok.1 ok.2.1 d rfl (h1.2.2 _ _ hl) (k ok H locs ls h1 h2 h3 h4)
theorem V_iinc {i : Nat} {n : Int} {x v : Int32} (d : decode M.2.1 pc = .ok (.iinc i n, 3)) (e : pc + 3 = q) (hl : L[i]? = some (some (.int x))) (hv : x + Int32.ofInt n = v) (hn : i < M.2.2.1) (hL : stL L i (.int v) = L') (k : V X M Q q L' st σ) : V X M Q pc L st σ := fun ok H locs ls h1 h2 h3 h4 => by
  subst e; subst hL
  obtain ⟨a, ha⟩ := List.getElem?_of_mem (lvo_mem.mpr hl)
  exact lv_iinc ok.1 ok.2.1 d h1.has ha hv hn rfl (fun ls' h' => k ok H locs ls' (stL_ok h') h2 h3 h4)
theorem V_goto {off : Int} (d : decode M.2.1 pc = .ok (.goto off, 3)) (e : (pc : Int) + off = (q : Int)) (k : V X M Q q L st σ) : V X M Q pc L st σ := fun ok H locs ls h1 h2 h3 h4 => lv_goto ok.1 ok.2.1 d e (k ok H locs ls h1 h2 h3 h4)
theorem V_ldc {index : Nat} {v : Int32} (hc : Jvm.Cond.constant M.1 index v ∈ gtb) (d : decode M.2.1 pc = .ok (.ldc index, 2)) (e : pc + 2 = q) (k : V X M Q q L (.int v :: st) σ) : V X M Q pc L st σ := fun ok H locs ls h1 h2 h3 h4 => by
  subst e
  exact lv_ldc ok.1 ok.2.1 ok.2.2.2.1 (ok.2.2.2.2.1 _ hc) d (k ok H locs ls h1 h2 h3 h4)
theorem V_ldc2 {index : Nat} {v : Int64} (hc : Jvm.Cond.constantLong M.1 index v ∈ gtb) (d : decode M.2.1 pc = .ok (.ldc2_w index, 3)) (e : pc + 3 = q) (k : V X M Q q L (.long v :: st) σ) : V X M Q pc L st σ := fun ok H locs ls h1 h2 h3 h4 => by
  subst e
  exact lv_ldc2 ok.1 ok.2.1 ok.2.2.2.1 (ok.2.2.2.2.1 _ hc) d (k ok H locs ls h1 h2 h3 h4)
theorem V_ifnonnull {x : Nat} {off : Int} (d : decode M.2.1 pc = .ok (.ifnonnull off, 3)) (e : (pc : Int) + off = (q : Int)) (k : V X M Q q L st σ) : V X M Q pc L (.ref x :: st) σ := fun ok H locs ls h1 h2 h3 h4 => lv_ifnonnull ok.1 ok.2.1 d e (k ok H locs ls h1 h2 h3 h4)
theorem V_ifnonnullN {off : Int} (d : decode M.2.1 pc = .ok (.ifnonnull off, 3)) (e : pc + 3 = q) (k : V X M Q q L st σ) : V X M Q pc L (.null :: st) σ := fun ok H locs ls h1 h2 h3 h4 => by
  subst e
  exact lv_ifnonnullN ok.1 ok.2.1 d (k ok H locs ls h1 h2 h3 h4)
theorem V_if_eq {x : Int32} {off : Int} {q2 : Nat} (d : decode M.2.1 pc = .ok (.ifCond .eq off, 3)) (e : (pc : Int) + off = (q : Int)) (e2 : pc + 3 = q2) (kt : x = 0 → V X M Q q L st σ) (kf : ¬ x = 0 → V X M Q q2 L st σ) : V X M Q pc L (.int x :: st) σ := fun ok H locs ls h1 h2 h3 h4 => by
  subst e2
  exact lv_if_eq ok.1 ok.2.1 d e (fun c => kt c ok H locs ls h1 h2 h3 h4) (fun c => kf (by simpa using c) ok H locs ls h1 h2 h3 h4)
theorem V_icmp_eq {x y : Int32} {off : Int} {q2 : Nat} (d : decode M.2.1 pc = .ok (.if_icmp .eq off, 3)) (e : (pc : Int) + off = (q : Int)) (e2 : pc + 3 = q2) (kt : x = y → V X M Q q L st σ) (kf : ¬ x = y → V X M Q q2 L st σ) : V X M Q pc L (.int y :: .int x :: st) σ := fun ok H locs ls h1 h2 h3 h4 => by
  subst e2
  exact lv_icmp_eq ok.1 ok.2.1 d e (fun c => kt c ok H locs ls h1 h2 h3 h4) (fun c => kf (by simpa using c) ok H locs ls h1 h2 h3 h4)
theorem V_if_ne {x : Int32} {off : Int} {q2 : Nat} (d : decode M.2.1 pc = .ok (.ifCond .ne off, 3)) (e : (pc : Int) + off = (q : Int)) (e2 : pc + 3 = q2) (kt : ¬ x = 0 → V X M Q q L st σ) (kf : x = 0 → V X M Q q2 L st σ) : V X M Q pc L (.int x :: st) σ := fun ok H locs ls h1 h2 h3 h4 => by
  subst e2
  exact lv_if_ne ok.1 ok.2.1 d e (fun c => kt c ok H locs ls h1 h2 h3 h4) (fun c => kf (by simpa using c) ok H locs ls h1 h2 h3 h4)
theorem V_icmp_ne {x y : Int32} {off : Int} {q2 : Nat} (d : decode M.2.1 pc = .ok (.if_icmp .ne off, 3)) (e : (pc : Int) + off = (q : Int)) (e2 : pc + 3 = q2) (kt : ¬ x = y → V X M Q q L st σ) (kf : x = y → V X M Q q2 L st σ) : V X M Q pc L (.int y :: .int x :: st) σ := fun ok H locs ls h1 h2 h3 h4 => by
  subst e2
  exact lv_icmp_ne ok.1 ok.2.1 d e (fun c => kt c ok H locs ls h1 h2 h3 h4) (fun c => kf (by simpa using c) ok H locs ls h1 h2 h3 h4)
theorem V_if_lt {x : Int32} {off : Int} {q2 : Nat} (d : decode M.2.1 pc = .ok (.ifCond .lt off, 3)) (e : (pc : Int) + off = (q : Int)) (e2 : pc + 3 = q2) (kt : x < 0 → V X M Q q L st σ) (kf : ¬ x < 0 → V X M Q q2 L st σ) : V X M Q pc L (.int x :: st) σ := fun ok H locs ls h1 h2 h3 h4 => by
  subst e2
  exact lv_if_lt ok.1 ok.2.1 d e (fun c => kt c ok H locs ls h1 h2 h3 h4) (fun c => kf (by simpa using c) ok H locs ls h1 h2 h3 h4)
theorem V_icmp_lt {x y : Int32} {off : Int} {q2 : Nat} (d : decode M.2.1 pc = .ok (.if_icmp .lt off, 3)) (e : (pc : Int) + off = (q : Int)) (e2 : pc + 3 = q2) (kt : x < y → V X M Q q L st σ) (kf : ¬ x < y → V X M Q q2 L st σ) : V X M Q pc L (.int y :: .int x :: st) σ := fun ok H locs ls h1 h2 h3 h4 => by
  subst e2
  exact lv_icmp_lt ok.1 ok.2.1 d e (fun c => kt c ok H locs ls h1 h2 h3 h4) (fun c => kf (by simpa using c) ok H locs ls h1 h2 h3 h4)
theorem V_if_ge {x : Int32} {off : Int} {q2 : Nat} (d : decode M.2.1 pc = .ok (.ifCond .ge off, 3)) (e : (pc : Int) + off = (q : Int)) (e2 : pc + 3 = q2) (kt : 0 ≤ x → V X M Q q L st σ) (kf : ¬ 0 ≤ x → V X M Q q2 L st σ) : V X M Q pc L (.int x :: st) σ := fun ok H locs ls h1 h2 h3 h4 => by
  subst e2
  exact lv_if_ge ok.1 ok.2.1 d e (fun c => kt c ok H locs ls h1 h2 h3 h4) (fun c => kf (by simpa using c) ok H locs ls h1 h2 h3 h4)
theorem V_icmp_ge {x y : Int32} {off : Int} {q2 : Nat} (d : decode M.2.1 pc = .ok (.if_icmp .ge off, 3)) (e : (pc : Int) + off = (q : Int)) (e2 : pc + 3 = q2) (kt : y ≤ x → V X M Q q L st σ) (kf : ¬ y ≤ x → V X M Q q2 L st σ) : V X M Q pc L (.int y :: .int x :: st) σ := fun ok H locs ls h1 h2 h3 h4 => by
  subst e2
  exact lv_icmp_ge ok.1 ok.2.1 d e (fun c => kt c ok H locs ls h1 h2 h3 h4) (fun c => kf (by simpa using c) ok H locs ls h1 h2 h3 h4)
theorem V_if_gt {x : Int32} {off : Int} {q2 : Nat} (d : decode M.2.1 pc = .ok (.ifCond .gt off, 3)) (e : (pc : Int) + off = (q : Int)) (e2 : pc + 3 = q2) (kt : 0 < x → V X M Q q L st σ) (kf : ¬ 0 < x → V X M Q q2 L st σ) : V X M Q pc L (.int x :: st) σ := fun ok H locs ls h1 h2 h3 h4 => by
  subst e2
  exact lv_if_gt ok.1 ok.2.1 d e (fun c => kt c ok H locs ls h1 h2 h3 h4) (fun c => kf (by simpa using c) ok H locs ls h1 h2 h3 h4)
theorem V_icmp_gt {x y : Int32} {off : Int} {q2 : Nat} (d : decode M.2.1 pc = .ok (.if_icmp .gt off, 3)) (e : (pc : Int) + off = (q : Int)) (e2 : pc + 3 = q2) (kt : y < x → V X M Q q L st σ) (kf : ¬ y < x → V X M Q q2 L st σ) : V X M Q pc L (.int y :: .int x :: st) σ := fun ok H locs ls h1 h2 h3 h4 => by
  subst e2
  exact lv_icmp_gt ok.1 ok.2.1 d e (fun c => kt c ok H locs ls h1 h2 h3 h4) (fun c => kf (by simpa using c) ok H locs ls h1 h2 h3 h4)
theorem V_if_le {x : Int32} {off : Int} {q2 : Nat} (d : decode M.2.1 pc = .ok (.ifCond .le off, 3)) (e : (pc : Int) + off = (q : Int)) (e2 : pc + 3 = q2) (kt : x ≤ 0 → V X M Q q L st σ) (kf : ¬ x ≤ 0 → V X M Q q2 L st σ) : V X M Q pc L (.int x :: st) σ := fun ok H locs ls h1 h2 h3 h4 => by
  subst e2
  exact lv_if_le ok.1 ok.2.1 d e (fun c => kt c ok H locs ls h1 h2 h3 h4) (fun c => kf (by simpa using c) ok H locs ls h1 h2 h3 h4)
theorem V_icmp_le {x y : Int32} {off : Int} {q2 : Nat} (d : decode M.2.1 pc = .ok (.if_icmp .le off, 3)) (e : (pc : Int) + off = (q : Int)) (e2 : pc + 3 = q2) (kt : x ≤ y → V X M Q q L st σ) (kf : ¬ x ≤ y → V X M Q q2 L st σ) : V X M Q pc L (.int y :: .int x :: st) σ := fun ok H locs ls h1 h2 h3 h4 => by
  subst e2
  exact lv_icmp_le ok.1 ok.2.1 d e (fun c => kt c ok H locs ls h1 h2 h3 h4) (fun c => kf (by simpa using c) ok H locs ls h1 h2 h3 h4)
theorem V_tsIn {dflt lo hi : Int} {offs : Array Int} {len : Nat} {x : Int32} {off : Int} (j : Int32) (hx : x = j) (d : decode M.2.1 pc = .ok (.tableswitch dflt lo hi offs, len)) (g1 : ¬ j.toInt < lo) (g2 : ¬ hi < j.toInt) (ho : offs[(j.toInt - lo).toNat]? = some off) (e : (pc : Int) + off = (q : Int)) (k : V X M Q q L st σ) : V X M Q pc L (.int x :: st) σ := fun ok H locs ls h1 h2 h3 h4 => by
  subst hx
  exact lv_tableIn ok.1 ok.2.1 d g1 g2 ho e (k ok H locs ls h1 h2 h3 h4)
def neAll (x : Int32) : Nat → Prop
  | 0 => True
  | n + 1 => ¬ x = nI n ∧ neAll x n
theorem neAll_at {x : Int32} : ∀ {n : Nat}, neAll x n → ∀ j, j < n → ¬ x = nI j
  | 0, _, j, h => absurd h (Nat.not_lt_zero j)
  | n + 1, h, j, hj => by
    rcases Nat.lt_succ_iff_lt_or_eq.mp hj with g | g
    · exact neAll_at h.2 j g
    · rw [g]; exact h.1
theorem neAll_out {x : Int32} {n : Nat} (h : neAll x (n + 1)) (hn : n + 1 < 2 ^ 31) : x.toInt < 0 ∨ (n : Int) < x.toInt := by
  by_cases h0 : x < 0
  · left; exact Int32.lt_iff_toInt_lt.mp h0
  · right
    obtain ⟨j, hj, rfl⟩ := nI_of h0
    rw [nI_toInt hj]
    rcases Nat.lt_or_ge j (n + 1) with g | g
    · exact absurd rfl (neAll_at h j g)
    · omega
theorem V_tsOut {dflt lo hi : Int} {offs : Array Int} {len : Nat} {x : Int32} (n : Nat) (hx : neAll x (n + 1)) (hn : n + 1 < 2 ^ 31) (h0 : lo = 0) (hh : hi = (n : Int)) (d : decode M.2.1 pc = .ok (.tableswitch dflt lo hi offs, len)) (e : (pc : Int) + dflt = (q : Int)) (k : V X M Q q L st σ) : V X M Q pc L (.int x :: st) σ := fun ok H locs ls h1 h2 h3 h4 => by
  subst h0; subst hh
  exact lv_tableOut ok.1 ok.2.1 d (neAll_out hx hn) e (k ok H locs ls h1 h2 h3 h4)
/-- fewer locals are known -/
def msk : List Bool → List (Option Value) → List (Option Value)
  | true :: bs, v :: L => v :: msk bs L
  | false :: bs, _ :: L => none :: msk bs L
  | _, _ => []
theorem msk_at : ∀ (bs : List Bool) (L : List (Option Value)) (i : Nat) (v : Value), (msk bs L)[i]? = some (some v) → L[i]? = some (some v)
  | [], L, i, v, h => by simp [msk] at h
  | true :: bs, [], i, v, h => by simp [msk] at h
  | false :: bs, [], i, v, h => by simp [msk] at h
  | true :: bs, w :: L, 0, v, h => by simpa [msk] using h
  | true :: bs, w :: L, i + 1, v, h => by
    simp only [msk, List.getElem?_cons_succ] at h ⊢
    exact msk_at bs L i v h
  | false :: bs, w :: L, 0, v, h => by simp [msk] at h
  | false :: bs, w :: L, i + 1, v, h => by
    simp only [msk, List.getElem?_cons_succ] at h ⊢
    exact msk_at bs L i v h
theorem V_msk (bs : List Bool) (hL : msk bs L = L') (k : V X M Q pc L' st σ) : V X M Q pc L st σ := fun ok H locs ls h1 h2 h3 h4 => by
  subst hL
  exact k ok H locs ls ⟨h1.1, h1.2.1, fun i v h => h1.2.2 i v (msk_at bs L i v h)⟩ h2 h3 h4
/-- a class of the worlds -/
def Clz (ci : Nat) (C : String) (T : u_T) (N : Nat) (ty : Nat → FieldType) : Prop := vcl[ci]? = some (C, T, N) ∧ (∀ w ∈ u_ws C T N, w ∈ gtb) ∧ (∀ k, k < N → parseFieldDescriptor (T k).2.2.1 = some (ty k)) ∧ (∀ a, a < N → ∀ b, b < N → a ≠ b → (T a).2.1 ≠ (T b).2.1)
theorem V_get {index k j ci n N : Nat} {C : String} {T : u_T} {ty : Nat → FieldType} {fs : List (Nat × Nat)} {f : Nat × Nat} (cz : Clz ci C T N ty) (d : decode M.2.1 pc = .ok (.getfield index, 3)) (e : pc + 3 = q) (hk : shp[k]? = some (ci + 5, n, fs)) (hj : fs[j]? = some f) (hN : j < N) (lk : Cond.fieldLink M.1 index (T j).1 (T j).2.1 (T j).2.2.1 ∈ gtb)
    (kk : V X M Q q L (fv (xY X) σ k j f :: st) σ) : V X M Q pc L (.ref (ad (xY X) k) :: st) σ := fun ok H locs ls h1 h2 h3 h4 => by
  subst e
  have ha := wl_at (Y := xY X) (σ := σ) hk
  refine va_get (D := (xY X).1) (cl := vcl) (tys := tysY (xY X)) (ci := ci) ok.1 ok.2.1 ok.2.2.2.2.1 cz.2.1 ok.2.2.2.1 ok.2.2.2.2.2.1 h2 k ha cz.1 j hN (ok.2.2.2.2.1 _ lk) (fun _ h9 => h9) (v := fv (xY X) σ k j f) ?_ d (kk ok H locs ls h1 h2 h3 h4)
  rw [flds_at, hj]
  simp
theorem sI_off (σ : Sg) (k j : Nat) (v : Int32) : ∀ a, a ≠ k → (sI σ k j v).1 a = σ.1 a ∧ (sI σ k j v).2 a = σ.2 a := fun a h => ⟨by funext b; simp [sI, h], rfl⟩
theorem sL_off (σ : Sg) (k j : Nat) (v : Int64) : ∀ a, a ≠ k → (sL σ k j v).1 a = σ.1 a ∧ (sL σ k j v).2 a = σ.2 a := fun a h => ⟨rfl, by funext b; simp [sL, h]⟩
theorem cL_off (σ : Sg) (k0 k1 a b c : Nat) : ∀ x, x ≠ k1 → (cL σ k0 k1 a b c).1 x = σ.1 x ∧ (cL σ k0 k1 a b c).2 x = σ.2 x := fun x h => ⟨rfl, by simp [cL, h]⟩
theorem flds_sI {Y : Yc} {σ : Sg} {k j n : Nat} {v : Int32} {fs : List (Nat × Nat)} (hj : fs[j]? = some (0, n)) : flds Y (sI σ k j v) k fs 0 = (flds Y σ k fs 0).set j (.int v) := by
  apply List.ext_getElem?
  intro i
  rw [List.getElem?_set, flds_at, flds_at]
  by_cases hi : j = i
  · subst hi
    have hl : j < (flds Y σ k fs 0).length := by rw [flds_len]; exact (List.getElem?_eq_some_iff.mp hj).1
    rw [if_pos rfl, if_pos hl, hj]
    simp [fv, sI]
  · rw [if_neg hi]
    cases fs[i]? with
    | none => rfl
    | some f =>
      have : ¬ i = j := fun z => hi z.symm
      simp [fv, sI, this]
theorem flds_sL {Y : Yc} {σ : Sg} {k j n : Nat} {v : Int64} {fs : List (Nat × Nat)} (hj : fs[j]? = some (1, n)) : flds Y (sL σ k j v) k fs 0 = (flds Y σ k fs 0).set j (.long v) := by
  apply List.ext_getElem?
  intro i
  rw [List.getElem?_set, flds_at, flds_at]
  by_cases hi : j = i
  · subst hi
    have hl : j < (flds Y σ k fs 0).length := by rw [flds_len]; exact (List.getElem?_eq_some_iff.mp hj).1
    rw [if_pos rfl, if_pos hl, hj]
    simp [fv, sL]
  · rw [if_neg hi]
    cases fs[i]? with
    | none => rfl
    | some f =>
      have : ¬ i = j := fun z => hi z.symm
      simp [fv, sL, this]
theorem V_puti {index k j ci n n2 N : Nat} {C : String} {T : u_T} {ty : Nat → FieldType} {fs : List (Nat × Nat)} {v : Int32} {σ' : Sg} (cz : Clz ci C T N ty) (t : FieldType) (ht : parseFieldDescriptor (T j).2.2.1 = some t) (hn : narrow t (.int v) = .int v) (hf : fits t (.int v) = true) (hfin : (T j).2.2.2 = false) (d : decode M.2.1 pc = .ok (.putfield index, 3)) (e : pc + 3 = q) (hk : shp[k]? = some (ci + 5, n, fs)) (hj : fs[j]? = some (0, n2)) (hN : j < N) (lk : Cond.fieldLink M.1 index (T j).1 (T j).2.1 (T j).2.2.1 ∈ gtb) (es : σ' = sI σ k j v)
    (kk : V X M Q q L st σ') : V X M Q pc L (.int v :: .ref (ad (xY X) k) :: st) σ := fun ok H locs ls h1 h2 h3 h4 => by
  subst e; subst es
  have ha := wl_at (Y := xY X) (σ := σ) hk
  refine va_put (D := (xY X).1) (cl := vcl) (tys := tysY (xY X)) (ci := ci) (ty := t) ok.1 ok.2.1 ok.2.2.2.2.1 cz.2.1 ty cz.2.2.1 cz.2.2.2 ok.2.2.2.1 ok.2.2.2.2.2.1 h2 h3 h4 k ha cz.1 j hN (ok.2.2.2.2.1 _ lk) (fun _ h9 => h9) hfin ht hn hf (by rw [flds_len]; exact (List.getElem?_eq_some_iff.mp hj).1) d (fun H1 locs1 g1 g2 g3 => ?_)
  have he : cel (xY X) (sI σ k j v) k (ci + 5, n, fs) = .inr (ci, (flds (xY X) σ k fs 0).set j (.int v)) := by
    show Sum.inr (ci, flds (xY X) (sI σ k j v) k fs 0) = _
    rw [flds_sI hj]
  rw [wl_set hk (sI_off σ k j v) he] at g1 g2
  exact kk ok H1 locs1 ls h1 g1 g2 g3
theorem V_putl {index k j ci n n2 N : Nat} {C : String} {T : u_T} {ty : Nat → FieldType} {fs : List (Nat × Nat)} {v : Int64} {σ' : Sg} (cz : Clz ci C T N ty) (ht : parseFieldDescriptor (T j).2.2.1 = some .long) (hfin : (T j).2.2.2 = false) (d : decode M.2.1 pc = .ok (.putfield index, 3)) (e : pc + 3 = q) (hk : shp[k]? = some (ci + 5, n, fs)) (hj : fs[j]? = some (1, n2)) (hN : j < N) (lk : Cond.fieldLink M.1 index (T j).1 (T j).2.1 (T j).2.2.1 ∈ gtb) (es : σ' = sL σ k j v)
    (kk : V X M Q q L st σ') : V X M Q pc L (.long v :: .ref (ad (xY X) k) :: st) σ := fun ok H locs ls h1 h2 h3 h4 => by
  subst e; subst es
  have ha := wl_at (Y := xY X) (σ := σ) hk
  refine va_put (D := (xY X).1) (cl := vcl) (tys := tysY (xY X)) (ci := ci) (ty := .long) ok.1 ok.2.1 ok.2.2.2.2.1 cz.2.1 ty cz.2.2.1 cz.2.2.2 ok.2.2.2.1 ok.2.2.2.2.2.1 h2 h3 h4 k ha cz.1 j hN (ok.2.2.2.2.1 _ lk) (fun _ h9 => h9) hfin ht rfl rfl (by rw [flds_len]; exact (List.getElem?_eq_some_iff.mp hj).1) d (fun H1 locs1 g1 g2 g3 => ?_)
  have he : cel (xY X) (sL σ k j v) k (ci + 5, n, fs) = .inr (ci, (flds (xY X) σ k fs 0).set j (.long v)) := by
    show Sum.inr (ci, flds (xY X) (sL σ k j v) k fs 0) = _
    rw [flds_sL hj]
  rw [wl_set hk (sL_off σ k j v) he] at g1 g2
  exact kk ok H1 locs1 ls h1 g1 g2 g3
theorem V_iald {k n : Nat} {fs : List (Nat × Nat)} {i : Int32} {x : Int32} (d : decode M.2.1 pc = .ok (.iaload, 1)) (e : pc + 1 = q) (hk : shp[k]? = some (0, n, fs)) (hin : vp_in i n) (hx : x = σ.1 k i.toNatClampNeg) (kk : V X M Q q L (.int x :: st) σ) : V X M Q pc L (.int i :: .ref (ad (xY X) k) :: st) σ := fun ok H locs ls h1 h2 h3 h4 => by
  subst e; subst hx
  exact va_iald (D := (xY X).1) (cl := vcl) (tys := tysY (xY X)) ok.1 ok.2.1 ok.2.2.2.2.2.1 h2 k 0 (wl_at (Y := xY X) (σ := σ) hk) rfl hin d (kk ok H locs ls h1 h2 h3 h4)
theorem V_zald {k n : Nat} {fs : List (Nat × Nat)} {i : Int32} {x : Int32} (d : decode M.2.1 pc = .ok (.baload, 1)) (e : pc + 1 = q) (hk : shp[k]? = some (1, n, fs)) (hin : vp_in i n) (hx : x = σ.1 k i.toNatClampNeg) (kk : V X M Q q L (.int x :: st) σ) : V X M Q pc L (.int i :: .ref (ad (xY X) k) :: st) σ := fun ok H locs ls h1 h2 h3 h4 => by
  subst e; subst hx
  exact va_zald (D := (xY X).1) (cl := vcl) (tys := tysY (xY X)) ok.1 ok.2.1 ok.2.2.2.2.2.1 h2 k 1 (wl_at (Y := xY X) (σ := σ) hk) rfl hin d (kk ok H locs ls h1 h2 h3 h4)
theorem V_cald {k n : Nat} {fs : List (Nat × Nat)} {i : Int32} {x : Int32} (d : decode M.2.1 pc = .ok (.caload, 1)) (e : pc + 1 = q) (hk : shp[k]? = some (2, n, fs)) (hin : vp_in i n) (hx : x = σ.1 k i.toNatClampNeg) (kk : V X M Q q L (.int x :: st) σ) : V X M Q pc L (.int i :: .ref (ad (xY X) k) :: st) σ := fun ok H locs ls h1 h2 h3 h4 => by
  subst e; subst hx
  exact va_cald (D := (xY X).1) (cl := vcl) (tys := tysY (xY X)) ok.1 ok.2.1 ok.2.2.2.2.2.1 h2 k 2 (wl_at (Y := xY X) (σ := σ) hk) rfl hin d (kk ok H locs ls h1 h2 h3 h4)
theorem V_lald {k n : Nat} {fs : List (Nat × Nat)} {i : Int32} {x : Int64} (d : decode M.2.1 pc = .ok (.laload, 1)) (e : pc + 1 = q) (hk : shp[k]? = some (3, n, fs)) (hin : vp_in i n) (hx : x = σ.2 k i.toNatClampNeg) (kk : V X M Q q L (.long x :: st) σ) : V X M Q pc L (.int i :: .ref (ad (xY X) k) :: st) σ := fun ok H locs ls h1 h2 h3 h4 => by
  subst e; subst hx
  exact va_lald (D := (xY X).1) (cl := vcl) (tys := tysY (xY X)) ok.1 ok.2.1 ok.2.2.2.2.2.1 h2 k 3 (wl_at (Y := xY X) (σ := σ) hk) rfl hin d (kk ok H locs ls h1 h2 h3 h4)
theorem V_iast {k n : Nat} {fs : List (Nat × Nat)} {i : Int32} {x : Int32} {σ' : Sg} (d : decode M.2.1 pc = .ok (.iastore, 1)) (e : pc + 1 = q) (hk : shp[k]? = some (0, n, fs)) (hin : vp_in i n) (es : σ' = sI σ k i.toNatClampNeg (x)) (kk : V X M Q q L st σ') : V X M Q pc L (.int x :: .int i :: .ref (ad (xY X) k) :: st) σ := fun ok H locs ls h1 h2 h3 h4 => by
  subst e; subst es
  refine va_iast (D := (xY X).1) (cl := vcl) (tys := tysY (xY X)) ok.1 ok.2.1 ok.2.2.2.2.2.1 h2 h3 h4 k 0 (wl_at (Y := xY X) (σ := σ) hk) rfl hin d (fun H1 locs1 g1 g2 g3 => ?_)
  have he : cel (xY X) (sI σ k i.toNatClampNeg (x)) k (0, n, fs) = (Sum.inl ((xY X).2.2 0, n, Sum.inl (upd (σ.1 k) i.toNatClampNeg (x))) : va_E) := by
    have hu : (sI σ k i.toNatClampNeg (x)).1 k = upd (σ.1 k) i.toNatClampNeg (x) := by
      funext b
      simp [sI, upd]
    show Sum.inl ((xY X).2.2 0, n, Sum.inl ((sI σ k i.toNatClampNeg (x)).1 k)) = _
    rw [hu]
  rw [wl_set hk (sI_off σ k i.toNatClampNeg (x)) he] at g1 g2
  exact kk ok H1 locs1 ls h1 g1 g2 g3
theorem V_zast {k n : Nat} {fs : List (Nat × Nat)} {i : Int32} {x : Int32} {σ' : Sg} (d : decode M.2.1 pc = .ok (.bastore, 1)) (e : pc + 1 = q) (hk : shp[k]? = some (1, n, fs)) (hin : vp_in i n) (es : σ' = sI σ k i.toNatClampNeg (vp_nar .boolean x)) (kk : V X M Q q L st σ') : V X M Q pc L (.int x :: .int i :: .ref (ad (xY X) k) :: st) σ := fun ok H locs ls h1 h2 h3 h4 => by
  subst e; subst es
  refine va_zast (D := (xY X).1) (cl := vcl) (tys := tysY (xY X)) ok.1 ok.2.1 ok.2.2.2.2.2.1 h2 h3 h4 k 1 (wl_at (Y := xY X) (σ := σ) hk) rfl hin d (fun H1 locs1 g1 g2 g3 => ?_)
  have he : cel (xY X) (sI σ k i.toNatClampNeg (vp_nar .boolean x)) k (1, n, fs) = (Sum.inl ((xY X).2.2 1, n, Sum.inl (upd (σ.1 k) i.toNatClampNeg (vp_nar .boolean x))) : va_E) := by
    have hu : (sI σ k i.toNatClampNeg (vp_nar .boolean x)).1 k = upd (σ.1 k) i.toNatClampNeg (vp_nar .boolean x) := by
      funext b
      simp [sI, upd]
    show Sum.inl ((xY X).2.2 1, n, Sum.inl ((sI σ k i.toNatClampNeg (vp_nar .boolean x)).1 k)) = _
    rw [hu]
  rw [wl_set hk (sI_off σ k i.toNatClampNeg (vp_nar .boolean x)) he] at g1 g2
  exact kk ok H1 locs1 ls h1 g1 g2 g3
theorem V_cast {k n : Nat} {fs : List (Nat × Nat)} {i : Int32} {x : Int32} {σ' : Sg} (d : decode M.2.1 pc = .ok (.castore, 1)) (e : pc + 1 = q) (hk : shp[k]? = some (2, n, fs)) (hin : vp_in i n) (es : σ' = sI σ k i.toNatClampNeg (vp_nar .char x)) (kk : V X M Q q L st σ') : V X M Q pc L (.int x :: .int i :: .ref (ad (xY X) k) :: st) σ := fun ok H locs ls h1 h2 h3 h4 => by
  subst e; subst es
  refine va_cast (D := (xY X).1) (cl := vcl) (tys := tysY (xY X)) ok.1 ok.2.1 ok.2.2.2.2.2.1 h2 h3 h4 k 2 (wl_at (Y := xY X) (σ := σ) hk) rfl hin d (fun H1 locs1 g1 g2 g3 => ?_)
  have he : cel (xY X) (sI σ k i.toNatClampNeg (vp_nar .char x)) k (2, n, fs) = (Sum.inl ((xY X).2.2 2, n, Sum.inl (upd (σ.1 k) i.toNatClampNeg (vp_nar .char x))) : va_E) := by
    have hu : (sI σ k i.toNatClampNeg (vp_nar .char x)).1 k = upd (σ.1 k) i.toNatClampNeg (vp_nar .char x) := by
      funext b
      simp [sI, upd]
    show Sum.inl ((xY X).2.2 2, n, Sum.inl ((sI σ k i.toNatClampNeg (vp_nar .char x)).1 k)) = _
    rw [hu]
  rw [wl_set hk (sI_off σ k i.toNatClampNeg (vp_nar .char x)) he] at g1 g2
  exact kk ok H1 locs1 ls h1 g1 g2 g3
theorem V_last {k n : Nat} {fs : List (Nat × Nat)} {i : Int32} {x : Int64} {σ' : Sg} (d : decode M.2.1 pc = .ok (.lastore, 1)) (e : pc + 1 = q) (hk : shp[k]? = some (3, n, fs)) (hin : vp_in i n) (es : σ' = sL σ k i.toNatClampNeg (x)) (kk : V X M Q q L st σ') : V X M Q pc L (.long x :: .int i :: .ref (ad (xY X) k) :: st) σ := fun ok H locs ls h1 h2 h3 h4 => by
  subst e; subst es
  refine va_last (D := (xY X).1) (cl := vcl) (tys := tysY (xY X)) ok.1 ok.2.1 ok.2.2.2.2.2.1 h2 h3 h4 k 3 (wl_at (Y := xY X) (σ := σ) hk) rfl hin d (fun H1 locs1 g1 g2 g3 => ?_)
  have he : cel (xY X) (sL σ k i.toNatClampNeg (x)) k (3, n, fs) = (Sum.inl ((xY X).2.2 3, n, Sum.inr (Sum.inl (vp_updL (σ.2 k) i.toNatClampNeg (x)))) : va_E) := by
    have hu : (sL σ k i.toNatClampNeg (x)).2 k = vp_updL (σ.2 k) i.toNatClampNeg (x) := by
      funext b
      simp [sL, vp_updL]
    show Sum.inl ((xY X).2.2 3, n, Sum.inr (Sum.inl ((sL σ k i.toNatClampNeg (x)).2 k))) = _
    rw [hu]
  rw [wl_set hk (sL_off σ k i.toNatClampNeg (x)) he] at g1 g2
  exact kk ok H1 locs1 ls h1 g1 g2 g3
theorem V_alen {k n kd : Nat} {fs : List (Nat × Nat)} (hkd : kd < 4) {v : Int32} (d : decode M.2.1 pc = .ok (.arraylength, 1)) (e : pc + 1 = q) (hk : shp[k]? = some (kd, n, fs)) (hv : Int32.ofNat n = v) (kk : V X M Q q L (.int v :: st) σ) : V X M Q pc L (.ref (ad (xY X) k) :: st) σ := fun ok H locs ls h1 h2 h3 h4 => by
  subst e
  rcases (show kd = 0 ∨ kd = 1 ∨ kd = 2 ∨ kd = 3 by omega) with rfl | rfl | rfl | rfl
  · exact va_alen (D := (xY X).1) (cl := vcl) (tys := tysY (xY X)) ok.1 ok.2.1 ok.2.2.2.2.2.1 h2 k 0 (wl_at (Y := xY X) (σ := σ) hk) (ty := .int) rfl hv d (kk ok H locs ls h1 h2 h3 h4)
  · exact va_alen (D := (xY X).1) (cl := vcl) (tys := tysY (xY X)) ok.1 ok.2.1 ok.2.2.2.2.2.1 h2 k 1 (wl_at (Y := xY X) (σ := σ) hk) (ty := .boolean) rfl hv d (kk ok H locs ls h1 h2 h3 h4)
  · exact va_alen (D := (xY X).1) (cl := vcl) (tys := tysY (xY X)) ok.1 ok.2.1 ok.2.2.2.2.2.1 h2 k 2 (wl_at (Y := xY X) (σ := σ) hk) (ty := .char) rfl hv d (kk ok H locs ls h1 h2 h3 h4)
  · exact va_alen (D := (xY X).1) (cl := vcl) (tys := tysY (xY X)) ok.1 ok.2.1 ok.2.2.2.2.2.1 h2 k 3 (wl_at (Y := xY X) (σ := σ) hk) (ty := .long) rfl hv d (kk ok H locs ls h1 h2 h3 h4)
theorem V_aald {k n j p t : Nat} {fs : List (Nat × Nat)} {i : Int32} (d : decode M.2.1 pc = .ok (.aaload, 1)) (e : pc + 1 = q) (hk : shp[k]? = some (4, n, fs)) (hin : vp_in i n) (hi : i.toNatClampNeg = j) (hj : fs[j]? = some (t, p)) (kk : V X M Q q L (.ref (ad (xY X) p) :: st) σ) : V X M Q pc L (.int i :: .ref (ad (xY X) k) :: st) σ := fun ok H locs ls h1 h2 h3 h4 => by
  subst e
  refine va_aldq (D := (xY X).1) (cl := vcl) (tys := tysY (xY X)) (C := "TermScan$Lexicon") ok.1 ok.2.1 ok.2.2.2.2.2.1 h2 k 4 (wl_at (Y := xY X) (σ := σ) hk) rfl hin d ?_
  have hr : va_rf ((fs[i.toNatClampNeg]?).map (fun f => (xY X).2.1 f.2)) = .ref (ad (xY X) p) := by rw [hi, hj]; rfl
  show W _ _ _ _ _ _ _ _ _ _ _ _ _ _ _ (F0 _ _ _ (va_rf ((fs[i.toNatClampNeg]?).map (fun f => (xY X).2.1 f.2)) :: st))
  rw [hr]
  exact kk ok H locs ls h1 h2 h3 h4
/-- System.arraycopy of longs -/
theorem V_cpyl {k0 k1 n0 n1 index : Nat} {fs0 fs1 : List (Nat × Nat)} {sp dp n : Int32} {σ' : Sg} (hlk : Cond.methodLink M.1 index arraycopyName ∈ gtb) (d : decode M.2.1 pc = .ok (.invokestatic index, 3)) (e : pc + 3 = q) (hk0 : shp[k0]? = some (3, n0, fs0)) (hk1 : shp[k1]? = some (3, n1, fs1)) (g1 : ¬ sp < 0) (g2 : ¬ dp < 0) (g3 : ¬ n < 0) (g4 : sp.toNatClampNeg + n.toNatClampNeg ≤ n0) (g5 : dp.toNatClampNeg + n.toNatClampNeg ≤ n1) (hfr : 1 ≤ M.2.2.2.1.frames) (hlo : (st.map fun v => v.category).sum + (nativeFrameWords "java/lang/System" "arraycopy" 5 + 11) ≤ M.2.2.2.1.locals) (es : σ' = cL σ k0 k1 sp.toNatClampNeg dp.toNatClampNeg n.toNatClampNeg)
    (kk : V X M Q q L st σ') : V X M Q pc L (.int n :: .int dp :: .ref (ad (xY X) k1) :: .int sp :: .ref (ad (xY X) k0) :: st) σ := fun ok H locs ls h1 h2 h3 h4 => by
  subst e; subst es
  refine va_copyl (D := (xY X).1) (cl := vcl) (tys := tysY (xY X)) (ty := .long) ok.1 ok.2.1 (ok.2.2.1.trans h1.1.symm) ok.2.2.2.1 (ok.2.2.2.2.1 _ hlk) (ok.2.2.2.2.1 _ cpy_nat) (ok.2.2.2.2.1 _ cpy_stat) (ok.2.2.2.2.1 _ cpy_ini) ok.2.2.2.2.2.1 h2 h3 h4 k0 k1 3 3 (wl_at (Y := xY X) (σ := σ) hk0) (wl_at (Y := xY X) (σ := σ) hk1) rfl rfl rfl g1 g2 g3 g4 g5 (fun i _ => rfl) hfr hlo d (fun H1 locs1 g1 g2 g3 => ?_)
  have he : cel (xY X) (cL σ k0 k1 sp.toNatClampNeg dp.toNatClampNeg n.toNatClampNeg) k1 (3, n1, fs1) = (Sum.inl ((xY X).2.2 3, n1, Sum.inr (Sum.inl (va_cpy (σ.2 k0) (σ.2 k1) sp.toNatClampNeg dp.toNatClampNeg n.toNatClampNeg))) : va_E) := by
    have hu : (cL σ k0 k1 sp.toNatClampNeg dp.toNatClampNeg n.toNatClampNeg).2 k1 = va_cpy (σ.2 k0) (σ.2 k1) sp.toNatClampNeg dp.toNatClampNeg n.toNatClampNeg := by simp [cL]
    show Sum.inl ((xY X).2.2 3, n1, Sum.inr (Sum.inl ((cL σ k0 k1 sp.toNatClampNeg dp.toNatClampNeg n.toNatClampNeg).2 k1))) = _
    rw [hu]
  rw [wl_set hk1 (cL_off σ k0 k1 sp.toNatClampNeg dp.toNatClampNeg n.toNatClampNeg) he] at g1 g2
  exact kk ok H1 locs1 ls h1 g1 g2 g3
/-- a method's end -/
def Qz (Y : Yc) (rv : Option Value) (σ' : Sg) (A : Nat → Prop) : Array Value → State → Outcome → State → Prop := fun _ st oc t => oc = .returned rv ∧ va_P Y.1 vcl (wl Y σ') t.heap ∧ va_F A st t
def mq (X : Xc) (rv : Option Value) (σ' : Sg) : State → Prop := MQ (xb X) (Qz (xY X) rv σ' (xA X)) (xa X) (xs X) (xn X) (xz X) (xA X)
theorem V_iret {x : Int32} (hr : M.2.2.2.2 = some .int) (d : decode M.2.1 pc = .ok (.ireturn, 1)) : V X M (mq X (some (.int x)) σ) pc L [.int x] σ := fun ok H locs ls h1 h2 h3 h4 =>
  W.iret ok.1 ok.2.1 (ok.2.2.2.2.2.2.2.1.trans hr) (fun t ht hW => ⟨rfl, by rw [ht]; exact h2, h4.F ht⟩) h4.2.2 d ok.2.2.2.2.2.2.2.2.1
theorem V_zret {x : Int32} (hr : M.2.2.2.2 = some .boolean) (hx : narrow .boolean (.int x) = .int x) (d : decode M.2.1 pc = .ok (.ireturn, 1)) : V X M (mq X (some (.int x)) σ) pc L [.int x] σ := fun ok H locs ls h1 h2 h3 h4 =>
  W.zret ok.1 ok.2.1 (ok.2.2.2.2.2.2.2.1.trans hr) hx (fun t ht hW => ⟨rfl, by rw [ht]; exact h2, h4.F ht⟩) h4.2.2 d ok.2.2.2.2.2.2.2.2.1
theorem V_lret {x : Int64} (hr : M.2.2.2.2 = some .long) (d : decode M.2.1 pc = .ok (.lreturn, 1)) : V X M (mq X (some (.long x)) σ) pc L [.long x] σ := fun ok H locs ls h1 h2 h3 h4 =>
  W.lret ok.1 ok.2.1 (ok.2.2.2.2.2.2.2.1.trans hr) (fun t ht hW => ⟨rfl, by rw [ht]; exact h2, h4.F ht⟩) h4.2.2 d ok.2.2.2.2.2.2.2.2.1
theorem V_aret {v : Value} {C : String} (hr : M.2.2.2.2 = some (.object C)) (hv : v = .null ∨ ∃ a, v = .ref a) (d : decode M.2.1 pc = .ok (.areturn, 1)) : V X M (mq X (some v) σ) pc L [v] σ := fun ok H locs ls h1 h2 h3 h4 =>
  W.aret ok.1 ok.2.1 (ok.2.2.2.2.2.2.2.1.trans hr) (Or.inl ⟨C, rfl⟩) hv (fun t ht hW => ⟨rfl, by rw [ht]; exact h2, h4.F ht⟩) h4.2.2 d ok.2.2.2.2.2.2.2.2.1
theorem V_vret (hr : M.2.2.2.2 = none) (d : decode M.2.1 pc = .ok (.return_, 1)) : V X M (mq X none σ) pc L [] σ := fun ok H locs ls h1 h2 h3 h4 =>
  W.vret ok.1 ok.2.1 (ok.2.2.2.2.2.2.2.1.trans hr) (fun t ht hW => ⟨rfl, by rw [ht]; exact h2, h4.F ht⟩) h4.2.2 d ok.2.2.2.2.2.2.2.2.1
end VR
/-- a method's contract: from the world σ with these arguments it answers rv and leaves the world σ' -/
def Pz (Y : Yc) (σ : Sg) (av : List Value) (sz : Nat) : Array Value → State → Prop := va_Pc av (fun U => U.heap.size = sz ∧ va_P Y.1 vcl (wl Y σ) U.heap ∧ va_K Y.1 vcl (tysY Y) U ∧ va_D (fun _ => True) (wl Y σ))
def Ct (M : Mc) (y : MethodName) (Y : Yc) (av : List Value) (σ : Sg) (rv : Option Value) (σ' : Sg) : Prop :=
  ∀ (l : Launch) (sz : Nat), Met l y (Cond.code y M.2.1 M.2.2.1 M.2.2.2.2 :: gtb) M.2.2.2.1 (Pz Y σ av sz) (Qz Y rv σ' (va_A (wl Y σ) sz)) 0 0 (va_A (wl Y σ) sz)
def lvL : List Value → List (Option Value)
  | [] => []
  | v :: vs => if v.category = 2 then some v :: none :: lvL vs else some v :: lvL vs
theorem lvL_at : ∀ (vs : List Value) (o i : Nat) (v : Value), (lvL vs)[i]? = some (some v) → (o + i, v) ∈ lv_args o vs
  | [], o, i, v, h => by simp [lvL] at h
  | w :: vs, o, i, v, h => by
    unfold lvL at h
    unfold lv_args
    split at h
    · rename_i hc
      rw [if_pos hc]
      match i, h with
      | 0, h =>
        have : w = v := by simpa using h
        subst this
        exact List.mem_cons_self
      | 1, h => simp at h
      | i + 2, h =>
        refine List.mem_cons_of_mem _ ?_
        have := lvL_at vs (o + 2) i v (by simpa using h)
        rwa [show o + 2 + i = o + (i + 2) by omega] at this
    · rename_i hc
      rw [if_neg hc]
      match i, h with
      | 0, h =>
        have : w = v := by simpa using h
        subst this
        exact List.mem_cons_self
      | i + 1, h =>
        refine List.mem_cons_of_mem _ ?_
        have := lvL_at vs (o + 1) i v (by simpa using h)
        rwa [show o + 1 + i = o + (i + 1) by omega] at this
theorem Ct_intro {M : Mc} {y : MethodName} {Y : Yc} {av : List Value} {σ σ' : Sg} {rv : Option Value} (L0 : List (Option Value)) (hy : plainName y.cls = true) (hown : M.1 = y.cls) (hn : (lg_sl av).length ≤ M.2.2.1) (hL : lvL av ++ List.replicate (M.2.2.1 - (lvL av).length) none = L0)
    (h : ∀ X : Xc, xY X = Y → V X M (mq X rv σ') 0 L0 [] σ) (hroom : M.2.2.2.1.cells = 0 ∧ M.2.2.2.1.slots = 0) : Ct M y Y av σ rv σ' := by
  intro l sz
  refine Met.ofW (cc := M.2.1) (maxL := M.2.2.1) (ret := M.2.2.2.2) hy rfl ?_
  intro p e s m args below meth c s₁ B hml hv
  obtain ⟨rfl, hsz, hP, hK, hD0⟩ := hv
  have hts := atoms_spec (ws := Cond.code y M.2.1 M.2.2.1 M.2.2.2.2 :: gtb) B.pre
  have hfc : s.vm.findClass y.cls = some m.cls := findClass_of_methodNamed B.named
  subst hsz
  have hD := hD0.self (sz := s.heap.size)
  have key := h (p, l, e, s, m, av.toArray, below, meth, c, va_A (wl Y σ) s.heap.size, Y, 0, 0) rfl
    ⟨B.exec, B.bytes, hml, by rw [hown]; exact hfc, fun w hw => hts w (List.mem_cons_of_mem _ hw), hK, fun q h => Or.inr h, B.returns, B.notSynchronized, Nat.zero_le _, Nat.zero_le _⟩
  have hl := lv_entry av hn
  rw [lg_entry_eq]
  generalize (lg_sl av ++ List.replicate (M.2.2.1 - (lg_sl av).length) Slot.unset).toArray = ls at hl ⊢
  have hlok : lok ls M.2.2.1 L0 := by
    refine ⟨hl.1, hl.2.1, fun i v hi => ?_⟩
    subst hL
    rw [List.getElem?_append] at hi
    split at hi
    · have := lvL_at av 0 i v hi
      rw [Nat.zero_add] at this
      exact hl.2.2 _ this
    · rw [List.getElem?_replicate] at hi
      split at hi <;> cases hi
  exact key s.heap [] ls hlok hP hD va_S.rf
/-- all words of the tables are of the kind that stays -/
theorem tbl_good : gtb.all goodWord = true := List.all_eq_true.mpr (fun _ h => (List.mem_filter.mp h).2)
theorem good_all {w0 : Cond} (h : w0 ∈ gtb) : GoodIn gtb (w0 :: gtb) := by
  intro w hw
  have hm : w ∈ gtb := by
    rcases List.mem_cons.mp hw with rfl | h2
    · exact h
    · exact h2
  exact ⟨hm, good_of_word (List.all_eq_true.mp tbl_good w hm)⟩
/-- what the tables say of a method that is called -/
def Cee (M : Mc) (y : MethodName) (n : Nat) : Prop := Cond.code y M.2.1 M.2.2.1 M.2.2.2.2 ∈ gtb ∧ Cond.initialized y.cls ∈ gtb ∧ (y.cls ≠ "java/lang/invoke/MethodHandle" ∧ y.cls ≠ "java/lang/invoke/VarHandle" ∧ (parseMethodDescriptor y.desc).map (fun d => d.parameters.length) = some n) ∧ M.2.2.2.1.cells = 0 ∧ M.2.2.2.1.slots = 0
section VC
variable {X : Xc} {M : Mc} {Q : State → Prop} {pc q : Nat} {L : List (Option Value)} {st rest : List Value} {σ σ' : Sg} {rv : Option Value} {y : MethodName} {My : Mc} {index n : Nat} {As : List Value}
theorem V_back {av : List Value} {H : Heap} {locs : List Loc} {ls : Array Slot} {g : JFrame} (hg : g = F0 (xm X) pc ls st) (ok : Vok X M) (h1 : lok ls M.2.2.1 L) (h3 : va_D (xA X) (wl (xY X) σ)) (h4 : va_S (xA X) (xs X).heap H locs)
    (hr : va_Run (xp X) (xl X) (xe X) M.2.2.2.1 (xs X) (xm X) (xa X) (xb X) (xh X) (xc X) H locs (xn X) (xz X) 0 0 g rest (Qz (xY X) rv σ' (va_A (wl (xY X) σ) H.size) av.toArray) (va_A (wl (xY X) σ) H.size))
    (kk : V X M Q (pc + 3) L (rv.toList ++ rest) σ') : W (xp X) (xl X) (xe X) M.2.2.2.1 (xs X) (xm X) (xa X) (xb X) (xh X) (xc X) H locs (xn X) (xz X) Q g := by
  subst hg
  intro T hT Xs
  obtain ⟨v, st₀, t, T', Lc, h0, X', hL, e1, e2, ⟨hv, hp, hz, hk⟩, stp⟩ := hr T hT Xs
  cases hv
  rw [h0] at hz hk
  have hA : ∀ q, va_A (wl (xY X) σ) H.size q → xA X q := by
    intro q h
    rcases h with ⟨k, e, h⟩ | h
    · exact h3.2 k _ h
    · exact ok.2.2.2.2.2.2.1 q (Nat.le_trans h4.1 h)
  have h4' : va_S (xA X) (xs X).heap T'.heap (locs ++ Lc) := by
    refine ⟨Nat.le_trans h4.1 (by rw [e1]; exact hz), fun q a1 a2 => ?_, fun q hq => ?_⟩
    · rw [e1, hk q (Nat.lt_of_lt_of_le a1 h4.1) (fun z => a2 (hA q z))]
      exact h4.2.1 q a1 a2
    · rcases List.mem_append.mp hq with h | h
      · exact h4.2.2 q h
      · exact hA _ (hL q h)
  obtain ⟨t2, a1, b1⟩ := kk ok T'.heap (locs ++ Lc) ls h1 (by rw [e1]; exact hp) (wl_D h3) h4' T' rfl X'
  exact ⟨t2, stp t2 a1, b1⟩
theorem Pz_pre {av : List Value} {H : Heap} (ok : Vok X M) (h2 : va_P (xY X).1 vcl (wl (xY X) σ) H) (h3 : va_D (xA X) (wl (xY X) σ)) : PreS (xs X) H (Pz (xY X) σ av H.size) av := by
  refine ⟨fun a U g mk hq => ?_, fun U hU hW => ⟨rfl, by rw [hU], by rw [hU]; exact h2, va_K.moved hW.alike ok.2.2.2.2.2.1, h3.weaken (fun _ _ _ _ => trivial)⟩⟩
  obtain ⟨q0, q1, qP, qK, qD⟩ := hq
  exact ⟨q0, q1, qP, va_K.moved (u := U) (U := U.calling g mk a) (Vm.Alike.refl U.vm) qK, qD⟩
theorem V_cv {k ci nn N : Nat} {C : String} {T : u_T} {ty : Nat → FieldType} {fs : List (Nat × Nat)} (ct : Ct My y (xY X) (.ref (ad (xY X) k) :: As) σ rv σ') (ce : Cee My y n) (cz : Clz ci C T N ty) (hC : y.cls = C) (hin : Cond.instanceMethod y ∈ gtb) (hse : Cond.selects y.cls y y ∈ gtb) (hk : shp[k]? = some (ci + 5, nn, fs)) (lm : Cond.methodLink M.1 index y ∈ gtb) (hn : As.length = n)
    (hR : My.2.2.2.1.frames + 1 ≤ M.2.2.2.1.frames ∧ 8 + (My.2.2.1 + 11) + My.2.2.2.1.locals ≤ M.2.2.2.1.locals) (hst : st = As.reverse ++ .ref (ad (xY X) k) :: rest) (hrest : (rest.map fun v => v.category).sum ≤ 8) (d : decode M.2.1 pc = .ok (.invokevirtual index, 3)) (e : pc + 3 = q) (kk : V X M Q q L (rv.toList ++ rest) σ') : V X M Q pc L st σ := fun ok H locs ls h1 h2 h3 h4 => by
  subst e; subst hst; subst hC
  have hts := ok.2.2.2.2.1
  have cb : CallB M.2.2.2.1 (xs X) (xa X) M.1 index y My.2.1 My.2.2.1 My.2.2.2.2 (Cond.code y My.2.1 My.2.2.1 My.2.2.2.2 :: gtb) My.2.2.2.1 0 0 n := callB_of n hts (good_all ce.1) rfl ce.2.2.2.1 ce.2.2.2.2 (hts _ ce.2.1) (hts _ lm) ce.2.2.1 hR
  have pr := Pz_pre (av := .ref (ad (xY X) k) :: As) ok h2 h3
  have rc := va_recv ok.2.2.2.2.2.1 h2 cz.1 (wl_at (Y := xY X) (σ := σ) hk)
  refine V_back (L := L) (av := .ref (ad (xY X) k) :: As) (st := As.reverse ++ .ref (ad (xY X) k) :: rest) rfl ok h1 h3 h4 (va_runV (As := As) (rest := rest) (Ts := gtb) (C := y.cls) (b := ad (xY X) k) ⟨ok.1, ok.2.1, ok.2.2.1, ok.2.2.2.1, hts⟩ (ct (xl X) H.size) ⟨cb, hts _ hin, hts _ hse⟩ ⟨pr.1, rc, pr.2⟩ rfl hn h1.1 rfl (lv_room hrest) d ⟨ok.2.2.2.2.2.2.2.2.2.1, ok.2.2.2.2.2.2.2.2.2.2⟩) kk
theorem V_cs (ct : Ct My y (xY X) As σ rv σ') (ce : Cee My y n) (hsta : Cond.static y ∈ gtb) (lm : Cond.methodLink M.1 index y ∈ gtb) (hn : As.length = n)
    (hR : My.2.2.2.1.frames + 1 ≤ M.2.2.2.1.frames ∧ 8 + (My.2.2.1 + 11) + My.2.2.2.1.locals ≤ M.2.2.2.1.locals) (hst : st = As.reverse ++ rest) (hrest : (rest.map fun v => v.category).sum ≤ 8) (d : decode M.2.1 pc = .ok (.invokestatic index, 3)) (e : pc + 3 = q) (kk : V X M Q q L (rv.toList ++ rest) σ') : V X M Q pc L st σ := fun ok H locs ls h1 h2 h3 h4 => by
  subst e; subst hst
  have hts := ok.2.2.2.2.1
  have cb : CallB M.2.2.2.1 (xs X) (xa X) M.1 index y My.2.1 My.2.2.1 My.2.2.2.2 (Cond.code y My.2.1 My.2.2.1 My.2.2.2.2 :: gtb) My.2.2.2.1 0 0 n := callB_of n hts (good_all ce.1) rfl ce.2.2.2.1 ce.2.2.2.2 (hts _ ce.2.1) (hts _ lm) ce.2.2.1 hR
  have pr := Pz_pre (av := As) ok h2 h3
  refine V_back (L := L) (av := As) (st := As.reverse ++ rest) rfl ok h1 h3 h4 (va_runS (As := As) (rest := rest) (Ts := gtb) ⟨ok.1, ok.2.1, ok.2.2.1, ok.2.2.2.1, hts⟩ (ct (xl X) H.size) ⟨cb, hts _ hsta⟩ pr rfl hn h1.1 rfl (lv_room hrest) d ⟨ok.2.2.2.2.2.2.2.2.2.1, ok.2.2.2.2.2.2.2.2.2.2⟩) kk
end VC
end
