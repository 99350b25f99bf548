-- ===== PART A: goes FIRST, ahead of the names: the tables' words, and 'selects' of the private methods out of them =====
/-- a private method of a class that the tables say can be made, by its rows of tables_1 -/
def lw_okq (q : MethodName × Nat) : Prop := (q.1.cls ≠ "java/lang/invoke/MethodHandle" ∧ q.1.cls ≠ "java/lang/invoke/VarHandle") ∧ Cond.instantiable q.1.cls q.2 ∈ tables_1 ∧ Cond.privateMethod q.1 ∈ tables_1 ∧ Cond.instanceMethod q.1 ∈ tables_1
theorem lw_p0 : lw_okq (⟨"QuotedLetters", "forgetFindings", "()V"⟩, 10) := ⟨⟨by decide +kernel, by decide +kernel⟩, List.mem_of_getElem? (i := 19) (by decide +kernel), List.mem_of_getElem? (i := 323) (by decide +kernel), List.mem_of_getElem? (i := 324) (by decide +kernel)⟩
theorem lw_p1 : lw_okq (⟨"QuotedLetters$Kin", "findParent", "(I)I"⟩, 8) := ⟨⟨by decide +kernel, by decide +kernel⟩, List.mem_of_getElem? (i := 119) (by decide +kernel), List.mem_of_getElem? (i := 397) (by decide +kernel), List.mem_of_getElem? (i := 398) (by decide +kernel)⟩
theorem lw_p2 : lw_okq (⟨"QuotedLetters$Kin", "isFree", "(II)Z"⟩, 8) := ⟨⟨by decide +kernel, by decide +kernel⟩, List.mem_of_getElem? (i := 119) (by decide +kernel), List.mem_of_getElem? (i := 402) (by decide +kernel), List.mem_of_getElem? (i := 403) (by decide +kernel)⟩
theorem lw_p3 : lw_okq (⟨"QuotedLetters$Kin", "leadsTo", "(II)Z"⟩, 8) := ⟨⟨by decide +kernel, by decide +kernel⟩, List.mem_of_getElem? (i := 119) (by decide +kernel), List.mem_of_getElem? (i := 406) (by decide +kernel), List.mem_of_getElem? (i := 407) (by decide +kernel)⟩
theorem lw_p4 : lw_okq (⟨"QuotedLetters$Kin", "isAfter", "(II)Z"⟩, 8) := ⟨⟨by decide +kernel, by decide +kernel⟩, List.mem_of_getElem? (i := 119) (by decide +kernel), List.mem_of_getElem? (i := 410) (by decide +kernel), List.mem_of_getElem? (i := 411) (by decide +kernel)⟩
theorem lw_p5 : lw_okq (⟨"QuotedLetters$Fits", "mostPairs", "(II)I"⟩, 5) := ⟨⟨by decide +kernel, by decide +kernel⟩, List.mem_of_getElem? (i := 94) (by decide +kernel), List.mem_of_getElem? (i := 418) (by decide +kernel), List.mem_of_getElem? (i := 419) (by decide +kernel)⟩
theorem lw_p6 : lw_okq (⟨"QuotedLetters$Kin", "holdLines", "(I)V"⟩, 8) := ⟨⟨by decide +kernel, by decide +kernel⟩, List.mem_of_getElem? (i := 119) (by decide +kernel), List.mem_of_getElem? (i := 444) (by decide +kernel), List.mem_of_getElem? (i := 445) (by decide +kernel)⟩
theorem lw_p7 : lw_okq (⟨"QuotedLetters$Kin", "findHeld", "(II)I"⟩, 8) := ⟨⟨by decide +kernel, by decide +kernel⟩, List.mem_of_getElem? (i := 119) (by decide +kernel), List.mem_of_getElem? (i := 449) (by decide +kernel), List.mem_of_getElem? (i := 450) (by decide +kernel)⟩
theorem lw_p8 : lw_okq (⟨"QuotedLetters", "aboutKin", "(II)I"⟩, 10) := ⟨⟨by decide +kernel, by decide +kernel⟩, List.mem_of_getElem? (i := 19) (by decide +kernel), List.mem_of_getElem? (i := 454) (by decide +kernel), List.mem_of_getElem? (i := 455) (by decide +kernel)⟩
theorem lw_p9 : lw_okq (⟨"QuotedLetters", "countFindings", "(I)I"⟩, 10) := ⟨⟨by decide +kernel, by decide +kernel⟩, List.mem_of_getElem? (i := 19) (by decide +kernel), List.mem_of_getElem? (i := 509) (by decide +kernel), List.mem_of_getElem? (i := 510) (by decide +kernel)⟩
theorem lw_p10 : lw_okq (⟨"QuotedLetters$LostLetters", "hasPiece", "(I)Z"⟩, 10) := ⟨⟨by decide +kernel, by decide +kernel⟩, List.mem_of_getElem? (i := 153) (by decide +kernel), List.mem_of_getElem? (i := 538) (by decide +kernel), List.mem_of_getElem? (i := 539) (by decide +kernel)⟩
theorem lw_p11 : lw_okq (⟨"QuotedLetters$LostLetters", "isOfPiece", "(II)Z"⟩, 10) := ⟨⟨by decide +kernel, by decide +kernel⟩, List.mem_of_getElem? (i := 153) (by decide +kernel), List.mem_of_getElem? (i := 542) (by decide +kernel), List.mem_of_getElem? (i := 543) (by decide +kernel)⟩
theorem lw_p12 : lw_okq (⟨"QuotedLetters$LostLetters", "gather", "(II)I"⟩, 10) := ⟨⟨by decide +kernel, by decide +kernel⟩, List.mem_of_getElem? (i := 153) (by decide +kernel), List.mem_of_getElem? (i := 548) (by decide +kernel), List.mem_of_getElem? (i := 549) (by decide +kernel)⟩
theorem lw_p13 : lw_okq (⟨"QuotedLetters$LostLetters", "shareText", "(II)Z"⟩, 10) := ⟨⟨by decide +kernel, by decide +kernel⟩, List.mem_of_getElem? (i := 153) (by decide +kernel), List.mem_of_getElem? (i := 552) (by decide +kernel), List.mem_of_getElem? (i := 553) (by decide +kernel)⟩
theorem lw_p14 : lw_okq (⟨"QuotedLetters$LostLetters", "pieceHas", "(IJ)Z"⟩, 10) := ⟨⟨by decide +kernel, by decide +kernel⟩, List.mem_of_getElem? (i := 153) (by decide +kernel), List.mem_of_getElem? (i := 556) (by decide +kernel), List.mem_of_getElem? (i := 557) (by decide +kernel)⟩
theorem lw_p15 : lw_okq (⟨"QuotedLetters$Kin", "isQuarrel", "(I)Z"⟩, 8) := ⟨⟨by decide +kernel, by decide +kernel⟩, List.mem_of_getElem? (i := 119) (by decide +kernel), List.mem_of_getElem? (i := 564) (by decide +kernel), List.mem_of_getElem? (i := 565) (by decide +kernel)⟩
def lw_privs_1 : List (MethodName × Nat) := [(⟨"QuotedLetters", "forgetFindings", "()V"⟩, 10), (⟨"QuotedLetters$Kin", "findParent", "(I)I"⟩, 8), (⟨"QuotedLetters$Kin", "isFree", "(II)Z"⟩, 8), (⟨"QuotedLetters$Kin", "leadsTo", "(II)Z"⟩, 8), (⟨"QuotedLetters$Kin", "isAfter", "(II)Z"⟩, 8), (⟨"QuotedLetters$Fits", "mostPairs", "(II)I"⟩, 5), (⟨"QuotedLetters$Kin", "holdLines", "(I)V"⟩, 8), (⟨"QuotedLetters$Kin", "findHeld", "(II)I"⟩, 8), (⟨"QuotedLetters", "aboutKin", "(II)I"⟩, 10), (⟨"QuotedLetters", "countFindings", "(I)I"⟩, 10), (⟨"QuotedLetters$LostLetters", "hasPiece", "(I)Z"⟩, 10), (⟨"QuotedLetters$LostLetters", "isOfPiece", "(II)Z"⟩, 10), (⟨"QuotedLetters$LostLetters", "gather", "(II)I"⟩, 10), (⟨"QuotedLetters$LostLetters", "shareText", "(II)Z"⟩, 10), (⟨"QuotedLetters$LostLetters", "pieceHas", "(IJ)Z"⟩, 10), (⟨"QuotedLetters$Kin", "isQuarrel", "(I)Z"⟩, 8)]
theorem lw_r1 : ∀ q ∈ lw_privs_1, lw_okq q := List.forall_mem_cons.mpr ⟨lw_p0, List.forall_mem_cons.mpr ⟨lw_p1, List.forall_mem_cons.mpr ⟨lw_p2, List.forall_mem_cons.mpr ⟨lw_p3, List.forall_mem_cons.mpr ⟨lw_p4, List.forall_mem_cons.mpr ⟨lw_p5, List.forall_mem_cons.mpr ⟨lw_p6, List.forall_mem_cons.mpr ⟨lw_p7, List.forall_mem_cons.mpr ⟨lw_p8, List.forall_mem_cons.mpr ⟨lw_p9, List.forall_mem_cons.mpr ⟨lw_p10, List.forall_mem_cons.mpr ⟨lw_p11, List.forall_mem_cons.mpr ⟨lw_p12, List.forall_mem_cons.mpr ⟨lw_p13, List.forall_mem_cons.mpr ⟨lw_p14, List.forall_mem_cons.mpr ⟨lw_p15, fun _ h => absurd h List.not_mem_nil⟩⟩⟩⟩⟩⟩⟩⟩⟩⟩⟩⟩⟩⟩⟩⟩
theorem lw_p16 : lw_okq (⟨"QuotedLetters$LostLetters", "makeRow", "(I)V"⟩, 10) := ⟨⟨by decide +kernel, by decide +kernel⟩, List.mem_of_getElem? (i := 153) (by decide +kernel), List.mem_of_getElem? (i := 602) (by decide +kernel), List.mem_of_getElem? (i := 603) (by decide +kernel)⟩
theorem lw_p17 : lw_okq (⟨"QuotedLetters$LostLetters", "handOverPiece", "(I)V"⟩, 10) := ⟨⟨by decide +kernel, by decide +kernel⟩, List.mem_of_getElem? (i := 153) (by decide +kernel), List.mem_of_getElem? (i := 610) (by decide +kernel), List.mem_of_getElem? (i := 611) (by decide +kernel)⟩
theorem lw_p18 : lw_okq (⟨"QuotedLetters$RowFinder", "goOn", "(II)I"⟩, 7) := ⟨⟨by decide +kernel, by decide +kernel⟩, List.mem_of_getElem? (i := 159) (by decide +kernel), List.mem_of_getElem? (i := 626) (by decide +kernel), List.mem_of_getElem? (i := 627) (by decide +kernel)⟩
theorem lw_p19 : lw_okq (⟨"QuotedLetters$RowFinder", "leastHeadAbove", "(J)J"⟩, 7) := ⟨⟨by decide +kernel, by decide +kernel⟩, List.mem_of_getElem? (i := 159) (by decide +kernel), List.mem_of_getElem? (i := 634) (by decide +kernel), List.mem_of_getElem? (i := 635) (by decide +kernel)⟩
theorem lw_p20 : lw_okq (⟨"QuotedLetters$RowFinder", "stepBy", "(J)I"⟩, 7) := ⟨⟨by decide +kernel, by decide +kernel⟩, List.mem_of_getElem? (i := 159) (by decide +kernel), List.mem_of_getElem? (i := 638) (by decide +kernel), List.mem_of_getElem? (i := 639) (by decide +kernel)⟩
theorem lw_p21 : lw_okq (⟨"QuotedLetters$RowFinder", "writeRow", "(I)V"⟩, 7) := ⟨⟨by decide +kernel, by decide +kernel⟩, List.mem_of_getElem? (i := 159) (by decide +kernel), List.mem_of_getElem? (i := 643) (by decide +kernel), List.mem_of_getElem? (i := 644) (by decide +kernel)⟩
theorem lw_p22 : lw_okq (⟨"QuotedLetters$RowFinder", "textOfStep", "(II)J"⟩, 7) := ⟨⟨by decide +kernel, by decide +kernel⟩, List.mem_of_getElem? (i := 159) (by decide +kernel), List.mem_of_getElem? (i := 647) (by decide +kernel), List.mem_of_getElem? (i := 648) (by decide +kernel)⟩
theorem lw_p23 : lw_okq (⟨"QuotedLetters$RowFinder", "wipe", "()V"⟩, 7) := ⟨⟨by decide +kernel, by decide +kernel⟩, List.mem_of_getElem? (i := 159) (by decide +kernel), List.mem_of_getElem? (i := 651) (by decide +kernel), List.mem_of_getElem? (i := 652) (by decide +kernel)⟩
theorem lw_p24 : lw_okq (⟨"QuotedLetters$Kin", "nextToWrite", "(J)I"⟩, 8) := ⟨⟨by decide +kernel, by decide +kernel⟩, List.mem_of_getElem? (i := 119) (by decide +kernel), List.mem_of_getElem? (i := 671) (by decide +kernel), List.mem_of_getElem? (i := 672) (by decide +kernel)⟩
theorem lw_p25 : lw_okq (⟨"QuotedLetters$Pattern", "standsAt", "(JI)Z"⟩, 2) := ⟨⟨by decide +kernel, by decide +kernel⟩, List.mem_of_getElem? (i := 225) (by decide +kernel), List.mem_of_getElem? (i := 721) (by decide +kernel), List.mem_of_getElem? (i := 722) (by decide +kernel)⟩
theorem lw_p26 : lw_okq (⟨"QuotedLetters$RuleText", "skipBlanks", "()V"⟩, 7) := ⟨⟨by decide +kernel, by decide +kernel⟩, List.mem_of_getElem? (i := 239) (by decide +kernel), List.mem_of_getElem? (i := 752) (by decide +kernel), List.mem_of_getElem? (i := 753) (by decide +kernel)⟩
theorem lw_p27 : lw_okq (⟨"QuotedLetters$RuleText", "readClause", "()Z"⟩, 7) := ⟨⟨by decide +kernel, by decide +kernel⟩, List.mem_of_getElem? (i := 239) (by decide +kernel), List.mem_of_getElem? (i := 756) (by decide +kernel), List.mem_of_getElem? (i := 757) (by decide +kernel)⟩
theorem lw_p28 : lw_okq (⟨"QuotedLetters$RuleText", "endOfWord", "()I"⟩, 7) := ⟨⟨by decide +kernel, by decide +kernel⟩, List.mem_of_getElem? (i := 239) (by decide +kernel), List.mem_of_getElem? (i := 760) (by decide +kernel), List.mem_of_getElem? (i := 761) (by decide +kernel)⟩
theorem lw_p29 : lw_okq (⟨"QuotedLetters$RuleText", "kindOf", "(II)I"⟩, 7) := ⟨⟨by decide +kernel, by decide +kernel⟩, List.mem_of_getElem? (i := 239) (by decide +kernel), List.mem_of_getElem? (i := 764) (by decide +kernel), List.mem_of_getElem? (i := 765) (by decide +kernel)⟩
theorem lw_p30 : lw_okq (⟨"QuotedLetters$RuleText", "isWord", "(IILjava/lang/String;)Z"⟩, 7) := ⟨⟨by decide +kernel, by decide +kernel⟩, List.mem_of_getElem? (i := 239) (by decide +kernel), List.mem_of_getElem? (i := 776) (by decide +kernel), List.mem_of_getElem? (i := 777) (by decide +kernel)⟩
theorem lw_p31 : lw_okq (⟨"QuotedLetters$RuleText", "blame", "(II)Z"⟩, 7) := ⟨⟨by decide +kernel, by decide +kernel⟩, List.mem_of_getElem? (i := 239) (by decide +kernel), List.mem_of_getElem? (i := 828) (by decide +kernel), List.mem_of_getElem? (i := 829) (by decide +kernel)⟩
def lw_privs_2 : List (MethodName × Nat) := [(⟨"QuotedLetters$LostLetters", "makeRow", "(I)V"⟩, 10), (⟨"QuotedLetters$LostLetters", "handOverPiece", "(I)V"⟩, 10), (⟨"QuotedLetters$RowFinder", "goOn", "(II)I"⟩, 7), (⟨"QuotedLetters$RowFinder", "leastHeadAbove", "(J)J"⟩, 7), (⟨"QuotedLetters$RowFinder", "stepBy", "(J)I"⟩, 7), (⟨"QuotedLetters$RowFinder", "writeRow", "(I)V"⟩, 7), (⟨"QuotedLetters$RowFinder", "textOfStep", "(II)J"⟩, 7), (⟨"QuotedLetters$RowFinder", "wipe", "()V"⟩, 7), (⟨"QuotedLetters$Kin", "nextToWrite", "(J)I"⟩, 8), (⟨"QuotedLetters$Pattern", "standsAt", "(JI)Z"⟩, 2), (⟨"QuotedLetters$RuleText", "skipBlanks", "()V"⟩, 7), (⟨"QuotedLetters$RuleText", "readClause", "()Z"⟩, 7), (⟨"QuotedLetters$RuleText", "endOfWord", "()I"⟩, 7), (⟨"QuotedLetters$RuleText", "kindOf", "(II)I"⟩, 7), (⟨"QuotedLetters$RuleText", "isWord", "(IILjava/lang/String;)Z"⟩, 7), (⟨"QuotedLetters$RuleText", "blame", "(II)Z"⟩, 7)]
theorem lw_r2 : ∀ q ∈ lw_privs_2, lw_okq q := List.forall_mem_cons.mpr ⟨lw_p16, List.forall_mem_cons.mpr ⟨lw_p17, List.forall_mem_cons.mpr ⟨lw_p18, List.forall_mem_cons.mpr ⟨lw_p19, List.forall_mem_cons.mpr ⟨lw_p20, List.forall_mem_cons.mpr ⟨lw_p21, List.forall_mem_cons.mpr ⟨lw_p22, List.forall_mem_cons.mpr ⟨lw_p23, List.forall_mem_cons.mpr ⟨lw_p24, List.forall_mem_cons.mpr ⟨lw_p25, List.forall_mem_cons.mpr ⟨lw_p26, List.forall_mem_cons.mpr ⟨lw_p27, List.forall_mem_cons.mpr ⟨lw_p28, List.forall_mem_cons.mpr ⟨lw_p29, List.forall_mem_cons.mpr ⟨lw_p30, List.forall_mem_cons.mpr ⟨lw_p31, fun _ h => absurd h List.not_mem_nil⟩⟩⟩⟩⟩⟩⟩⟩⟩⟩⟩⟩⟩⟩⟩⟩
theorem lw_p32 : lw_okq (⟨"QuotedLetters$RuleText", "readYes", "()Z"⟩, 7) := ⟨⟨by decide +kernel, by decide +kernel⟩, List.mem_of_getElem? (i := 239) (by decide +kernel), List.mem_of_getElem? (i := 832) (by decide +kernel), List.mem_of_getElem? (i := 833) (by decide +kernel)⟩
theorem lw_p33 : lw_okq (⟨"QuotedLetters$RuleText", "readNumber", "(I)Z"⟩, 7) := ⟨⟨by decide +kernel, by decide +kernel⟩, List.mem_of_getElem? (i := 239) (by decide +kernel), List.mem_of_getElem? (i := 838) (by decide +kernel), List.mem_of_getElem? (i := 839) (by decide +kernel)⟩
theorem lw_p34 : lw_okq (⟨"QuotedLetters$RuleText", "readSemicolon", "()Z"⟩, 7) := ⟨⟨by decide +kernel, by decide +kernel⟩, List.mem_of_getElem? (i := 239) (by decide +kernel), List.mem_of_getElem? (i := 847) (by decide +kernel), List.mem_of_getElem? (i := 848) (by decide +kernel)⟩
theorem lw_p35 : lw_okq (⟨"QuotedLettersModel", "noLetter", "(I)Z"⟩, 36) := ⟨⟨by decide +kernel, by decide +kernel⟩, List.mem_of_getElem? (i := 864) (by decide +kernel), List.mem_of_getElem? (i := 996) (by decide +kernel), List.mem_of_getElem? (i := 997) (by decide +kernel)⟩
theorem lw_p36 : lw_okq (⟨"QuotedLettersModel", "noLine", "(II)Z"⟩, 36) := ⟨⟨by decide +kernel, by decide +kernel⟩, List.mem_of_getElem? (i := 864) (by decide +kernel), List.mem_of_getElem? (i := 1032) (by decide +kernel), List.mem_of_getElem? (i := 1033) (by decide +kernel)⟩
theorem lw_p37 : lw_okq (⟨"QuotedLettersModel", "differBy", "(II)I"⟩, 36) := ⟨⟨by decide +kernel, by decide +kernel⟩, List.mem_of_getElem? (i := 864) (by decide +kernel), List.mem_of_getElem? (i := 1036) (by decide +kernel), List.mem_of_getElem? (i := 1037) (by decide +kernel)⟩
theorem lw_p38 : lw_okq (⟨"QuotedLettersModel", "isSeen", "(I)Z"⟩, 36) := ⟨⟨by decide +kernel, by decide +kernel⟩, List.mem_of_getElem? (i := 864) (by decide +kernel), List.mem_of_getElem? (i := 1044) (by decide +kernel), List.mem_of_getElem? (i := 1045) (by decide +kernel)⟩
theorem lw_p39 : lw_okq (⟨"QuotedLettersModel", "fitOf", "(II)I"⟩, 36) := ⟨⟨by decide +kernel, by decide +kernel⟩, List.mem_of_getElem? (i := 864) (by decide +kernel), List.mem_of_getElem? (i := 1048) (by decide +kernel), List.mem_of_getElem? (i := 1049) (by decide +kernel)⟩
theorem lw_p40 : lw_okq (⟨"QuotedLettersModel", "isLike", "(II)Z"⟩, 36) := ⟨⟨by decide +kernel, by decide +kernel⟩, List.mem_of_getElem? (i := 864) (by decide +kernel), List.mem_of_getElem? (i := 1052) (by decide +kernel), List.mem_of_getElem? (i := 1053) (by decide +kernel)⟩
theorem lw_p41 : lw_okq (⟨"QuotedLettersModel", "quoted", "(I)I"⟩, 36) := ⟨⟨by decide +kernel, by decide +kernel⟩, List.mem_of_getElem? (i := 864) (by decide +kernel), List.mem_of_getElem? (i := 1061) (by decide +kernel), List.mem_of_getElem? (i := 1062) (by decide +kernel)⟩
theorem lw_p42 : lw_okq (⟨"QuotedLettersModel", "findParents", "()V"⟩, 36) := ⟨⟨by decide +kernel, by decide +kernel⟩, List.mem_of_getElem? (i := 864) (by decide +kernel), List.mem_of_getElem? (i := 1065) (by decide +kernel), List.mem_of_getElem? (i := 1066) (by decide +kernel)⟩
theorem lw_p43 : lw_okq (⟨"QuotedLettersModel", "comesTo", "(II)Z"⟩, 36) := ⟨⟨by decide +kernel, by decide +kernel⟩, List.mem_of_getElem? (i := 864) (by decide +kernel), List.mem_of_getElem? (i := 1069) (by decide +kernel), List.mem_of_getElem? (i := 1070) (by decide +kernel)⟩
theorem lw_p44 : lw_okq (⟨"QuotedLettersModel", "fitting", "(I)I"⟩, 36) := ⟨⟨by decide +kernel, by decide +kernel⟩, List.mem_of_getElem? (i := 864) (by decide +kernel), List.mem_of_getElem? (i := 1073) (by decide +kernel), List.mem_of_getElem? (i := 1074) (by decide +kernel)⟩
theorem lw_p45 : lw_okq (⟨"QuotedLettersModel", "rootOf", "(I)I"⟩, 36) := ⟨⟨by decide +kernel, by decide +kernel⟩, List.mem_of_getElem? (i := 864) (by decide +kernel), List.mem_of_getElem? (i := 1077) (by decide +kernel), List.mem_of_getElem? (i := 1078) (by decide +kernel)⟩
theorem lw_p46 : lw_okq (⟨"QuotedLettersModel", "stepsOf", "(I)I"⟩, 36) := ⟨⟨by decide +kernel, by decide +kernel⟩, List.mem_of_getElem? (i := 864) (by decide +kernel), List.mem_of_getElem? (i := 1081) (by decide +kernel), List.mem_of_getElem? (i := 1082) (by decide +kernel)⟩
theorem lw_p47 : lw_okq (⟨"QuotedLettersModel", "originOf", "(I)I"⟩, 36) := ⟨⟨by decide +kernel, by decide +kernel⟩, List.mem_of_getElem? (i := 864) (by decide +kernel), List.mem_of_getElem? (i := 1094) (by decide +kernel), List.mem_of_getElem? (i := 1095) (by decide +kernel)⟩
def lw_privs_3 : List (MethodName × Nat) := [(⟨"QuotedLetters$RuleText", "readYes", "()Z"⟩, 7), (⟨"QuotedLetters$RuleText", "readNumber", "(I)Z"⟩, 7), (⟨"QuotedLetters$RuleText", "readSemicolon", "()Z"⟩, 7), (⟨"QuotedLettersModel", "noLetter", "(I)Z"⟩, 36), (⟨"QuotedLettersModel", "noLine", "(II)Z"⟩, 36), (⟨"QuotedLettersModel", "differBy", "(II)I"⟩, 36), (⟨"QuotedLettersModel", "isSeen", "(I)Z"⟩, 36), (⟨"QuotedLettersModel", "fitOf", "(II)I"⟩, 36), (⟨"QuotedLettersModel", "isLike", "(II)Z"⟩, 36), (⟨"QuotedLettersModel", "quoted", "(I)I"⟩, 36), (⟨"QuotedLettersModel", "findParents", "()V"⟩, 36), (⟨"QuotedLettersModel", "comesTo", "(II)Z"⟩, 36), (⟨"QuotedLettersModel", "fitting", "(I)I"⟩, 36), (⟨"QuotedLettersModel", "rootOf", "(I)I"⟩, 36), (⟨"QuotedLettersModel", "stepsOf", "(I)I"⟩, 36), (⟨"QuotedLettersModel", "originOf", "(I)I"⟩, 36)]
theorem lw_r3 : ∀ q ∈ lw_privs_3, lw_okq q := List.forall_mem_cons.mpr ⟨lw_p32, List.forall_mem_cons.mpr ⟨lw_p33, List.forall_mem_cons.mpr ⟨lw_p34, List.forall_mem_cons.mpr ⟨lw_p35, List.forall_mem_cons.mpr ⟨lw_p36, List.forall_mem_cons.mpr ⟨lw_p37, List.forall_mem_cons.mpr ⟨lw_p38, List.forall_mem_cons.mpr ⟨lw_p39, List.forall_mem_cons.mpr ⟨lw_p40, List.forall_mem_cons.mpr ⟨lw_p41, List.forall_mem_cons.mpr ⟨lw_p42, List.forall_mem_cons.mpr ⟨lw_p43, List.forall_mem_cons.mpr ⟨lw_p44, List.forall_mem_cons.mpr ⟨lw_p45, List.forall_mem_cons.mpr ⟨lw_p46, List.forall_mem_cons.mpr ⟨lw_p47, fun _ h => absurd h List.not_mem_nil⟩⟩⟩⟩⟩⟩⟩⟩⟩⟩⟩⟩⟩⟩⟩⟩
theorem lw_p48 : lw_okq (⟨"QuotedLettersModel", "heldTo", "(I)I"⟩, 36) := ⟨⟨by decide +kernel, by decide +kernel⟩, List.mem_of_getElem? (i := 864) (by decide +kernel), List.mem_of_getElem? (i := 1098) (by decide +kernel), List.mem_of_getElem? (i := 1099) (by decide +kernel)⟩
theorem lw_p49 : lw_okq (⟨"QuotedLettersModel", "isSame", "(II)Z"⟩, 36) := ⟨⟨by decide +kernel, by decide +kernel⟩, List.mem_of_getElem? (i := 864) (by decide +kernel), List.mem_of_getElem? (i := 1102) (by decide +kernel), List.mem_of_getElem? (i := 1103) (by decide +kernel)⟩
theorem lw_p50 : lw_okq (⟨"QuotedLettersModel", "isAltered", "(I)Z"⟩, 36) := ⟨⟨by decide +kernel, by decide +kernel⟩, List.mem_of_getElem? (i := 864) (by decide +kernel), List.mem_of_getElem? (i := 1110) (by decide +kernel), List.mem_of_getElem? (i := 1111) (by decide +kernel)⟩
theorem lw_p51 : lw_okq (⟨"QuotedLettersModel", "findGroups", "()V"⟩, 36) := ⟨⟨by decide +kernel, by decide +kernel⟩, List.mem_of_getElem? (i := 864) (by decide +kernel), List.mem_of_getElem? (i := 1122) (by decide +kernel), List.mem_of_getElem? (i := 1123) (by decide +kernel)⟩
theorem lw_p52 : lw_okq (⟨"QuotedLettersModel", "hasPiece", "(I)Z"⟩, 36) := ⟨⟨by decide +kernel, by decide +kernel⟩, List.mem_of_getElem? (i := 864) (by decide +kernel), List.mem_of_getElem? (i := 1126) (by decide +kernel), List.mem_of_getElem? (i := 1127) (by decide +kernel)⟩
theorem lw_p53 : lw_okq (⟨"QuotedLettersModel", "isPiece", "(I)Z"⟩, 36) := ⟨⟨by decide +kernel, by decide +kernel⟩, List.mem_of_getElem? (i := 864) (by decide +kernel), List.mem_of_getElem? (i := 1130) (by decide +kernel), List.mem_of_getElem? (i := 1131) (by decide +kernel)⟩
theorem lw_p54 : lw_okq (⟨"QuotedLettersModel", "haveCommon", "(II)Z"⟩, 36) := ⟨⟨by decide +kernel, by decide +kernel⟩, List.mem_of_getElem? (i := 864) (by decide +kernel), List.mem_of_getElem? (i := 1134) (by decide +kernel), List.mem_of_getElem? (i := 1135) (by decide +kernel)⟩
theorem lw_p55 : lw_okq (⟨"QuotedLettersModel", "findPieces", "(I)V"⟩, 36) := ⟨⟨by decide +kernel, by decide +kernel⟩, List.mem_of_getElem? (i := 864) (by decide +kernel), List.mem_of_getElem? (i := 1142) (by decide +kernel), List.mem_of_getElem? (i := 1143) (by decide +kernel)⟩
theorem lw_p56 : lw_okq (⟨"QuotedLettersModel", "findRow", "()V"⟩, 36) := ⟨⟨by decide +kernel, by decide +kernel⟩, List.mem_of_getElem? (i := 864) (by decide +kernel), List.mem_of_getElem? (i := 1146) (by decide +kernel), List.mem_of_getElem? (i := 1147) (by decide +kernel)⟩
theorem lw_p57 : lw_okq (⟨"QuotedLettersModel", "isWithin", "(I)Z"⟩, 36) := ⟨⟨by decide +kernel, by decide +kernel⟩, List.mem_of_getElem? (i := 864) (by decide +kernel), List.mem_of_getElem? (i := 1150) (by decide +kernel), List.mem_of_getElem? (i := 1151) (by decide +kernel)⟩
theorem lw_p58 : lw_okq (⟨"QuotedLettersModel", "textAt", "(II)I"⟩, 36) := ⟨⟨by decide +kernel, by decide +kernel⟩, List.mem_of_getElem? (i := 864) (by decide +kernel), List.mem_of_getElem? (i := 1154) (by decide +kernel), List.mem_of_getElem? (i := 1155) (by decide +kernel)⟩
theorem lw_p59 : lw_okq (⟨"QuotedLettersModel", "behind", "(II)I"⟩, 36) := ⟨⟨by decide +kernel, by decide +kernel⟩, List.mem_of_getElem? (i := 864) (by decide +kernel), List.mem_of_getElem? (i := 1158) (by decide +kernel), List.mem_of_getElem? (i := 1159) (by decide +kernel)⟩
theorem lw_p60 : lw_okq (⟨"QuotedLettersModel", "isLess", "(II)Z"⟩, 36) := ⟨⟨by decide +kernel, by decide +kernel⟩, List.mem_of_getElem? (i := 864) (by decide +kernel), List.mem_of_getElem? (i := 1165) (by decide +kernel), List.mem_of_getElem? (i := 1166) (by decide +kernel)⟩
theorem lw_p61 : lw_okq (⟨"QuotedLettersModel", "quarrels", "(I)Z"⟩, 36) := ⟨⟨by decide +kernel, by decide +kernel⟩, List.mem_of_getElem? (i := 864) (by decide +kernel), List.mem_of_getElem? (i := 1181) (by decide +kernel), List.mem_of_getElem? (i := 1182) (by decide +kernel)⟩
theorem lw_p62 : lw_okq (⟨"QuotedLettersModel", "hasSigns", "(I)Z"⟩, 36) := ⟨⟨by decide +kernel, by decide +kernel⟩, List.mem_of_getElem? (i := 864) (by decide +kernel), List.mem_of_getElem? (i := 1201) (by decide +kernel), List.mem_of_getElem? (i := 1202) (by decide +kernel)⟩
theorem lw_p63 : lw_okq (⟨"QuotedLettersModel", "look", "()I"⟩, 36) := ⟨⟨by decide +kernel, by decide +kernel⟩, List.mem_of_getElem? (i := 864) (by decide +kernel), List.mem_of_getElem? (i := 1224) (by decide +kernel), List.mem_of_getElem? (i := 1225) (by decide +kernel)⟩
def lw_privs_4 : List (MethodName × Nat) := [(⟨"QuotedLettersModel", "heldTo", "(I)I"⟩, 36), (⟨"QuotedLettersModel", "isSame", "(II)Z"⟩, 36), (⟨"QuotedLettersModel", "isAltered", "(I)Z"⟩, 36), (⟨"QuotedLettersModel", "findGroups", "()V"⟩, 36), (⟨"QuotedLettersModel", "hasPiece", "(I)Z"⟩, 36), (⟨"QuotedLettersModel", "isPiece", "(I)Z"⟩, 36), (⟨"QuotedLettersModel", "haveCommon", "(II)Z"⟩, 36), (⟨"QuotedLettersModel", "findPieces", "(I)V"⟩, 36), (⟨"QuotedLettersModel", "findRow", "()V"⟩, 36), (⟨"QuotedLettersModel", "isWithin", "(I)Z"⟩, 36), (⟨"QuotedLettersModel", "textAt", "(II)I"⟩, 36), (⟨"QuotedLettersModel", "behind", "(II)I"⟩, 36), (⟨"QuotedLettersModel", "isLess", "(II)Z"⟩, 36), (⟨"QuotedLettersModel", "quarrels", "(I)Z"⟩, 36), (⟨"QuotedLettersModel", "hasSigns", "(I)Z"⟩, 36), (⟨"QuotedLettersModel", "look", "()I"⟩, 36)]
theorem lw_r4 : ∀ q ∈ lw_privs_4, lw_okq q := List.forall_mem_cons.mpr ⟨lw_p48, List.forall_mem_cons.mpr ⟨lw_p49, List.forall_mem_cons.mpr ⟨lw_p50, List.forall_mem_cons.mpr ⟨lw_p51, List.forall_mem_cons.mpr ⟨lw_p52, List.forall_mem_cons.mpr ⟨lw_p53, List.forall_mem_cons.mpr ⟨lw_p54, List.forall_mem_cons.mpr ⟨lw_p55, List.forall_mem_cons.mpr ⟨lw_p56, List.forall_mem_cons.mpr ⟨lw_p57, List.forall_mem_cons.mpr ⟨lw_p58, List.forall_mem_cons.mpr ⟨lw_p59, List.forall_mem_cons.mpr ⟨lw_p60, List.forall_mem_cons.mpr ⟨lw_p61, List.forall_mem_cons.mpr ⟨lw_p62, List.forall_mem_cons.mpr ⟨lw_p63, fun _ h => absurd h List.not_mem_nil⟩⟩⟩⟩⟩⟩⟩⟩⟩⟩⟩⟩⟩⟩⟩⟩
theorem lw_p64 : lw_okq (⟨"QuotedLettersModel", "takeWord", "()V"⟩, 36) := ⟨⟨by decide +kernel, by decide +kernel⟩, List.mem_of_getElem? (i := 864) (by decide +kernel), List.mem_of_getElem? (i := 1228) (by decide +kernel), List.mem_of_getElem? (i := 1229) (by decide +kernel)⟩
theorem lw_p65 : lw_okq (⟨"QuotedLettersModel", "kindOf", "()I"⟩, 36) := ⟨⟨by decide +kernel, by decide +kernel⟩, List.mem_of_getElem? (i := 864) (by decide +kernel), List.mem_of_getElem? (i := 1234) (by decide +kernel), List.mem_of_getElem? (i := 1235) (by decide +kernel)⟩
theorem lw_p66 : lw_okq (⟨"QuotedLettersModel", "isWord", "(IIIIII)Z"⟩, 36) := ⟨⟨by decide +kernel, by decide +kernel⟩, List.mem_of_getElem? (i := 864) (by decide +kernel), List.mem_of_getElem? (i := 1238) (by decide +kernel), List.mem_of_getElem? (i := 1239) (by decide +kernel)⟩
theorem lw_p67 : lw_okq (⟨"QuotedLettersModel", "want", "(ZII)Z"⟩, 36) := ⟨⟨by decide +kernel, by decide +kernel⟩, List.mem_of_getElem? (i := 864) (by decide +kernel), List.mem_of_getElem? (i := 1242) (by decide +kernel), List.mem_of_getElem? (i := 1243) (by decide +kernel)⟩
theorem lw_p68 : lw_okq (⟨"QuotedLettersModel", "readClause", "(I)V"⟩, 36) := ⟨⟨by decide +kernel, by decide +kernel⟩, List.mem_of_getElem? (i := 864) (by decide +kernel), List.mem_of_getElem? (i := 1246) (by decide +kernel), List.mem_of_getElem? (i := 1247) (by decide +kernel)⟩
theorem lw_p69 : lw_okq (⟨"QuotedLettersModel", "takeNumber", "(I)I"⟩, 36) := ⟨⟨by decide +kernel, by decide +kernel⟩, List.mem_of_getElem? (i := 864) (by decide +kernel), List.mem_of_getElem? (i := 1250) (by decide +kernel), List.mem_of_getElem? (i := 1251) (by decide +kernel)⟩
def lw_privs_5 : List (MethodName × Nat) := [(⟨"QuotedLettersModel", "takeWord", "()V"⟩, 36), (⟨"QuotedLettersModel", "kindOf", "()I"⟩, 36), (⟨"QuotedLettersModel", "isWord", "(IIIIII)Z"⟩, 36), (⟨"QuotedLettersModel", "want", "(ZII)Z"⟩, 36), (⟨"QuotedLettersModel", "readClause", "(I)V"⟩, 36), (⟨"QuotedLettersModel", "takeNumber", "(I)I"⟩, 36)]
theorem lw_r5 : ∀ q ∈ lw_privs_5, lw_okq q := List.forall_mem_cons.mpr ⟨lw_p64, List.forall_mem_cons.mpr ⟨lw_p65, List.forall_mem_cons.mpr ⟨lw_p66, List.forall_mem_cons.mpr ⟨lw_p67, List.forall_mem_cons.mpr ⟨lw_p68, List.forall_mem_cons.mpr ⟨lw_p69, fun _ h => absurd h List.not_mem_nil⟩⟩⟩⟩⟩⟩
def lw_privs : List (MethodName × Nat) := lw_privs_1 ++ (lw_privs_2 ++ (lw_privs_3 ++ (lw_privs_4 ++ (lw_privs_5))))
def lw_tbl : List Cond := k2_sels lw_privs ++ tables_1
theorem lw_privs_ok : ∀ q ∈ lw_privs, lw_okq q := by
  show ∀ q ∈ lw_privs_1 ++ (lw_privs_2 ++ (lw_privs_3 ++ (lw_privs_4 ++ (lw_privs_5)))), lw_okq q
  exact List.forall_mem_append.mpr ⟨lw_r1, List.forall_mem_append.mpr ⟨lw_r2, List.forall_mem_append.mpr ⟨lw_r3, List.forall_mem_append.mpr ⟨lw_r4, lw_r5⟩⟩⟩⟩
def RX0 : String := "QuotedLetters$Fits"
def TX0 : u_T := fun k => match k with
  | 0 => ("QuotedLetters$Fits", "heap", "LQuotedLetters$Heap;", true)
  | 1 => ("QuotedLetters$Fits", "rules", "[I", true)
  | 2 => ("QuotedLetters$Fits", "measured", "[I", true)
  | 3 => ("QuotedLetters$Fits", "pairs", "[I", true)
  | _ => ("QuotedLetters$Fits", "changes", "[I", true)
def tyX0 : Nat → FieldType := fun k => match k with
  | 0 => .object "QuotedLetters$Heap"
  | 1 => .array .int
  | 2 => .array .int
  | 3 => .array .int
  | _ => .array .int
theorem nmX0 : ∀ a, a < 5 → ∀ b, b < 5 → a ≠ b → (TX0 a).2.1 ≠ (TX0 b).2.1 := by decide +kernel
theorem tyX0_ok : ∀ k, k < 5 → parseFieldDescriptor (TX0 k).2.2.1 = some (tyX0 k) := by decide +kernel
abbrev cX0_init : ByteArray := prog_2_method_1_code
def yX0_init : MethodName := ⟨RX0, "<init>", "(LQuotedLetters$Heap;[I)V"⟩
abbrev cX0_forgetAll : ByteArray := prog_2_method_2_code
def yX0_forgetAll : MethodName := ⟨RX0, "forgetAll", "()V"⟩
abbrev cX0_forgetLetter : ByteArray := prog_2_method_3_code
def yX0_forgetLetter : MethodName := ⟨RX0, "forgetLetter", "(I)V"⟩
abbrev cX0_of : ByteArray := prog_2_method_4_code
def yX0_of : MethodName := ⟨RX0, "of", "(II)I"⟩
abbrev cX0_mostPairs : ByteArray := prog_2_method_5_code
def yX0_mostPairs : MethodName := ⟨RX0, "mostPairs", "(II)I"⟩
abbrev cX0_isLike : ByteArray := prog_2_method_6_code
def yX0_isLike : MethodName := ⟨RX0, "isLike", "(II)Z"⟩
abbrev cX0_distance : ByteArray := prog_2_method_7_code
def yX0_distance : MethodName := ⟨RX0, "distance", "(JJ)I"⟩
def RX1 : String := "QuotedLetters$Heap"
def TX1 : u_T := fun k => match k with
  | 0 => ("QuotedLetters$Heap", "writer", "[I", true)
  | 1 => ("QuotedLetters$Heap", "day", "[I", true)
  | 2 => ("QuotedLetters$Heap", "names", "[I", true)
  | 3 => ("QuotedLetters$Heap", "lines", "[I", true)
  | 4 => ("QuotedLetters$Heap", "quoted", "[I", true)
  | 5 => ("QuotedLetters$Heap", "depth", "[I", true)
  | 6 => ("QuotedLetters$Heap", "text", "[J", true)
  | 7 => ("QuotedLetters$Heap", "letters", "I", false)
  | 8 => ("QuotedLetters$Heap", "limit", "I", false)
  | _ => ("QuotedLetters$Heap", "taken", "J", false)
def tyX1 : Nat → FieldType := fun k => match k with
  | 0 => .array .int
  | 1 => .array .int
  | 2 => .array .int
  | 3 => .array .int
  | 4 => .array .int
  | 5 => .array .int
  | 6 => .array .long
  | 7 => .int
  | 8 => .int
  | _ => .long
theorem nmX1 : ∀ a, a < 10 → ∀ b, b < 10 → a ≠ b → (TX1 a).2.1 ≠ (TX1 b).2.1 := by decide +kernel
theorem tyX1_ok : ∀ k, k < 10 → parseFieldDescriptor (TX1 k).2.2.1 = some (tyX1 k) := by decide +kernel
abbrev cX1_init : ByteArray := prog_3_method_1_code
def yX1_init : MethodName := ⟨RX1, "<init>", "()V"⟩
abbrev cX1_has : ByteArray := prog_3_method_2_code
def yX1_has : MethodName := ⟨RX1, "has", "(I)Z"⟩
abbrev cX1_hasLine : ByteArray := prog_3_method_3_code
def yX1_hasLine : MethodName := ⟨RX1, "hasLine", "(II)Z"⟩
abbrev cX1_isTaken : ByteArray := prog_3_method_4_code
def yX1_isTaken : MethodName := ⟨RX1, "isTaken", "(I)Z"⟩
abbrev cX1_turnTaken : ByteArray := prog_3_method_5_code
def yX1_turnTaken : MethodName := ⟨RX1, "turnTaken", "(I)V"⟩
abbrev cX1_isSeen : ByteArray := prog_3_method_6_code
def yX1_isSeen : MethodName := ⟨RX1, "isSeen", "(I)Z"⟩
abbrev cX1_isSeenWith : ByteArray := prog_3_method_7_code
def yX1_isSeenWith : MethodName := ⟨RX1, "isSeenWith", "(II)Z"⟩
abbrev cX1_seenLetters : ByteArray := prog_3_method_8_code
def yX1_seenLetters : MethodName := ⟨RX1, "seenLetters", "()I"⟩
abbrev cX1_addLetter : ByteArray := prog_3_method_9_code
def yX1_addLetter : MethodName := ⟨RX1, "addLetter", "(III)I"⟩
abbrev cX1_addLine : ByteArray := prog_3_method_10_code
def yX1_addLine : MethodName := ⟨RX1, "addLine", "(IIJ)I"⟩
abbrev cX1_quoteInto : ByteArray := prog_3_method_11_code
def yX1_quoteInto : MethodName := ⟨RX1, "quoteInto", "(IIII)V"⟩
def RX2 : String := "QuotedLetters$Kin"
def TX2 : u_T := fun k => match k with
  | 0 => ("QuotedLetters$Kin", "heap", "LQuotedLetters$Heap;", true)
  | 1 => ("QuotedLetters$Kin", "fits", "LQuotedLetters$Fits;", true)
  | 2 => ("QuotedLetters$Kin", "rules", "[I", true)
  | 3 => ("QuotedLetters$Kin", "parent", "[I", true)
  | 4 => ("QuotedLetters$Kin", "held", "[I", true)
  | 5 => ("QuotedLetters$Kin", "fresh", "Z", false)
  | 6 => ("QuotedLetters$Kin", "builtWith", "I", false)
  | _ => ("QuotedLetters$Kin", "seen", "J", false)
def tyX2 : Nat → FieldType := fun k => match k with
  | 0 => .object "QuotedLetters$Heap"
  | 1 => .object "QuotedLetters$Fits"
  | 2 => .array .int
  | 3 => .array .int
  | 4 => .array .int
  | 5 => .boolean
  | 6 => .int
  | _ => .long
theorem nmX2 : ∀ a, a < 8 → ∀ b, b < 8 → a ≠ b → (TX2 a).2.1 ≠ (TX2 b).2.1 := by decide +kernel
theorem tyX2_ok : ∀ k, k < 8 → parseFieldDescriptor (TX2 k).2.2.1 = some (tyX2 k) := by decide +kernel
abbrev cX2_init : ByteArray := prog_4_method_1_code
def yX2_init : MethodName := ⟨RX2, "<init>", "(LQuotedLetters$Heap;LQuotedLetters$Fits;[I)V"⟩
abbrev cX2_refresh : ByteArray := prog_4_method_2_code
def yX2_refresh : MethodName := ⟨RX2, "refresh", "(I)V"⟩
abbrev cX2_isSeen : ByteArray := prog_4_method_3_code
def yX2_isSeen : MethodName := ⟨RX2, "isSeen", "(I)Z"⟩
abbrev cX2_findParent : ByteArray := prog_4_method_4_code
def yX2_findParent : MethodName := ⟨RX2, "findParent", "(I)I"⟩
abbrev cX2_isFree : ByteArray := prog_4_method_5_code
def yX2_isFree : MethodName := ⟨RX2, "isFree", "(II)Z"⟩
abbrev cX2_isAfter : ByteArray := prog_4_method_6_code
def yX2_isAfter : MethodName := ⟨RX2, "isAfter", "(II)Z"⟩
abbrev cX2_leadsTo : ByteArray := prog_4_method_7_code
def yX2_leadsTo : MethodName := ⟨RX2, "leadsTo", "(II)Z"⟩
abbrev cX2_holdLines : ByteArray := prog_4_method_8_code
def yX2_holdLines : MethodName := ⟨RX2, "holdLines", "(I)V"⟩
abbrev cX2_findHeld : ByteArray := prog_4_method_9_code
def yX2_findHeld : MethodName := ⟨RX2, "findHeld", "(II)I"⟩
abbrev cX2_rootOf : ByteArray := prog_4_method_10_code
def yX2_rootOf : MethodName := ⟨RX2, "rootOf", "(I)I"⟩
abbrev cX2_stepsOf : ByteArray := prog_4_method_11_code
def yX2_stepsOf : MethodName := ⟨RX2, "stepsOf", "(I)I"⟩
abbrev cX2_childrenOf : ByteArray := prog_4_method_12_code
def yX2_childrenOf : MethodName := ⟨RX2, "childrenOf", "(I)I"⟩
abbrev cX2_lettersOfThread : ByteArray := prog_4_method_13_code
def yX2_lettersOfThread : MethodName := ⟨RX2, "lettersOfThread", "(I)I"⟩
abbrev cX2_roots : ByteArray := prog_4_method_14_code
def yX2_roots : MethodName := ⟨RX2, "roots", "()I"⟩
abbrev cX2_sourceOf : ByteArray := prog_4_method_15_code
def yX2_sourceOf : MethodName := ⟨RX2, "sourceOf", "(I)I"⟩
abbrev cX2_isAltered : ByteArray := prog_4_method_16_code
def yX2_isAltered : MethodName := ⟨RX2, "isAltered", "(I)Z"⟩
abbrev cX2_alteredLines : ByteArray := prog_4_method_17_code
def yX2_alteredLines : MethodName := ⟨RX2, "alteredLines", "()I"⟩
abbrev cX2_linesFrom : ByteArray := prog_4_method_18_code
def yX2_linesFrom : MethodName := ⟨RX2, "linesFrom", "(I)I"⟩
abbrev cX2_linesQuotedAlike : ByteArray := prog_4_method_19_code
def yX2_linesQuotedAlike : MethodName := ⟨RX2, "linesQuotedAlike", "(I)I"⟩
abbrev cX2_writtenAt : ByteArray := prog_4_method_20_code
def yX2_writtenAt : MethodName := ⟨RX2, "writtenAt", "(I)I"⟩
abbrev cX2_nextToWrite : ByteArray := prog_4_method_21_code
def yX2_nextToWrite : MethodName := ⟨RX2, "nextToWrite", "(J)I"⟩
abbrev cX2_isQuarrel : ByteArray := prog_4_method_22_code
def yX2_isQuarrel : MethodName := ⟨RX2, "isQuarrel", "(I)Z"⟩
abbrev cX2_quarrels : ByteArray := prog_4_method_23_code
def yX2_quarrels : MethodName := ⟨RX2, "quarrels", "()I"⟩
abbrev cX2_quarrelAt : ByteArray := prog_4_method_24_code
def yX2_quarrelAt : MethodName := ⟨RX2, "quarrelAt", "(I)I"⟩
abbrev cX2_greatestDayAbove : ByteArray := prog_4_method_25_code
def yX2_greatestDayAbove : MethodName := ⟨RX2, "greatestDayAbove", "(I)I"⟩
abbrev cX2_leastDayBelow : ByteArray := prog_4_method_26_code
def yX2_leastDayBelow : MethodName := ⟨RX2, "leastDayBelow", "(I)I"⟩
def RX3 : String := "QuotedLetters$LostLetters"
def TX3 : u_T := fun k => match k with
  | 0 => ("QuotedLetters$LostLetters", "heap", "LQuotedLetters$Heap;", true)
  | 1 => ("QuotedLetters$LostLetters", "kin", "LQuotedLetters$Kin;", true)
  | 2 => ("QuotedLetters$LostLetters", "finder", "LQuotedLetters$RowFinder;", true)
  | 3 => ("QuotedLetters$LostLetters", "groupOf", "[I", true)
  | 4 => ("QuotedLetters$LostLetters", "pieces", "[I", true)
  | 5 => ("QuotedLetters$LostLetters", "least", "[I", true)
  | 6 => ("QuotedLetters$LostLetters", "members", "[I", true)
  | 7 => ("QuotedLetters$LostLetters", "groups", "I", false)
  | 8 => ("QuotedLetters$LostLetters", "fresh", "Z", false)
  | _ => ("QuotedLetters$LostLetters", "groupOfRow", "I", false)
def tyX3 : Nat → FieldType := fun k => match k with
  | 0 => .object "QuotedLetters$Heap"
  | 1 => .object "QuotedLetters$Kin"
  | 2 => .object "QuotedLetters$RowFinder"
  | 3 => .array .int
  | 4 => .array .int
  | 5 => .array .int
  | 6 => .array .int
  | 7 => .int
  | 8 => .boolean
  | _ => .int
theorem nmX3 : ∀ a, a < 10 → ∀ b, b < 10 → a ≠ b → (TX3 a).2.1 ≠ (TX3 b).2.1 := by decide +kernel
theorem tyX3_ok : ∀ k, k < 10 → parseFieldDescriptor (TX3 k).2.2.1 = some (tyX3 k) := by decide +kernel
abbrev cX3_init : ByteArray := prog_5_method_1_code
def yX3_init : MethodName := ⟨RX3, "<init>", "(LQuotedLetters$Heap;LQuotedLetters$Kin;)V"⟩
abbrev cX3_has : ByteArray := prog_5_method_2_code
def yX3_has : MethodName := ⟨RX3, "has", "(I)Z"⟩
abbrev cX3_isLarge : ByteArray := prog_5_method_3_code
def yX3_isLarge : MethodName := ⟨RX3, "isLarge", "(I)Z"⟩
abbrev cX3_refresh : ByteArray := prog_5_method_4_code
def yX3_refresh : MethodName := ⟨RX3, "refresh", "()V"⟩
abbrev cX3_gather : ByteArray := prog_5_method_5_code
def yX3_gather : MethodName := ⟨RX3, "gather", "(II)I"⟩
abbrev cX3_isOfPiece : ByteArray := prog_5_method_6_code
def yX3_isOfPiece : MethodName := ⟨RX3, "isOfPiece", "(II)Z"⟩
abbrev cX3_hasPiece : ByteArray := prog_5_method_7_code
def yX3_hasPiece : MethodName := ⟨RX3, "hasPiece", "(I)Z"⟩
abbrev cX3_shareText : ByteArray := prog_5_method_8_code
def yX3_shareText : MethodName := ⟨RX3, "shareText", "(II)Z"⟩
abbrev cX3_pieceHas : ByteArray := prog_5_method_9_code
def yX3_pieceHas : MethodName := ⟨RX3, "pieceHas", "(IJ)Z"⟩
abbrev cX3_rowLength : ByteArray := prog_5_method_10_code
def yX3_rowLength : MethodName := ⟨RX3, "rowLength", "(I)I"⟩
abbrev cX3_rowText : ByteArray := prog_5_method_11_code
def yX3_rowText : MethodName := ⟨RX3, "rowText", "(II)J"⟩
abbrev cX3_makeRow : ByteArray := prog_5_method_12_code
def yX3_makeRow : MethodName := ⟨RX3, "makeRow", "(I)V"⟩
abbrev cX3_handOverPiece : ByteArray := prog_5_method_13_code
def yX3_handOverPiece : MethodName := ⟨RX3, "handOverPiece", "(I)V"⟩
def RX4 : String := "QuotedLetters$Pattern"
def TX4 : u_T := fun k => match k with
  | 0 => ("QuotedLetters$Pattern", "signs", "[I", true)
  | _ => ("QuotedLetters$Pattern", "length", "I", false)
def tyX4 : Nat → FieldType := fun k => match k with
  | 0 => .array .int
  | _ => .int
theorem nmX4 : ∀ a, a < 2 → ∀ b, b < 2 → a ≠ b → (TX4 a).2.1 ≠ (TX4 b).2.1 := by decide +kernel
theorem tyX4_ok : ∀ k, k < 2 → parseFieldDescriptor (TX4 k).2.2.1 = some (tyX4 k) := by decide +kernel
abbrev cX4_init : ByteArray := prog_6_method_1_code
def yX4_init : MethodName := ⟨RX4, "<init>", "()V"⟩
abbrev cX4_addSign : ByteArray := prog_6_method_2_code
def yX4_addSign : MethodName := ⟨RX4, "addSign", "(I)I"⟩
abbrev cX4_standsIn : ByteArray := prog_6_method_3_code
def yX4_standsIn : MethodName := ⟨RX4, "standsIn", "(J)Z"⟩
abbrev cX4_standsAt : ByteArray := prog_6_method_4_code
def yX4_standsAt : MethodName := ⟨RX4, "standsAt", "(JI)Z"⟩
def RX5 : String := "QuotedLetters$RowFinder"
def TX5 : u_T := fun k => match k with
  | 0 => ("QuotedLetters$RowFinder", "texts", "[J", true)
  | 1 => ("QuotedLetters$RowFinder", "lengths", "[I", true)
  | 2 => ("QuotedLetters$RowFinder", "heads", "[J", true)
  | 3 => ("QuotedLetters$RowFinder", "row", "[J", true)
  | 4 => ("QuotedLetters$RowFinder", "rowLength", "I", false)
  | 5 => ("QuotedLetters$RowFinder", "pieces", "I", false)
  | _ => ("QuotedLetters$RowFinder", "cells", "[I", false)
def tyX5 : Nat → FieldType := fun k => match k with
  | 0 => .array .long
  | 1 => .array .int
  | 2 => .array .long
  | 3 => .array .long
  | 4 => .int
  | 5 => .int
  | _ => .array .int
theorem nmX5 : ∀ a, a < 7 → ∀ b, b < 7 → a ≠ b → (TX5 a).2.1 ≠ (TX5 b).2.1 := by decide +kernel
theorem tyX5_ok : ∀ k, k < 7 → parseFieldDescriptor (TX5 k).2.2.1 = some (tyX5 k) := by decide +kernel
abbrev cX5_init : ByteArray := prog_7_method_1_code
def yX5_init : MethodName := ⟨RX5, "<init>", "()V"⟩
abbrev cX5_start : ByteArray := prog_7_method_2_code
def yX5_start : MethodName := ⟨RX5, "start", "()V"⟩
abbrev cX5_addPiece : ByteArray := prog_7_method_3_code
def yX5_addPiece : MethodName := ⟨RX5, "addPiece", "()V"⟩
abbrev cX5_addText : ByteArray := prog_7_method_4_code
def yX5_addText : MethodName := ⟨RX5, "addText", "(J)V"⟩
abbrev cX5_findRow : ByteArray := prog_7_method_5_code
def yX5_findRow : MethodName := ⟨RX5, "findRow", "()V"⟩
abbrev cX5_goOn : ByteArray := prog_7_method_6_code
def yX5_goOn : MethodName := ⟨RX5, "goOn", "(II)I"⟩
abbrev cX5_positionOf : ByteArray := prog_7_method_7_code
def yX5_positionOf : MethodName := ⟨RX5, "positionOf", "(II)I"⟩
abbrev cX5_leastHeadAbove : ByteArray := prog_7_method_8_code
def yX5_leastHeadAbove : MethodName := ⟨RX5, "leastHeadAbove", "(J)J"⟩
abbrev cX5_stepBy : ByteArray := prog_7_method_9_code
def yX5_stepBy : MethodName := ⟨RX5, "stepBy", "(J)I"⟩
abbrev cX5_writeRow : ByteArray := prog_7_method_10_code
def yX5_writeRow : MethodName := ⟨RX5, "writeRow", "(I)V"⟩
abbrev cX5_textOfStep : ByteArray := prog_7_method_11_code
def yX5_textOfStep : MethodName := ⟨RX5, "textOfStep", "(II)J"⟩
abbrev cX5_wipe : ByteArray := prog_7_method_12_code
def yX5_wipe : MethodName := ⟨RX5, "wipe", "()V"⟩
def RX6 : String := "QuotedLetters$RuleText"
def TX6 : u_T := fun k => match k with
  | 0 => ("QuotedLetters$RuleText", "bytes", "[I", true)
  | 1 => ("QuotedLetters$RuleText", "value", "[I", true)
  | 2 => ("QuotedLetters$RuleText", "length", "I", false)
  | 3 => ("QuotedLetters$RuleText", "faultAt", "I", false)
  | 4 => ("QuotedLetters$RuleText", "faultKind", "I", false)
  | 5 => ("QuotedLetters$RuleText", "position", "I", false)
  | _ => ("QuotedLetters$RuleText", "toldKinds", "I", false)
def tyX6 : Nat → FieldType := fun k => match k with
  | 0 => .array .int
  | 1 => .array .int
  | 2 => .int
  | 3 => .int
  | 4 => .int
  | 5 => .int
  | _ => .int
theorem nmX6 : ∀ a, a < 7 → ∀ b, b < 7 → a ≠ b → (TX6 a).2.1 ≠ (TX6 b).2.1 := by decide +kernel
theorem tyX6_ok : ∀ k, k < 7 → parseFieldDescriptor (TX6 k).2.2.1 = some (tyX6 k) := by decide +kernel
abbrev cX6_init : ByteArray := prog_8_method_1_code
def yX6_init : MethodName := ⟨RX6, "<init>", "()V"⟩
abbrev cX6_addBytes : ByteArray := prog_8_method_2_code
def yX6_addBytes : MethodName := ⟨RX6, "addBytes", "(IJ)I"⟩
abbrev cX6_readClauses : ByteArray := prog_8_method_3_code
def yX6_readClauses : MethodName := ⟨RX6, "readClauses", "()I"⟩
abbrev cX6_readClause : ByteArray := prog_8_method_4_code
def yX6_readClause : MethodName := ⟨RX6, "readClause", "()Z"⟩
abbrev cX6_readYes : ByteArray := prog_8_method_5_code
def yX6_readYes : MethodName := ⟨RX6, "readYes", "()Z"⟩
abbrev cX6_readNumber : ByteArray := prog_8_method_6_code
def yX6_readNumber : MethodName := ⟨RX6, "readNumber", "(I)Z"⟩
abbrev cX6_readSemicolon : ByteArray := prog_8_method_7_code
def yX6_readSemicolon : MethodName := ⟨RX6, "readSemicolon", "()Z"⟩
abbrev cX6_blame : ByteArray := prog_8_method_8_code
def yX6_blame : MethodName := ⟨RX6, "blame", "(II)Z"⟩
abbrev cX6_skipBlanks : ByteArray := prog_8_method_9_code
def yX6_skipBlanks : MethodName := ⟨RX6, "skipBlanks", "()V"⟩
abbrev cX6_endOfWord : ByteArray := prog_8_method_10_code
def yX6_endOfWord : MethodName := ⟨RX6, "endOfWord", "()I"⟩
abbrev cX6_isFigure : ByteArray := prog_8_method_11_code
def yX6_isFigure : MethodName := ⟨RX6, "isFigure", "(I)Z"⟩
abbrev cX6_kindOf : ByteArray := prog_8_method_12_code
def yX6_kindOf : MethodName := ⟨RX6, "kindOf", "(II)I"⟩
abbrev cX6_nameOf : ByteArray := prog_8_method_13_code
def yX6_nameOf : MethodName := ⟨RX6, "nameOf", "(I)Ljava/lang/String;"⟩
abbrev cX6_isWord : ByteArray := prog_8_method_14_code
def yX6_isWord : MethodName := ⟨RX6, "isWord", "(IILjava/lang/String;)Z"⟩
def RX7 : String := "QuotedLetters$Texts"
def TX7 : u_T := fun k => match k with
  | _ => ("", "", "", false)
def tyX7 : Nat → FieldType := fun k => match k with
  | _ => .int
theorem nmX7 : ∀ a, a < 0 → ∀ b, b < 0 → a ≠ b → (TX7 a).2.1 ≠ (TX7 b).2.1 := by decide +kernel
theorem tyX7_ok : ∀ k, k < 0 → parseFieldDescriptor (TX7 k).2.2.1 = some (tyX7 k) := by decide +kernel
abbrev cX7_with : ByteArray := prog_9_method_2_code
def yX7_with : MethodName := ⟨RX7, "with", "(JII)J"⟩
abbrev cX7_wordAt : ByteArray := prog_9_method_3_code
def yX7_wordAt : MethodName := ⟨RX7, "wordAt", "(JI)I"⟩
abbrev cX7_wordsIn : ByteArray := prog_9_method_4_code
def yX7_wordsIn : MethodName := ⟨RX7, "wordsIn", "(J)I"⟩
abbrev cX7_wordOrNone : ByteArray := prog_9_method_5_code
def yX7_wordOrNone : MethodName := ⟨RX7, "wordOrNone", "(JI)I"⟩
def RX8 : String := "QuotedLetters"
def TX8 : u_T := fun k => match k with
  | 0 => ("QuotedLetters", "rules", "[I", true)
  | 1 => ("QuotedLetters", "heap", "LQuotedLetters$Heap;", true)
  | 2 => ("QuotedLetters", "fits", "LQuotedLetters$Fits;", true)
  | 3 => ("QuotedLetters", "now", "LQuotedLetters$Kin;", true)
  | 4 => ("QuotedLetters", "trial", "LQuotedLetters$Kin;", true)
  | 5 => ("QuotedLetters", "losts", "LQuotedLetters$LostLetters;", true)
  | 6 => ("QuotedLetters", "pattern", "LQuotedLetters$Pattern;", true)
  | 7 => ("QuotedLetters", "ruleText", "LQuotedLetters$RuleText;", true)
  | 8 => ("QuotedLetters", "draft", "J", false)
  | _ => ("QuotedLetters", "draftWords", "I", false)
def tyX8 : Nat → FieldType := fun k => match k with
  | 0 => .array .int
  | 1 => .object "QuotedLetters$Heap"
  | 2 => .object "QuotedLetters$Fits"
  | 3 => .object "QuotedLetters$Kin"
  | 4 => .object "QuotedLetters$Kin"
  | 5 => .object "QuotedLetters$LostLetters"
  | 6 => .object "QuotedLetters$Pattern"
  | 7 => .object "QuotedLetters$RuleText"
  | 8 => .long
  | _ => .int
theorem nmX8 : ∀ a, a < 10 → ∀ b, b < 10 → a ≠ b → (TX8 a).2.1 ≠ (TX8 b).2.1 := by decide +kernel
theorem tyX8_ok : ∀ k, k < 10 → parseFieldDescriptor (TX8 k).2.2.1 = some (tyX8 k) := by decide +kernel
abbrev cX8_init : ByteArray := prog_1_method_1_code
def yX8_init : MethodName := ⟨RX8, "<init>", "()V"⟩
abbrev cX8_word : ByteArray := prog_1_method_2_code
def yX8_word : MethodName := ⟨RX8, "word", "(I)I"⟩
abbrev cX8_letter : ByteArray := prog_1_method_3_code
def yX8_letter : MethodName := ⟨RX8, "letter", "(III)I"⟩
abbrev cX8_line : ByteArray := prog_1_method_4_code
def yX8_line : MethodName := ⟨RX8, "line", "(II)I"⟩
abbrev cX8_answer : ByteArray := prog_1_method_5_code
def yX8_answer : MethodName := ⟨RX8, "answer", "(III)I"⟩
abbrev cX8_take : ByteArray := prog_1_method_6_code
def yX8_take : MethodName := ⟨RX8, "take", "(I)I"⟩
abbrev cX8_put : ByteArray := prog_1_method_7_code
def yX8_put : MethodName := ⟨RX8, "put", "(I)I"⟩
abbrev cX8_known : ByteArray := prog_1_method_8_code
def yX8_known : MethodName := ⟨RX8, "known", "(I)I"⟩
abbrev cX8_about : ByteArray := prog_1_method_9_code
def yX8_about : MethodName := ⟨RX8, "about", "(II)I"⟩
abbrev cX8_told : ByteArray := prog_1_method_10_code
def yX8_told : MethodName := ⟨RX8, "told", "(III)I"⟩
abbrev cX8_differ : ByteArray := prog_1_method_11_code
def yX8_differ : MethodName := ⟨RX8, "differ", "(IIII)I"⟩
abbrev cX8_fit : ByteArray := prog_1_method_12_code
def yX8_fit : MethodName := ⟨RX8, "fit", "(II)I"⟩
abbrev cX8_count : ByteArray := prog_1_method_13_code
def yX8_count : MethodName := ⟨RX8, "count", "(I)I"⟩
abbrev cX8_origin : ByteArray := prog_1_method_14_code
def yX8_origin : MethodName := ⟨RX8, "origin", "(III)I"⟩
abbrev cX8_altered : ByteArray := prog_1_method_15_code
def yX8_altered : MethodName := ⟨RX8, "altered", "(II)I"⟩
abbrev cX8_echoes : ByteArray := prog_1_method_16_code
def yX8_echoes : MethodName := ⟨RX8, "echoes", "(II)I"⟩
abbrev cX8_group : ByteArray := prog_1_method_17_code
def yX8_group : MethodName := ⟨RX8, "group", "(I)I"⟩
abbrev cX8_lost : ByteArray := prog_1_method_18_code
def yX8_lost : MethodName := ⟨RX8, "lost", "(II)I"⟩
abbrev cX8_lostWord : ByteArray := prog_1_method_19_code
def yX8_lostWord : MethodName := ⟨RX8, "lostWord", "(III)I"⟩
abbrev cX8_order : ByteArray := prog_1_method_20_code
def yX8_order : MethodName := ⟨RX8, "order", "(I)I"⟩
abbrev cX8_quarrel : ByteArray := prog_1_method_21_code
def yX8_quarrel : MethodName := ⟨RX8, "quarrel", "(I)I"⟩
abbrev cX8_span : ByteArray := prog_1_method_22_code
def yX8_span : MethodName := ⟨RX8, "span", "(II)I"⟩
abbrev cX8_sign : ByteArray := prog_1_method_23_code
def yX8_sign : MethodName := ⟨RX8, "sign", "(I)I"⟩
abbrev cX8_clear : ByteArray := prog_1_method_24_code
def yX8_clear : MethodName := ⟨RX8, "clear", "()I"⟩
abbrev cX8_seek : ByteArray := prog_1_method_25_code
def yX8_seek : MethodName := ⟨RX8, "seek", "(III)I"⟩
abbrev cX8_still : ByteArray := prog_1_method_26_code
def yX8_still : MethodName := ⟨RX8, "still", "(I)I"⟩
abbrev cX8_feed : ByteArray := prog_1_method_27_code
def yX8_feed : MethodName := ⟨RX8, "feed", "(IJ)I"⟩
abbrev cX8_read : ByteArray := prog_1_method_28_code
def yX8_read : MethodName := ⟨RX8, "read", "()I"⟩
abbrev cX8_fault : ByteArray := prog_1_method_29_code
def yX8_fault : MethodName := ⟨RX8, "fault", "()I"⟩
abbrev cX8_rule : ByteArray := prog_1_method_30_code
def yX8_rule : MethodName := ⟨RX8, "rule", "(I)I"⟩
abbrev cX8_spotOf : ByteArray := prog_1_method_31_code
def yX8_spotOf : MethodName := ⟨RX8, "spotOf", "(II)I"⟩
abbrev cX8_isWrongWriter : ByteArray := prog_1_method_32_code
def yX8_isWrongWriter : MethodName := ⟨RX8, "isWrongWriter", "(I)Z"⟩
abbrev cX8_isWrongDay : ByteArray := prog_1_method_33_code
def yX8_isWrongDay : MethodName := ⟨RX8, "isWrongDay", "(I)Z"⟩
abbrev cX8_isWhere : ByteArray := prog_1_method_34_code
def yX8_isWhere : MethodName := ⟨RX8, "isWhere", "(II)Z"⟩
abbrev cX8_forgetFindings : ByteArray := prog_1_method_35_code
def yX8_forgetFindings : MethodName := ⟨RX8, "forgetFindings", "()V"⟩
abbrev cX8_aboutKin : ByteArray := prog_1_method_36_code
def yX8_aboutKin : MethodName := ⟨RX8, "aboutKin", "(II)I"⟩
abbrev cX8_countFindings : ByteArray := prog_1_method_37_code
def yX8_countFindings : MethodName := ⟨RX8, "countFindings", "(I)I"⟩
def RX9 : String := "QuotedLettersModel"
def TX9 : u_T := fun k => match k with
  | 0 => ("QuotedLettersModel", "rules", "[I", true)
  | 1 => ("QuotedLettersModel", "letters", "I", false)
  | 2 => ("QuotedLettersModel", "writer", "[I", true)
  | 3 => ("QuotedLettersModel", "day", "[I", true)
  | 4 => ("QuotedLettersModel", "names", "[I", true)
  | 5 => ("QuotedLettersModel", "size", "[I", true)
  | 6 => ("QuotedLettersModel", "isTaken", "[Z", true)
  | 7 => ("QuotedLettersModel", "depth", "[I", true)
  | 8 => ("QuotedLettersModel", "words", "[I", true)
  | 9 => ("QuotedLettersModel", "word", "[I", true)
  | 10 => ("QuotedLettersModel", "drafts", "I", false)
  | 11 => ("QuotedLettersModel", "draft", "[I", true)
  | 12 => ("QuotedLettersModel", "knownBy", "I", false)
  | 13 => ("QuotedLettersModel", "asIf", "I", false)
  | 14 => ("QuotedLettersModel", "far", "[I", true)
  | 15 => ("QuotedLettersModel", "pairs", "[I", true)
  | 16 => ("QuotedLettersModel", "parent", "[I", true)
  | 17 => ("QuotedLettersModel", "groupOf", "[I", true)
  | 18 => ("QuotedLettersModel", "groups", "I", false)
  | 19 => ("QuotedLettersModel", "pieceOf", "[I", true)
  | 20 => ("QuotedLettersModel", "pieceSize", "[I", true)
  | 21 => ("QuotedLettersModel", "piece", "[I", true)
  | 22 => ("QuotedLettersModel", "pieces", "I", false)
  | 23 => ("QuotedLettersModel", "wanted", "[I", true)
  | 24 => ("QuotedLettersModel", "row", "[I", true)
  | 25 => ("QuotedLettersModel", "rowSize", "I", false)
  | 26 => ("QuotedLettersModel", "signs", "I", false)
  | 27 => ("QuotedLettersModel", "sign", "[I", true)
  | 28 => ("QuotedLettersModel", "text", "[I", true)
  | 29 => ("QuotedLettersModel", "textSize", "I", false)
  | 30 => ("QuotedLettersModel", "here", "I", false)
  | 31 => ("QuotedLettersModel", "faultOf", "I", false)
  | 32 => ("QuotedLettersModel", "place", "I", false)
  | 33 => ("QuotedLettersModel", "begin", "I", false)
  | 34 => ("QuotedLettersModel", "many", "I", false)
  | _ => ("QuotedLettersModel", "newRules", "[I", true)
def tyX9 : Nat → FieldType := fun k => match k with
  | 0 => .array .int
  | 1 => .int
  | 2 => .array .int
  | 3 => .array .int
  | 4 => .array .int
  | 5 => .array .int
  | 6 => .array .boolean
  | 7 => .array .int
  | 8 => .array .int
  | 9 => .array .int
  | 10 => .int
  | 11 => .array .int
  | 12 => .int
  | 13 => .int
  | 14 => .array .int
  | 15 => .array .int
  | 16 => .array .int
  | 17 => .array .int
  | 18 => .int
  | 19 => .array .int
  | 20 => .array .int
  | 21 => .array .int
  | 22 => .int
  | 23 => .array .int
  | 24 => .array .int
  | 25 => .int
  | 26 => .int
  | 27 => .array .int
  | 28 => .array .int
  | 29 => .int
  | 30 => .int
  | 31 => .int
  | 32 => .int
  | 33 => .int
  | 34 => .int
  | _ => .array .int
theorem nmX9 : ∀ a, a < 36 → ∀ b, b < 36 → a ≠ b → (TX9 a).2.1 ≠ (TX9 b).2.1 := by decide +kernel
theorem tyX9_ok : ∀ k, k < 36 → parseFieldDescriptor (TX9 k).2.2.1 = some (tyX9 k) := by decide +kernel
abbrev cX9_init : ByteArray := prog_11_method_1_code
def yX9_init : MethodName := ⟨RX9, "<init>", "()V"⟩
abbrev cX9_in : ByteArray := prog_11_method_3_code
def yX9_in : MethodName := ⟨RX9, "in", "(JJJ)Z"⟩
abbrev cX9_one : ByteArray := prog_11_method_4_code
def yX9_one : MethodName := ⟨RX9, "one", "(Z)I"⟩
abbrev cX9_atFirst : ByteArray := prog_11_method_5_code
def yX9_atFirst : MethodName := ⟨RX9, "atFirst", "(I)I"⟩
abbrev cX9_noLetter : ByteArray := prog_11_method_6_code
def yX9_noLetter : MethodName := ⟨RX9, "noLetter", "(I)Z"⟩
abbrev cX9_noLine : ByteArray := prog_11_method_7_code
def yX9_noLine : MethodName := ⟨RX9, "noLine", "(II)Z"⟩
abbrev cX9_word : ByteArray := prog_11_method_8_code
def yX9_word : MethodName := ⟨RX9, "word", "(I)I"⟩
abbrev cX9_letter : ByteArray := prog_11_method_9_code
def yX9_letter : MethodName := ⟨RX9, "letter", "(III)I"⟩
abbrev cX9_line : ByteArray := prog_11_method_10_code
def yX9_line : MethodName := ⟨RX9, "line", "(II)I"⟩
abbrev cX9_answer : ByteArray := prog_11_method_11_code
def yX9_answer : MethodName := ⟨RX9, "answer", "(III)I"⟩
abbrev cX9_take : ByteArray := prog_11_method_12_code
def yX9_take : MethodName := ⟨RX9, "take", "(I)I"⟩
abbrev cX9_put : ByteArray := prog_11_method_13_code
def yX9_put : MethodName := ⟨RX9, "put", "(I)I"⟩
abbrev cX9_known : ByteArray := prog_11_method_14_code
def yX9_known : MethodName := ⟨RX9, "known", "(I)I"⟩
abbrev cX9_isSeen : ByteArray := prog_11_method_15_code
def yX9_isSeen : MethodName := ⟨RX9, "isSeen", "(I)Z"⟩
abbrev cX9_quoted : ByteArray := prog_11_method_16_code
def yX9_quoted : MethodName := ⟨RX9, "quoted", "(I)I"⟩
abbrev cX9_differBy : ByteArray := prog_11_method_17_code
def yX9_differBy : MethodName := ⟨RX9, "differBy", "(II)I"⟩
abbrev cX9_isSame : ByteArray := prog_11_method_18_code
def yX9_isSame : MethodName := ⟨RX9, "isSame", "(II)Z"⟩
abbrev cX9_isLike : ByteArray := prog_11_method_19_code
def yX9_isLike : MethodName := ⟨RX9, "isLike", "(II)Z"⟩
abbrev cX9_differ : ByteArray := prog_11_method_20_code
def yX9_differ : MethodName := ⟨RX9, "differ", "(IIII)I"⟩
abbrev cX9_fitOf : ByteArray := prog_11_method_21_code
def yX9_fitOf : MethodName := ⟨RX9, "fitOf", "(II)I"⟩
abbrev cX9_fit : ByteArray := prog_11_method_22_code
def yX9_fit : MethodName := ⟨RX9, "fit", "(II)I"⟩
abbrev cX9_comesTo : ByteArray := prog_11_method_23_code
def yX9_comesTo : MethodName := ⟨RX9, "comesTo", "(II)Z"⟩
abbrev cX9_findParents : ByteArray := prog_11_method_24_code
def yX9_findParents : MethodName := ⟨RX9, "findParents", "()V"⟩
abbrev cX9_fitting : ByteArray := prog_11_method_25_code
def yX9_fitting : MethodName := ⟨RX9, "fitting", "(I)I"⟩
abbrev cX9_rootOf : ByteArray := prog_11_method_26_code
def yX9_rootOf : MethodName := ⟨RX9, "rootOf", "(I)I"⟩
abbrev cX9_stepsOf : ByteArray := prog_11_method_27_code
def yX9_stepsOf : MethodName := ⟨RX9, "stepsOf", "(I)I"⟩
abbrev cX9_about : ByteArray := prog_11_method_28_code
def yX9_about : MethodName := ⟨RX9, "about", "(II)I"⟩
abbrev cX9_told : ByteArray := prog_11_method_29_code
def yX9_told : MethodName := ⟨RX9, "told", "(III)I"⟩
abbrev cX9_heldTo : ByteArray := prog_11_method_30_code
def yX9_heldTo : MethodName := ⟨RX9, "heldTo", "(I)I"⟩
abbrev cX9_originOf : ByteArray := prog_11_method_31_code
def yX9_originOf : MethodName := ⟨RX9, "originOf", "(I)I"⟩
abbrev cX9_origin : ByteArray := prog_11_method_32_code
def yX9_origin : MethodName := ⟨RX9, "origin", "(III)I"⟩
abbrev cX9_isAltered : ByteArray := prog_11_method_33_code
def yX9_isAltered : MethodName := ⟨RX9, "isAltered", "(I)Z"⟩
abbrev cX9_altered : ByteArray := prog_11_method_34_code
def yX9_altered : MethodName := ⟨RX9, "altered", "(II)I"⟩
abbrev cX9_echoes : ByteArray := prog_11_method_35_code
def yX9_echoes : MethodName := ⟨RX9, "echoes", "(II)I"⟩
abbrev cX9_isPiece : ByteArray := prog_11_method_36_code
def yX9_isPiece : MethodName := ⟨RX9, "isPiece", "(I)Z"⟩
abbrev cX9_hasPiece : ByteArray := prog_11_method_37_code
def yX9_hasPiece : MethodName := ⟨RX9, "hasPiece", "(I)Z"⟩
abbrev cX9_haveCommon : ByteArray := prog_11_method_38_code
def yX9_haveCommon : MethodName := ⟨RX9, "haveCommon", "(II)Z"⟩
abbrev cX9_findGroups : ByteArray := prog_11_method_39_code
def yX9_findGroups : MethodName := ⟨RX9, "findGroups", "()V"⟩
abbrev cX9_group : ByteArray := prog_11_method_40_code
def yX9_group : MethodName := ⟨RX9, "group", "(I)I"⟩
abbrev cX9_findPieces : ByteArray := prog_11_method_41_code
def yX9_findPieces : MethodName := ⟨RX9, "findPieces", "(I)V"⟩
abbrev cX9_textAt : ByteArray := prog_11_method_42_code
def yX9_textAt : MethodName := ⟨RX9, "textAt", "(II)I"⟩
abbrev cX9_step : ByteArray := prog_11_method_43_code
def yX9_step : MethodName := ⟨RX9, "step", "(I)I"⟩
abbrev cX9_behind : ByteArray := prog_11_method_44_code
def yX9_behind : MethodName := ⟨RX9, "behind", "(II)I"⟩
abbrev cX9_isWithin : ByteArray := prog_11_method_45_code
def yX9_isWithin : MethodName := ⟨RX9, "isWithin", "(I)Z"⟩
abbrev cX9_findRow : ByteArray := prog_11_method_46_code
def yX9_findRow : MethodName := ⟨RX9, "findRow", "()V"⟩
abbrev cX9_isLess : ByteArray := prog_11_method_47_code
def yX9_isLess : MethodName := ⟨RX9, "isLess", "(II)Z"⟩
abbrev cX9_lost : ByteArray := prog_11_method_48_code
def yX9_lost : MethodName := ⟨RX9, "lost", "(II)I"⟩
abbrev cX9_lostWord : ByteArray := prog_11_method_49_code
def yX9_lostWord : MethodName := ⟨RX9, "lostWord", "(III)I"⟩
abbrev cX9_order : ByteArray := prog_11_method_50_code
def yX9_order : MethodName := ⟨RX9, "order", "(I)I"⟩
abbrev cX9_quarrels : ByteArray := prog_11_method_51_code
def yX9_quarrels : MethodName := ⟨RX9, "quarrels", "(I)Z"⟩
abbrev cX9_quarrel : ByteArray := prog_11_method_52_code
def yX9_quarrel : MethodName := ⟨RX9, "quarrel", "(I)I"⟩
abbrev cX9_span : ByteArray := prog_11_method_53_code
def yX9_span : MethodName := ⟨RX9, "span", "(II)I"⟩
abbrev cX9_sign : ByteArray := prog_11_method_54_code
def yX9_sign : MethodName := ⟨RX9, "sign", "(I)I"⟩
abbrev cX9_clear : ByteArray := prog_11_method_55_code
def yX9_clear : MethodName := ⟨RX9, "clear", "()I"⟩
abbrev cX9_hasSigns : ByteArray := prog_11_method_56_code
def yX9_hasSigns : MethodName := ⟨RX9, "hasSigns", "(I)Z"⟩
abbrev cX9_seek : ByteArray := prog_11_method_57_code
def yX9_seek : MethodName := ⟨RX9, "seek", "(III)I"⟩
abbrev cX9_still : ByteArray := prog_11_method_58_code
def yX9_still : MethodName := ⟨RX9, "still", "(I)I"⟩
abbrev cX9_count : ByteArray := prog_11_method_59_code
def yX9_count : MethodName := ⟨RX9, "count", "(I)I"⟩
abbrev cX9_feed : ByteArray := prog_11_method_60_code
def yX9_feed : MethodName := ⟨RX9, "feed", "(IJ)I"⟩
abbrev cX9_look : ByteArray := prog_11_method_61_code
def yX9_look : MethodName := ⟨RX9, "look", "()I"⟩
abbrev cX9_want : ByteArray := prog_11_method_62_code
def yX9_want : MethodName := ⟨RX9, "want", "(ZII)Z"⟩
abbrev cX9_takeWord : ByteArray := prog_11_method_63_code
def yX9_takeWord : MethodName := ⟨RX9, "takeWord", "()V"⟩
abbrev cX9_isWord : ByteArray := prog_11_method_64_code
def yX9_isWord : MethodName := ⟨RX9, "isWord", "(IIIIII)Z"⟩
abbrev cX9_takeNumber : ByteArray := prog_11_method_65_code
def yX9_takeNumber : MethodName := ⟨RX9, "takeNumber", "(I)I"⟩
abbrev cX9_kindOf : ByteArray := prog_11_method_66_code
def yX9_kindOf : MethodName := ⟨RX9, "kindOf", "()I"⟩
abbrev cX9_readClause : ByteArray := prog_11_method_67_code
def yX9_readClause : MethodName := ⟨RX9, "readClause", "(I)V"⟩
abbrev cX9_read : ByteArray := prog_11_method_68_code
def yX9_read : MethodName := ⟨RX9, "read", "()I"⟩
abbrev cX9_fault : ByteArray := prog_11_method_69_code
def yX9_fault : MethodName := ⟨RX9, "fault", "()I"⟩
abbrev cX9_rule : ByteArray := prog_11_method_70_code
def yX9_rule : MethodName := ⟨RX9, "rule", "(I)I"⟩
def RJ9 : String := "java/lang/Math"
abbrev cJ9_max_7cf53 : ByteArray := prog_12_method_65_code
def yJ9_max_7cf53 : MethodName := ⟨RJ9, "max", "(II)I"⟩
abbrev cJ9_min_7cf53 : ByteArray := prog_12_method_69_code
def yJ9_min_7cf53 : MethodName := ⟨RJ9, "min", "(II)I"⟩
def RJ0 : String := "java/lang/String"
abbrev cJ0_length_8abf5 : ByteArray := prog_13_method_54_code
def yJ0_length_8abf5 : MethodName := ⟨RJ0, "length", "()I"⟩
abbrev cJ0_charAt_5068e : ByteArray := prog_13_method_56_code
def yJ0_charAt_5068e : MethodName := ⟨RJ0, "charAt", "(I)C"⟩
abbrev cJ0_coder_7d493 : ByteArray := prog_13_method_152_code
def yJ0_coder_7d493 : MethodName := ⟨RJ0, "coder", "()B"⟩
abbrev cJ0_isLatin1_aae02 : ByteArray := prog_13_method_154_code
def yJ0_isLatin1_aae02 : MethodName := ⟨RJ0, "isLatin1", "()Z"⟩
abbrev cJ0_checkIndex_df160 : ByteArray := prog_13_method_155_code
def yJ0_checkIndex_df160 : MethodName := ⟨RJ0, "checkIndex", "(II)V"⟩
def RJ1 : String := "java/lang/StringLatin1"
abbrev cJ1_charAt_3b067 : ByteArray := prog_14_method_2_code
def yJ1_charAt_3b067 : MethodName := ⟨RJ1, "charAt", "([BI)C"⟩
def RJ2 : String := "java/lang/StringUTF16"
abbrev cJ2_getChar_3b067 : ByteArray := prog_15_method_5_code
def yJ2_getChar_3b067 : MethodName := ⟨RJ2, "getChar", "([BI)C"⟩
abbrev cJ2_length_9d52b : ByteArray := prog_15_method_6_code
def yJ2_length_9d52b : MethodName := ⟨RJ2, "length", "([B)I"⟩
abbrev cJ2_charAt_3b067 : ByteArray := prog_15_method_83_code
def yJ2_charAt_3b067 : MethodName := ⟨RJ2, "charAt", "([BI)C"⟩
abbrev cJ2_checkIndex_2214a : ByteArray := prog_15_method_91_code
def yJ2_checkIndex_2214a : MethodName := ⟨RJ2, "checkIndex", "(I[B)V"⟩
def RJ10 : String := "java/lang/System"
def RJ7 : String := "java/util/Arrays"
abbrev cJ7_fill_53178 : ByteArray := prog_17_method_103_code
def yJ7_fill_53178 : MethodName := ⟨RJ7, "fill", "([II)V"⟩
def RJ3 : String := "jdk/internal/util/Preconditions"
abbrev cJ3_checkIndex_8e157 : ByteArray := prog_18_method_11_code
def yJ3_checkIndex_8e157 : MethodName := ⟨RJ3, "checkIndex", "(IILjava/util/function/BiFunction;)I"⟩
def RL : String := "QuotedLettersLaw"
abbrev cL_law : ByteArray := code
def yL_law : MethodName := ⟨RL, "law", "([I)Z"⟩
abbrev vwCl : List vw_C := [(RX0, TX0, 5), (RX1, TX1, 10), (RX2, TX2, 8), (RX3, TX3, 10), (RX4, TX4, 2), (RX5, TX5, 7), (RX6, TX6, 7), (RX8, TX8, 10), (RX9, TX9, 36)]
