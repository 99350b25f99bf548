section
-- ===== PART A: goes FIRST, ahead of the names: the tables' words, and 'selects' of the private methods out of them =====
/-- a private method of a class that the tables say can be made, by its rows of tables_1 -/
def lw_okq (q : MethodName × Nat) : Prop := (q.1.cls ≠ "java/lang/invoke/MethodHandle" ∧ q.1.cls ≠ "java/lang/invoke/VarHandle") ∧ Cond.instantiable q.1.cls q.2 ∈ tables_1 ∧ Cond.privateMethod q.1 ∈ tables_1 ∧ Cond.instanceMethod q.1 ∈ tables_1
theorem lw_p0 : lw_okq (⟨"QuotedLetters", "forgetFindings", "()V"⟩, 10) := ⟨⟨by decide +kernel, by decide +kernel⟩, List.mem_of_getElem? (i := 19) (by decide +kernel), List.mem_of_getElem? (i := 323) (by decide +kernel), List.mem_of_getElem? (i := 324) (by decide +kernel)⟩
theorem lw_p1 : lw_okq (⟨"QuotedLetters$Kin", "findParent", "(I)I"⟩, 8) := ⟨⟨by decide +kernel, by decide +kernel⟩, List.mem_of_getElem? (i := 119) (by decide +kernel), List.mem_of_getElem? (i := 397) (by decide +kernel), List.mem_of_getElem? (i := 398) (by decide +kernel)⟩
theorem lw_p2 : lw_okq (⟨"QuotedLetters$Kin", "isFree", "(II)Z"⟩, 8) := ⟨⟨by decide +kernel, by decide +kernel⟩, List.mem_of_getElem? (i := 119) (by decide +kernel), List.mem_of_getElem? (i := 402) (by decide +kernel), List.mem_of_getElem? (i := 403) (by decide +kernel)⟩
theorem lw_p3 : lw_okq (⟨"QuotedLetters$Kin", "leadsTo", "(II)Z"⟩, 8) := ⟨⟨by decide +kernel, by decide +kernel⟩, List.mem_of_getElem? (i := 119) (by decide +kernel), List.mem_of_getElem? (i := 406) (by decide +kernel), List.mem_of_getElem? (i := 407) (by decide +kernel)⟩
theorem lw_p4 : lw_okq (⟨"QuotedLetters$Kin", "isAfter", "(II)Z"⟩, 8) := ⟨⟨by decide +kernel, by decide +kernel⟩, List.mem_of_getElem? (i := 119) (by decide +kernel), List.mem_of_getElem? (i := 410) (by decide +kernel), List.mem_of_getElem? (i := 411) (by decide +kernel)⟩
theorem lw_p5 : lw_okq (⟨"QuotedLetters$Fits", "mostPairs", "(II)I"⟩, 5) := ⟨⟨by decide +kernel, by decide +kernel⟩, List.mem_of_getElem? (i := 94) (by decide +kernel), List.mem_of_getElem? (i := 418) (by decide +kernel), List.mem_of_getElem? (i := 419) (by decide +kernel)⟩
theorem lw_p6 : lw_okq (⟨"QuotedLetters$Kin", "holdLines", "(I)V"⟩, 8) := ⟨⟨by decide +kernel, by decide +kernel⟩, List.mem_of_getElem? (i := 119) (by decide +kernel), List.mem_of_getElem? (i := 444) (by decide +kernel), List.mem_of_getElem? (i := 445) (by decide +kernel)⟩
theorem lw_p7 : lw_okq (⟨"QuotedLetters$Kin", "findHeld", "(II)I"⟩, 8) := ⟨⟨by decide +kernel, by decide +kernel⟩, List.mem_of_getElem? (i := 119) (by decide +kernel), List.mem_of_getElem? (i := 449) (by decide +kernel), List.mem_of_getElem? (i := 450) (by decide +kernel)⟩
theorem lw_p8 : lw_okq (⟨"QuotedLetters", "aboutKin", "(II)I"⟩, 10) := ⟨⟨by decide +kernel, by decide +kernel⟩, List.mem_of_getElem? (i := 19) (by decide +kernel), List.mem_of_getElem? (i := 454) (by decide +kernel), List.mem_of_getElem? (i := 455) (by decide +kernel)⟩
theorem lw_p9 : lw_okq (⟨"QuotedLetters", "countFindings", "(I)I"⟩, 10) := ⟨⟨by decide +kernel, by decide +kernel⟩, List.mem_of_getElem? (i := 19) (by decide +kernel), List.mem_of_getElem? (i := 509) (by decide +kernel), List.mem_of_getElem? (i := 510) (by decide +kernel)⟩
theorem lw_p10 : lw_okq (⟨"QuotedLetters$LostLetters", "hasPiece", "(I)Z"⟩, 10) := ⟨⟨by decide +kernel, by decide +kernel⟩, List.mem_of_getElem? (i := 153) (by decide +kernel), List.mem_of_getElem? (i := 538) (by decide +kernel), List.mem_of_getElem? (i := 539) (by decide +kernel)⟩
theorem lw_p11 : lw_okq (⟨"QuotedLetters$LostLetters", "isOfPiece", "(II)Z"⟩, 10) := ⟨⟨by decide +kernel, by decide +kernel⟩, List.mem_of_getElem? (i := 153) (by decide +kernel), List.mem_of_getElem? (i := 542) (by decide +kernel), List.mem_of_getElem? (i := 543) (by decide +kernel)⟩
theorem lw_p12 : lw_okq (⟨"QuotedLetters$LostLetters", "gather", "(II)I"⟩, 10) := ⟨⟨by decide +kernel, by decide +kernel⟩, List.mem_of_getElem? (i := 153) (by decide +kernel), List.mem_of_getElem? (i := 548) (by decide +kernel), List.mem_of_getElem? (i := 549) (by decide +kernel)⟩
theorem lw_p13 : lw_okq (⟨"QuotedLetters$LostLetters", "shareText", "(II)Z"⟩, 10) := ⟨⟨by decide +kernel, by decide +kernel⟩, List.mem_of_getElem? (i := 153) (by decide +kernel), List.mem_of_getElem? (i := 552) (by decide +kernel), List.mem_of_getElem? (i := 553) (by decide +kernel)⟩
theorem lw_p14 : lw_okq (⟨"QuotedLetters$LostLetters", "pieceHas", "(IJ)Z"⟩, 10) := ⟨⟨by decide +kernel, by decide +kernel⟩, List.mem_of_getElem? (i := 153) (by decide +kernel), List.mem_of_getElem? (i := 556) (by decide +kernel), List.mem_of_getElem? (i := 557) (by decide +kernel)⟩
theorem lw_p15 : lw_okq (⟨"QuotedLetters$Kin", "isQuarrel", "(I)Z"⟩, 8) := ⟨⟨by decide +kernel, by decide +kernel⟩, List.mem_of_getElem? (i := 119) (by decide +kernel), List.mem_of_getElem? (i := 564) (by decide +kernel), List.mem_of_getElem? (i := 565) (by decide +kernel)⟩
def lw_privs_1 : List (MethodName × Nat) := [(⟨"QuotedLetters", "forgetFindings", "()V"⟩, 10), (⟨"QuotedLetters$Kin", "findParent", "(I)I"⟩, 8), (⟨"QuotedLetters$Kin", "isFree", "(II)Z"⟩, 8), (⟨"QuotedLetters$Kin", "leadsTo", "(II)Z"⟩, 8), (⟨"QuotedLetters$Kin", "isAfter", "(II)Z"⟩, 8), (⟨"QuotedLetters$Fits", "mostPairs", "(II)I"⟩, 5), (⟨"QuotedLetters$Kin", "holdLines", "(I)V"⟩, 8), (⟨"QuotedLetters$Kin", "findHeld", "(II)I"⟩, 8), (⟨"QuotedLetters", "aboutKin", "(II)I"⟩, 10), (⟨"QuotedLetters", "countFindings", "(I)I"⟩, 10), (⟨"QuotedLetters$LostLetters", "hasPiece", "(I)Z"⟩, 10), (⟨"QuotedLetters$LostLetters", "isOfPiece", "(II)Z"⟩, 10), (⟨"QuotedLetters$LostLetters", "gather", "(II)I"⟩, 10), (⟨"QuotedLetters$LostLetters", "shareText", "(II)Z"⟩, 10), (⟨"QuotedLetters$LostLetters", "pieceHas", "(IJ)Z"⟩, 10), (⟨"QuotedLetters$Kin", "isQuarrel", "(I)Z"⟩, 8)]
theorem lw_r1 : ∀ q ∈ lw_privs_1, lw_okq q := List.forall_mem_cons.mpr ⟨lw_p0, List.forall_mem_cons.mpr ⟨lw_p1, List.forall_mem_cons.mpr ⟨lw_p2, List.forall_mem_cons.mpr ⟨lw_p3, List.forall_mem_cons.mpr ⟨lw_p4, List.forall_mem_cons.mpr ⟨lw_p5, List.forall_mem_cons.mpr ⟨lw_p6, List.forall_mem_cons.mpr ⟨lw_p7, List.forall_mem_cons.mpr ⟨lw_p8, List.forall_mem_cons.mpr ⟨lw_p9, List.forall_mem_cons.mpr ⟨lw_p10, List.forall_mem_cons.mpr ⟨lw_p11, List.forall_mem_cons.mpr ⟨lw_p12, List.forall_mem_cons.mpr ⟨lw_p13, List.forall_mem_cons.mpr ⟨lw_p14, List.forall_mem_cons.mpr ⟨lw_p15, fun _ h => absurd h List.not_mem_nil⟩⟩⟩⟩⟩⟩⟩⟩⟩⟩⟩⟩⟩⟩⟩⟩
theorem lw_p16 : lw_okq (⟨"QuotedLetters$LostLetters", "makeRow", "(I)V"⟩, 10) := ⟨⟨by decide +kernel, by decide +kernel⟩, List.mem_of_getElem? (i := 153) (by decide +kernel), List.mem_of_getElem? (i := 602) (by decide +kernel), List.mem_of_getElem? (i := 603) (by decide +kernel)⟩
theorem lw_p17 : lw_okq (⟨"QuotedLetters$LostLetters", "handOverPiece", "(I)V"⟩, 10) := ⟨⟨by decide +kernel, by decide +kernel⟩, List.mem_of_getElem? (i := 153) (by decide +kernel), List.mem_of_getElem? (i := 610) (by decide +kernel), List.mem_of_getElem? (i := 611) (by decide +kernel)⟩
theorem lw_p18 : lw_okq (⟨"QuotedLetters$RowFinder", "goOn", "(II)I"⟩, 7) := ⟨⟨by decide +kernel, by decide +kernel⟩, List.mem_of_getElem? (i := 159) (by decide +kernel), List.mem_of_getElem? (i := 626) (by decide +kernel), List.mem_of_getElem? (i := 627) (by decide +kernel)⟩
theorem lw_p19 : lw_okq (⟨"QuotedLetters$RowFinder", "leastHeadAbove", "(J)J"⟩, 7) := ⟨⟨by decide +kernel, by decide +kernel⟩, List.mem_of_getElem? (i := 159) (by decide +kernel), List.mem_of_getElem? (i := 634) (by decide +kernel), List.mem_of_getElem? (i := 635) (by decide +kernel)⟩
theorem lw_p20 : lw_okq (⟨"QuotedLetters$RowFinder", "stepBy", "(J)I"⟩, 7) := ⟨⟨by decide +kernel, by decide +kernel⟩, List.mem_of_getElem? (i := 159) (by decide +kernel), List.mem_of_getElem? (i := 638) (by decide +kernel), List.mem_of_getElem? (i := 639) (by decide +kernel)⟩
theorem lw_p21 : lw_okq (⟨"QuotedLetters$RowFinder", "writeRow", "(I)V"⟩, 7) := ⟨⟨by decide +kernel, by decide +kernel⟩, List.mem_of_getElem? (i := 159) (by decide +kernel), List.mem_of_getElem? (i := 643) (by decide +kernel), List.mem_of_getElem? (i := 644) (by decide +kernel)⟩
theorem lw_p22 : lw_okq (⟨"QuotedLetters$RowFinder", "textOfStep", "(II)J"⟩, 7) := ⟨⟨by decide +kernel, by decide +kernel⟩, List.mem_of_getElem? (i := 159) (by decide +kernel), List.mem_of_getElem? (i := 647) (by decide +kernel), List.mem_of_getElem? (i := 648) (by decide +kernel)⟩
theorem lw_p23 : lw_okq (⟨"QuotedLetters$RowFinder", "wipe", "()V"⟩, 7) := ⟨⟨by decide +kernel, by decide +kernel⟩, List.mem_of_getElem? (i := 159) (by decide +kernel), List.mem_of_getElem? (i := 651) (by decide +kernel), List.mem_of_getElem? (i := 652) (by decide +kernel)⟩
theorem lw_p24 : lw_okq (⟨"QuotedLetters$Kin", "nextToWrite", "(J)I"⟩, 8) := ⟨⟨by decide +kernel, by decide +kernel⟩, List.mem_of_getElem? (i := 119) (by decide +kernel), List.mem_of_getElem? (i := 671) (by decide +kernel), List.mem_of_getElem? (i := 672) (by decide +kernel)⟩
theorem lw_p25 : lw_okq (⟨"QuotedLetters$Pattern", "standsAt", "(JI)Z"⟩, 2) := ⟨⟨by decide +kernel, by decide +kernel⟩, List.mem_of_getElem? (i := 225) (by decide +kernel), List.mem_of_getElem? (i := 721) (by decide +kernel), List.mem_of_getElem? (i := 722) (by decide +kernel)⟩
theorem lw_p26 : lw_okq (⟨"QuotedLetters$RuleText", "skipBlanks", "()V"⟩, 7) := ⟨⟨by decide +kernel, by decide +kernel⟩, List.mem_of_getElem? (i := 239) (by decide +kernel), List.mem_of_getElem? (i := 752) (by decide +kernel), List.mem_of_getElem? (i := 753) (by decide +kernel)⟩
theorem lw_p27 : lw_okq (⟨"QuotedLetters$RuleText", "readClause", "()Z"⟩, 7) := ⟨⟨by decide +kernel, by decide +kernel⟩, List.mem_of_getElem? (i := 239) (by decide +kernel), List.mem_of_getElem? (i := 756) (by decide +kernel), List.mem_of_getElem? (i := 757) (by decide +kernel)⟩
theorem lw_p28 : lw_okq (⟨"QuotedLetters$RuleText", "endOfWord", "()I"⟩, 7) := ⟨⟨by decide +kernel, by decide +kernel⟩, List.mem_of_getElem? (i := 239) (by decide +kernel), List.mem_of_getElem? (i := 760) (by decide +kernel), List.mem_of_getElem? (i := 761) (by decide +kernel)⟩
theorem lw_p29 : lw_okq (⟨"QuotedLetters$RuleText", "kindOf", "(II)I"⟩, 7) := ⟨⟨by decide +kernel, by decide +kernel⟩, List.mem_of_getElem? (i := 239) (by decide +kernel), List.mem_of_getElem? (i := 764) (by decide +kernel), List.mem_of_getElem? (i := 765) (by decide +kernel)⟩
theorem lw_p30 : lw_okq (⟨"QuotedLetters$RuleText", "isWord", "(IILjava/lang/String;)Z"⟩, 7) := ⟨⟨by decide +kernel, by decide +kernel⟩, List.mem_of_getElem? (i := 239) (by decide +kernel), List.mem_of_getElem? (i := 776) (by decide +kernel), List.mem_of_getElem? (i := 777) (by decide +kernel)⟩
theorem lw_p31 : lw_okq (⟨"QuotedLetters$RuleText", "blame", "(II)Z"⟩, 7) := ⟨⟨by decide +kernel, by decide +kernel⟩, List.mem_of_getElem? (i := 239) (by decide +kernel), List.mem_of_getElem? (i := 828) (by decide +kernel), List.mem_of_getElem? (i := 829) (by decide +kernel)⟩
def lw_privs_2 : List (MethodName × Nat) := [(⟨"QuotedLetters$LostLetters", "makeRow", "(I)V"⟩, 10), (⟨"QuotedLetters$LostLetters", "handOverPiece", "(I)V"⟩, 10), (⟨"QuotedLetters$RowFinder", "goOn", "(II)I"⟩, 7), (⟨"QuotedLetters$RowFinder", "leastHeadAbove", "(J)J"⟩, 7), (⟨"QuotedLetters$RowFinder", "stepBy", "(J)I"⟩, 7), (⟨"QuotedLetters$RowFinder", "writeRow", "(I)V"⟩, 7), (⟨"QuotedLetters$RowFinder", "textOfStep", "(II)J"⟩, 7), (⟨"QuotedLetters$RowFinder", "wipe", "()V"⟩, 7), (⟨"QuotedLetters$Kin", "nextToWrite", "(J)I"⟩, 8), (⟨"QuotedLetters$Pattern", "standsAt", "(JI)Z"⟩, 2), (⟨"QuotedLetters$RuleText", "skipBlanks", "()V"⟩, 7), (⟨"QuotedLetters$RuleText", "readClause", "()Z"⟩, 7), (⟨"QuotedLetters$RuleText", "endOfWord", "()I"⟩, 7), (⟨"QuotedLetters$RuleText", "kindOf", "(II)I"⟩, 7), (⟨"QuotedLetters$RuleText", "isWord", "(IILjava/lang/String;)Z"⟩, 7), (⟨"QuotedLetters$RuleText", "blame", "(II)Z"⟩, 7)]
theorem lw_r2 : ∀ q ∈ lw_privs_2, lw_okq q := List.forall_mem_cons.mpr ⟨lw_p16, List.forall_mem_cons.mpr ⟨lw_p17, List.forall_mem_cons.mpr ⟨lw_p18, List.forall_mem_cons.mpr ⟨lw_p19, List.forall_mem_cons.mpr ⟨lw_p20, List.forall_mem_cons.mpr ⟨lw_p21, List.forall_mem_cons.mpr ⟨lw_p22, List.forall_mem_cons.mpr ⟨lw_p23, List.forall_mem_cons.mpr ⟨lw_p24, List.forall_mem_cons.mpr ⟨lw_p25, List.forall_mem_cons.mpr ⟨lw_p26, List.forall_mem_cons.mpr ⟨lw_p27, List.forall_mem_cons.mpr ⟨lw_p28, List.forall_mem_cons.mpr ⟨lw_p29, List.forall_mem_cons.mpr ⟨lw_p30, List.forall_mem_cons.mpr ⟨lw_p31, fun _ h => absurd h List.not_mem_nil⟩⟩⟩⟩⟩⟩⟩⟩⟩⟩⟩⟩⟩⟩⟩⟩
theorem lw_p32 : lw_okq (⟨"QuotedLetters$RuleText", "readYes", "()Z"⟩, 7) := ⟨⟨by decide +kernel, by decide +kernel⟩, List.mem_of_getElem? (i := 239) (by decide +kernel), List.mem_of_getElem? (i := 832) (by decide +kernel), List.mem_of_getElem? (i := 833) (by decide +kernel)⟩
theorem lw_p33 : lw_okq (⟨"QuotedLetters$RuleText", "readNumber", "(I)Z"⟩, 7) := ⟨⟨by decide +kernel, by decide +kernel⟩, List.mem_of_getElem? (i := 239) (by decide +kernel), List.mem_of_getElem? (i := 838) (by decide +kernel), List.mem_of_getElem? (i := 839) (by decide +kernel)⟩
theorem lw_p34 : lw_okq (⟨"QuotedLetters$RuleText", "readSemicolon", "()Z"⟩, 7) := ⟨⟨by decide +kernel, by decide +kernel⟩, List.mem_of_getElem? (i := 239) (by decide +kernel), List.mem_of_getElem? (i := 847) (by decide +kernel), List.mem_of_getElem? (i := 848) (by decide +kernel)⟩
theorem lw_p35 : lw_okq (⟨"QuotedLettersModel", "noLetter", "(I)Z"⟩, 36) := ⟨⟨by decide +kernel, by decide +kernel⟩, List.mem_of_getElem? (i := 864) (by decide +kernel), List.mem_of_getElem? (i := 996) (by decide +kernel), List.mem_of_getElem? (i := 997) (by decide +kernel)⟩
theorem lw_p36 : lw_okq (⟨"QuotedLettersModel", "noLine", "(II)Z"⟩, 36) := ⟨⟨by decide +kernel, by decide +kernel⟩, List.mem_of_getElem? (i := 864) (by decide +kernel), List.mem_of_getElem? (i := 1032) (by decide +kernel), List.mem_of_getElem? (i := 1033) (by decide +kernel)⟩
theorem lw_p37 : lw_okq (⟨"QuotedLettersModel", "differBy", "(II)I"⟩, 36) := ⟨⟨by decide +kernel, by decide +kernel⟩, List.mem_of_getElem? (i := 864) (by decide +kernel), List.mem_of_getElem? (i := 1036) (by decide +kernel), List.mem_of_getElem? (i := 1037) (by decide +kernel)⟩
theorem lw_p38 : lw_okq (⟨"QuotedLettersModel", "isSeen", "(I)Z"⟩, 36) := ⟨⟨by decide +kernel, by decide +kernel⟩, List.mem_of_getElem? (i := 864) (by decide +kernel), List.mem_of_getElem? (i := 1044) (by decide +kernel), List.mem_of_getElem? (i := 1045) (by decide +kernel)⟩
theorem lw_p39 : lw_okq (⟨"QuotedLettersModel", "fitOf", "(II)I"⟩, 36) := ⟨⟨by decide +kernel, by decide +kernel⟩, List.mem_of_getElem? (i := 864) (by decide +kernel), List.mem_of_getElem? (i := 1048) (by decide +kernel), List.mem_of_getElem? (i := 1049) (by decide +kernel)⟩
theorem lw_p40 : lw_okq (⟨"QuotedLettersModel", "isLike", "(II)Z"⟩, 36) := ⟨⟨by decide +kernel, by decide +kernel⟩, List.mem_of_getElem? (i := 864) (by decide +kernel), List.mem_of_getElem? (i := 1052) (by decide +kernel), List.mem_of_getElem? (i := 1053) (by decide +kernel)⟩
theorem lw_p41 : lw_okq (⟨"QuotedLettersModel", "quoted", "(I)I"⟩, 36) := ⟨⟨by decide +kernel, by decide +kernel⟩, List.mem_of_getElem? (i := 864) (by decide +kernel), List.mem_of_getElem? (i := 1061) (by decide +kernel), List.mem_of_getElem? (i := 1062) (by decide +kernel)⟩
theorem lw_p42 : lw_okq (⟨"QuotedLettersModel", "findParents", "()V"⟩, 36) := ⟨⟨by decide +kernel, by decide +kernel⟩, List.mem_of_getElem? (i := 864) (by decide +kernel), List.mem_of_getElem? (i := 1065) (by decide +kernel), List.mem_of_getElem? (i := 1066) (by decide +kernel)⟩
theorem lw_p43 : lw_okq (⟨"QuotedLettersModel", "comesTo", "(II)Z"⟩, 36) := ⟨⟨by decide +kernel, by decide +kernel⟩, List.mem_of_getElem? (i := 864) (by decide +kernel), List.mem_of_getElem? (i := 1069) (by decide +kernel), List.mem_of_getElem? (i := 1070) (by decide +kernel)⟩
theorem lw_p44 : lw_okq (⟨"QuotedLettersModel", "fitting", "(I)I"⟩, 36) := ⟨⟨by decide +kernel, by decide +kernel⟩, List.mem_of_getElem? (i := 864) (by decide +kernel), List.mem_of_getElem? (i := 1073) (by decide +kernel), List.mem_of_getElem? (i := 1074) (by decide +kernel)⟩
theorem lw_p45 : lw_okq (⟨"QuotedLettersModel", "rootOf", "(I)I"⟩, 36) := ⟨⟨by decide +kernel, by decide +kernel⟩, List.mem_of_getElem? (i := 864) (by decide +kernel), List.mem_of_getElem? (i := 1077) (by decide +kernel), List.mem_of_getElem? (i := 1078) (by decide +kernel)⟩
theorem lw_p46 : lw_okq (⟨"QuotedLettersModel", "stepsOf", "(I)I"⟩, 36) := ⟨⟨by decide +kernel, by decide +kernel⟩, List.mem_of_getElem? (i := 864) (by decide +kernel), List.mem_of_getElem? (i := 1081) (by decide +kernel), List.mem_of_getElem? (i := 1082) (by decide +kernel)⟩
theorem lw_p47 : lw_okq (⟨"QuotedLettersModel", "originOf", "(I)I"⟩, 36) := ⟨⟨by decide +kernel, by decide +kernel⟩, List.mem_of_getElem? (i := 864) (by decide +kernel), List.mem_of_getElem? (i := 1094) (by decide +kernel), List.mem_of_getElem? (i := 1095) (by decide +kernel)⟩
def lw_privs_3 : List (MethodName × Nat) := [(⟨"QuotedLetters$RuleText", "readYes", "()Z"⟩, 7), (⟨"QuotedLetters$RuleText", "readNumber", "(I)Z"⟩, 7), (⟨"QuotedLetters$RuleText", "readSemicolon", "()Z"⟩, 7), (⟨"QuotedLettersModel", "noLetter", "(I)Z"⟩, 36), (⟨"QuotedLettersModel", "noLine", "(II)Z"⟩, 36), (⟨"QuotedLettersModel", "differBy", "(II)I"⟩, 36), (⟨"QuotedLettersModel", "isSeen", "(I)Z"⟩, 36), (⟨"QuotedLettersModel", "fitOf", "(II)I"⟩, 36), (⟨"QuotedLettersModel", "isLike", "(II)Z"⟩, 36), (⟨"QuotedLettersModel", "quoted", "(I)I"⟩, 36), (⟨"QuotedLettersModel", "findParents", "()V"⟩, 36), (⟨"QuotedLettersModel", "comesTo", "(II)Z"⟩, 36), (⟨"QuotedLettersModel", "fitting", "(I)I"⟩, 36), (⟨"QuotedLettersModel", "rootOf", "(I)I"⟩, 36), (⟨"QuotedLettersModel", "stepsOf", "(I)I"⟩, 36), (⟨"QuotedLettersModel", "originOf", "(I)I"⟩, 36)]
theorem lw_r3 : ∀ q ∈ lw_privs_3, lw_okq q := List.forall_mem_cons.mpr ⟨lw_p32, List.forall_mem_cons.mpr ⟨lw_p33, List.forall_mem_cons.mpr ⟨lw_p34, List.forall_mem_cons.mpr ⟨lw_p35, List.forall_mem_cons.mpr ⟨lw_p36, List.forall_mem_cons.mpr ⟨lw_p37, List.forall_mem_cons.mpr ⟨lw_p38, List.forall_mem_cons.mpr ⟨lw_p39, List.forall_mem_cons.mpr ⟨lw_p40, List.forall_mem_cons.mpr ⟨lw_p41, List.forall_mem_cons.mpr ⟨lw_p42, List.forall_mem_cons.mpr ⟨lw_p43, List.forall_mem_cons.mpr ⟨lw_p44, List.forall_mem_cons.mpr ⟨lw_p45, List.forall_mem_cons.mpr ⟨lw_p46, List.forall_mem_cons.mpr ⟨lw_p47, fun _ h => absurd h List.not_mem_nil⟩⟩⟩⟩⟩⟩⟩⟩⟩⟩⟩⟩⟩⟩⟩⟩
theorem lw_p48 : lw_okq (⟨"QuotedLettersModel", "heldTo", "(I)I"⟩, 36) := ⟨⟨by decide +kernel, by decide +kernel⟩, List.mem_of_getElem? (i := 864) (by decide +kernel), List.mem_of_getElem? (i := 1098) (by decide +kernel), List.mem_of_getElem? (i := 1099) (by decide +kernel)⟩
theorem lw_p49 : lw_okq (⟨"QuotedLettersModel", "isSame", "(II)Z"⟩, 36) := ⟨⟨by decide +kernel, by decide +kernel⟩, List.mem_of_getElem? (i := 864) (by decide +kernel), List.mem_of_getElem? (i := 1102) (by decide +kernel), List.mem_of_getElem? (i := 1103) (by decide +kernel)⟩
theorem lw_p50 : lw_okq (⟨"QuotedLettersModel", "isAltered", "(I)Z"⟩, 36) := ⟨⟨by decide +kernel, by decide +kernel⟩, List.mem_of_getElem? (i := 864) (by decide +kernel), List.mem_of_getElem? (i := 1110) (by decide +kernel), List.mem_of_getElem? (i := 1111) (by decide +kernel)⟩
theorem lw_p51 : lw_okq (⟨"QuotedLettersModel", "findGroups", "()V"⟩, 36) := ⟨⟨by decide +kernel, by decide +kernel⟩, List.mem_of_getElem? (i := 864) (by decide +kernel), List.mem_of_getElem? (i := 1122) (by decide +kernel), List.mem_of_getElem? (i := 1123) (by decide +kernel)⟩
theorem lw_p52 : lw_okq (⟨"QuotedLettersModel", "hasPiece", "(I)Z"⟩, 36) := ⟨⟨by decide +kernel, by decide +kernel⟩, List.mem_of_getElem? (i := 864) (by decide +kernel), List.mem_of_getElem? (i := 1126) (by decide +kernel), List.mem_of_getElem? (i := 1127) (by decide +kernel)⟩
theorem lw_p53 : lw_okq (⟨"QuotedLettersModel", "isPiece", "(I)Z"⟩, 36) := ⟨⟨by decide +kernel, by decide +kernel⟩, List.mem_of_getElem? (i := 864) (by decide +kernel), List.mem_of_getElem? (i := 1130) (by decide +kernel), List.mem_of_getElem? (i := 1131) (by decide +kernel)⟩
theorem lw_p54 : lw_okq (⟨"QuotedLettersModel", "haveCommon", "(II)Z"⟩, 36) := ⟨⟨by decide +kernel, by decide +kernel⟩, List.mem_of_getElem? (i := 864) (by decide +kernel), List.mem_of_getElem? (i := 1134) (by decide +kernel), List.mem_of_getElem? (i := 1135) (by decide +kernel)⟩
theorem lw_p55 : lw_okq (⟨"QuotedLettersModel", "findPieces", "(I)V"⟩, 36) := ⟨⟨by decide +kernel, by decide +kernel⟩, List.mem_of_getElem? (i := 864) (by decide +kernel), List.mem_of_getElem? (i := 1142) (by decide +kernel), List.mem_of_getElem? (i := 1143) (by decide +kernel)⟩
theorem lw_p56 : lw_okq (⟨"QuotedLettersModel", "findRow", "()V"⟩, 36) := ⟨⟨by decide +kernel, by decide +kernel⟩, List.mem_of_getElem? (i := 864) (by decide +kernel), List.mem_of_getElem? (i := 1146) (by decide +kernel), List.mem_of_getElem? (i := 1147) (by decide +kernel)⟩
theorem lw_p57 : lw_okq (⟨"QuotedLettersModel", "isWithin", "(I)Z"⟩, 36) := ⟨⟨by decide +kernel, by decide +kernel⟩, List.mem_of_getElem? (i := 864) (by decide +kernel), List.mem_of_getElem? (i := 1150) (by decide +kernel), List.mem_of_getElem? (i := 1151) (by decide +kernel)⟩
theorem lw_p58 : lw_okq (⟨"QuotedLettersModel", "textAt", "(II)I"⟩, 36) := ⟨⟨by decide +kernel, by decide +kernel⟩, List.mem_of_getElem? (i := 864) (by decide +kernel), List.mem_of_getElem? (i := 1154) (by decide +kernel), List.mem_of_getElem? (i := 1155) (by decide +kernel)⟩
theorem lw_p59 : lw_okq (⟨"QuotedLettersModel", "behind", "(II)I"⟩, 36) := ⟨⟨by decide +kernel, by decide +kernel⟩, List.mem_of_getElem? (i := 864) (by decide +kernel), List.mem_of_getElem? (i := 1158) (by decide +kernel), List.mem_of_getElem? (i := 1159) (by decide +kernel)⟩
theorem lw_p60 : lw_okq (⟨"QuotedLettersModel", "isLess", "(II)Z"⟩, 36) := ⟨⟨by decide +kernel, by decide +kernel⟩, List.mem_of_getElem? (i := 864) (by decide +kernel), List.mem_of_getElem? (i := 1165) (by decide +kernel), List.mem_of_getElem? (i := 1166) (by decide +kernel)⟩
theorem lw_p61 : lw_okq (⟨"QuotedLettersModel", "quarrels", "(I)Z"⟩, 36) := ⟨⟨by decide +kernel, by decide +kernel⟩, List.mem_of_getElem? (i := 864) (by decide +kernel), List.mem_of_getElem? (i := 1181) (by decide +kernel), List.mem_of_getElem? (i := 1182) (by decide +kernel)⟩
theorem lw_p62 : lw_okq (⟨"QuotedLettersModel", "hasSigns", "(I)Z"⟩, 36) := ⟨⟨by decide +kernel, by decide +kernel⟩, List.mem_of_getElem? (i := 864) (by decide +kernel), List.mem_of_getElem? (i := 1201) (by decide +kernel), List.mem_of_getElem? (i := 1202) (by decide +kernel)⟩
theorem lw_p63 : lw_okq (⟨"QuotedLettersModel", "look", "()I"⟩, 36) := ⟨⟨by decide +kernel, by decide +kernel⟩, List.mem_of_getElem? (i := 864) (by decide +kernel), List.mem_of_getElem? (i := 1224) (by decide +kernel), List.mem_of_getElem? (i := 1225) (by decide +kernel)⟩
def lw_privs_4 : List (MethodName × Nat) := [(⟨"QuotedLettersModel", "heldTo", "(I)I"⟩, 36), (⟨"QuotedLettersModel", "isSame", "(II)Z"⟩, 36), (⟨"QuotedLettersModel", "isAltered", "(I)Z"⟩, 36), (⟨"QuotedLettersModel", "findGroups", "()V"⟩, 36), (⟨"QuotedLettersModel", "hasPiece", "(I)Z"⟩, 36), (⟨"QuotedLettersModel", "isPiece", "(I)Z"⟩, 36), (⟨"QuotedLettersModel", "haveCommon", "(II)Z"⟩, 36), (⟨"QuotedLettersModel", "findPieces", "(I)V"⟩, 36), (⟨"QuotedLettersModel", "findRow", "()V"⟩, 36), (⟨"QuotedLettersModel", "isWithin", "(I)Z"⟩, 36), (⟨"QuotedLettersModel", "textAt", "(II)I"⟩, 36), (⟨"QuotedLettersModel", "behind", "(II)I"⟩, 36), (⟨"QuotedLettersModel", "isLess", "(II)Z"⟩, 36), (⟨"QuotedLettersModel", "quarrels", "(I)Z"⟩, 36), (⟨"QuotedLettersModel", "hasSigns", "(I)Z"⟩, 36), (⟨"QuotedLettersModel", "look", "()I"⟩, 36)]
theorem lw_r4 : ∀ q ∈ lw_privs_4, lw_okq q := List.forall_mem_cons.mpr ⟨lw_p48, List.forall_mem_cons.mpr ⟨lw_p49, List.forall_mem_cons.mpr ⟨lw_p50, List.forall_mem_cons.mpr ⟨lw_p51, List.forall_mem_cons.mpr ⟨lw_p52, List.forall_mem_cons.mpr ⟨lw_p53, List.forall_mem_cons.mpr ⟨lw_p54, List.forall_mem_cons.mpr ⟨lw_p55, List.forall_mem_cons.mpr ⟨lw_p56, List.forall_mem_cons.mpr ⟨lw_p57, List.forall_mem_cons.mpr ⟨lw_p58, List.forall_mem_cons.mpr ⟨lw_p59, List.forall_mem_cons.mpr ⟨lw_p60, List.forall_mem_cons.mpr ⟨lw_p61, List.forall_mem_cons.mpr ⟨lw_p62, List.forall_mem_cons.mpr ⟨lw_p63, fun _ h => absurd h List.not_mem_nil⟩⟩⟩⟩⟩⟩⟩⟩⟩⟩⟩⟩⟩⟩⟩⟩
theorem lw_p64 : lw_okq (⟨"QuotedLettersModel", "takeWord", "()V"⟩, 36) := ⟨⟨by decide +kernel, by decide +kernel⟩, List.mem_of_getElem? (i := 864) (by decide +kernel), List.mem_of_getElem? (i := 1228) (by decide +kernel), List.mem_of_getElem? (i := 1229) (by decide +kernel)⟩
theorem lw_p65 : lw_okq (⟨"QuotedLettersModel", "kindOf", "()I"⟩, 36) := ⟨⟨by decide +kernel, by decide +kernel⟩, List.mem_of_getElem? (i := 864) (by decide +kernel), List.mem_of_getElem? (i := 1234) (by decide +kernel), List.mem_of_getElem? (i := 1235) (by decide +kernel)⟩
theorem lw_p66 : lw_okq (⟨"QuotedLettersModel", "isWord", "(IIIIII)Z"⟩, 36) := ⟨⟨by decide +kernel, by decide +kernel⟩, List.mem_of_getElem? (i := 864) (by decide +kernel), List.mem_of_getElem? (i := 1238) (by decide +kernel), List.mem_of_getElem? (i := 1239) (by decide +kernel)⟩
theorem lw_p67 : lw_okq (⟨"QuotedLettersModel", "want", "(ZII)Z"⟩, 36) := ⟨⟨by decide +kernel, by decide +kernel⟩, List.mem_of_getElem? (i := 864) (by decide +kernel), List.mem_of_getElem? (i := 1242) (by decide +kernel), List.mem_of_getElem? (i := 1243) (by decide +kernel)⟩
theorem lw_p68 : lw_okq (⟨"QuotedLettersModel", "readClause", "(I)V"⟩, 36) := ⟨⟨by decide +kernel, by decide +kernel⟩, List.mem_of_getElem? (i := 864) (by decide +kernel), List.mem_of_getElem? (i := 1246) (by decide +kernel), List.mem_of_getElem? (i := 1247) (by decide +kernel)⟩
theorem lw_p69 : lw_okq (⟨"QuotedLettersModel", "takeNumber", "(I)I"⟩, 36) := ⟨⟨by decide +kernel, by decide +kernel⟩, List.mem_of_getElem? (i := 864) (by decide +kernel), List.mem_of_getElem? (i := 1250) (by decide +kernel), List.mem_of_getElem? (i := 1251) (by decide +kernel)⟩
def lw_privs_5 : List (MethodName × Nat) := [(⟨"QuotedLettersModel", "takeWord", "()V"⟩, 36), (⟨"QuotedLettersModel", "kindOf", "()I"⟩, 36), (⟨"QuotedLettersModel", "isWord", "(IIIIII)Z"⟩, 36), (⟨"QuotedLettersModel", "want", "(ZII)Z"⟩, 36), (⟨"QuotedLettersModel", "readClause", "(I)V"⟩, 36), (⟨"QuotedLettersModel", "takeNumber", "(I)I"⟩, 36)]
theorem lw_r5 : ∀ q ∈ lw_privs_5, lw_okq q := List.forall_mem_cons.mpr ⟨lw_p64, List.forall_mem_cons.mpr ⟨lw_p65, List.forall_mem_cons.mpr ⟨lw_p66, List.forall_mem_cons.mpr ⟨lw_p67, List.forall_mem_cons.mpr ⟨lw_p68, List.forall_mem_cons.mpr ⟨lw_p69, fun _ h => absurd h List.not_mem_nil⟩⟩⟩⟩⟩⟩
def lw_privs : List (MethodName × Nat) := lw_privs_1 ++ (lw_privs_2 ++ (lw_privs_3 ++ (lw_privs_4 ++ (lw_privs_5))))
def lw_tbl : List Cond := k2_sels lw_privs ++ tables_1
theorem lw_privs_ok : ∀ q ∈ lw_privs, lw_okq q := by
  show ∀ q ∈ lw_privs_1 ++ (lw_privs_2 ++ (lw_privs_3 ++ (lw_privs_4 ++ (lw_privs_5)))), lw_okq q
  exact List.forall_mem_append.mpr ⟨lw_r1, List.forall_mem_append.mpr ⟨lw_r2, List.forall_mem_append.mpr ⟨lw_r3, List.forall_mem_append.mpr ⟨lw_r4, lw_r5⟩⟩⟩⟩
def RX0 : String := "QuotedLetters$Fits"
def TX0 : u_T := fun k => match k with
  | 0 => ("QuotedLetters$Fits", "heap", "LQuotedLetters$Heap;", true)
  | 1 => ("QuotedLetters$Fits", "rules", "[I", true)
  | 2 => ("QuotedLetters$Fits", "measured", "[I", true)
  | 3 => ("QuotedLetters$Fits", "pairs", "[I", true)
  | _ => ("QuotedLetters$Fits", "changes", "[I", true)
def tyX0 : Nat → FieldType := fun k => match k with
  | 0 => .object "QuotedLetters$Heap"
  | 1 => .array .int
  | 2 => .array .int
  | 3 => .array .int
  | _ => .array .int
theorem nmX0 : ∀ a, a < 5 → ∀ b, b < 5 → a ≠ b → (TX0 a).2.1 ≠ (TX0 b).2.1 := by decide +kernel
theorem tyX0_ok : ∀ k, k < 5 → parseFieldDescriptor (TX0 k).2.2.1 = some (tyX0 k) := by decide +kernel
abbrev cX0_init : ByteArray := prog_2_method_1_code
def yX0_init : MethodName := ⟨RX0, "<init>", "(LQuotedLetters$Heap;[I)V"⟩
abbrev cX0_forgetAll : ByteArray := prog_2_method_2_code
def yX0_forgetAll : MethodName := ⟨RX0, "forgetAll", "()V"⟩
abbrev cX0_forgetLetter : ByteArray := prog_2_method_3_code
def yX0_forgetLetter : MethodName := ⟨RX0, "forgetLetter", "(I)V"⟩
abbrev cX0_of : ByteArray := prog_2_method_4_code
def yX0_of : MethodName := ⟨RX0, "of", "(II)I"⟩
abbrev cX0_mostPairs : ByteArray := prog_2_method_5_code
def yX0_mostPairs : MethodName := ⟨RX0, "mostPairs", "(II)I"⟩
abbrev cX0_isLike : ByteArray := prog_2_method_6_code
def yX0_isLike : MethodName := ⟨RX0, "isLike", "(II)Z"⟩
abbrev cX0_distance : ByteArray := prog_2_method_7_code
def yX0_distance : MethodName := ⟨RX0, "distance", "(JJ)I"⟩
def RX1 : String := "QuotedLetters$Heap"
def TX1 : u_T := fun k => match k with
  | 0 => ("QuotedLetters$Heap", "writer", "[I", true)
  | 1 => ("QuotedLetters$Heap", "day", "[I", true)
  | 2 => ("QuotedLetters$Heap", "names", "[I", true)
  | 3 => ("QuotedLetters$Heap", "lines", "[I", true)
  | 4 => ("QuotedLetters$Heap", "quoted", "[I", true)
  | 5 => ("QuotedLetters$Heap", "depth", "[I", true)
  | 6 => ("QuotedLetters$Heap", "text", "[J", true)
  | 7 => ("QuotedLetters$Heap", "letters", "I", false)
  | 8 => ("QuotedLetters$Heap", "limit", "I", false)
  | _ => ("QuotedLetters$Heap", "taken", "J", false)
def tyX1 : Nat → FieldType := fun k => match k with
  | 0 => .array .int
  | 1 => .array .int
  | 2 => .array .int
  | 3 => .array .int
  | 4 => .array .int
  | 5 => .array .int
  | 6 => .array .long
  | 7 => .int
  | 8 => .int
  | _ => .long
theorem nmX1 : ∀ a, a < 10 → ∀ b, b < 10 → a ≠ b → (TX1 a).2.1 ≠ (TX1 b).2.1 := by decide +kernel
theorem tyX1_ok : ∀ k, k < 10 → parseFieldDescriptor (TX1 k).2.2.1 = some (tyX1 k) := by decide +kernel
abbrev cX1_init : ByteArray := prog_3_method_1_code
def yX1_init : MethodName := ⟨RX1, "<init>", "()V"⟩
abbrev cX1_has : ByteArray := prog_3_method_2_code
def yX1_has : MethodName := ⟨RX1, "has", "(I)Z"⟩
abbrev cX1_hasLine : ByteArray := prog_3_method_3_code
def yX1_hasLine : MethodName := ⟨RX1, "hasLine", "(II)Z"⟩
abbrev cX1_isTaken : ByteArray := prog_3_method_4_code
def yX1_isTaken : MethodName := ⟨RX1, "isTaken", "(I)Z"⟩
abbrev cX1_turnTaken : ByteArray := prog_3_method_5_code
def yX1_turnTaken : MethodName := ⟨RX1, "turnTaken", "(I)V"⟩
abbrev cX1_isSeen : ByteArray := prog_3_method_6_code
def yX1_isSeen : MethodName := ⟨RX1, "isSeen", "(I)Z"⟩
abbrev cX1_isSeenWith : ByteArray := prog_3_method_7_code
def yX1_isSeenWith : MethodName := ⟨RX1, "isSeenWith", "(II)Z"⟩
abbrev cX1_seenLetters : ByteArray := prog_3_method_8_code
def yX1_seenLetters : MethodName := ⟨RX1, "seenLetters", "()I"⟩
abbrev cX1_addLetter : ByteArray := prog_3_method_9_code
def yX1_addLetter : MethodName := ⟨RX1, "addLetter", "(III)I"⟩
abbrev cX1_addLine : ByteArray := prog_3_method_10_code
def yX1_addLine : MethodName := ⟨RX1, "addLine", "(IIJ)I"⟩
abbrev cX1_quoteInto : ByteArray := prog_3_method_11_code
def yX1_quoteInto : MethodName := ⟨RX1, "quoteInto", "(IIII)V"⟩
def RX2 : String := "QuotedLetters$Kin"
def TX2 : u_T := fun k => match k with
  | 0 => ("QuotedLetters$Kin", "heap", "LQuotedLetters$Heap;", true)
  | 1 => ("QuotedLetters$Kin", "fits", "LQuotedLetters$Fits;", true)
  | 2 => ("QuotedLetters$Kin", "rules", "[I", true)
  | 3 => ("QuotedLetters$Kin", "parent", "[I", true)
  | 4 => ("QuotedLetters$Kin", "held", "[I", true)
  | 5 => ("QuotedLetters$Kin", "fresh", "Z", false)
  | 6 => ("QuotedLetters$Kin", "builtWith", "I", false)
  | _ => ("QuotedLetters$Kin", "seen", "J", false)
def tyX2 : Nat → FieldType := fun k => match k with
  | 0 => .object "QuotedLetters$Heap"
  | 1 => .object "QuotedLetters$Fits"
  | 2 => .array .int
  | 3 => .array .int
  | 4 => .array .int
  | 5 => .boolean
  | 6 => .int
  | _ => .long
theorem nmX2 : ∀ a, a < 8 → ∀ b, b < 8 → a ≠ b → (TX2 a).2.1 ≠ (TX2 b).2.1 := by decide +kernel
theorem tyX2_ok : ∀ k, k < 8 → parseFieldDescriptor (TX2 k).2.2.1 = some (tyX2 k) := by decide +kernel
abbrev cX2_init : ByteArray := prog_4_method_1_code
def yX2_init : MethodName := ⟨RX2, "<init>", "(LQuotedLetters$Heap;LQuotedLetters$Fits;[I)V"⟩
abbrev cX2_refresh : ByteArray := prog_4_method_2_code
def yX2_refresh : MethodName := ⟨RX2, "refresh", "(I)V"⟩
abbrev cX2_isSeen : ByteArray := prog_4_method_3_code
def yX2_isSeen : MethodName := ⟨RX2, "isSeen", "(I)Z"⟩
abbrev cX2_findParent : ByteArray := prog_4_method_4_code
def yX2_findParent : MethodName := ⟨RX2, "findParent", "(I)I"⟩
abbrev cX2_isFree : ByteArray := prog_4_method_5_code
def yX2_isFree : MethodName := ⟨RX2, "isFree", "(II)Z"⟩
abbrev cX2_isAfter : ByteArray := prog_4_method_6_code
def yX2_isAfter : MethodName := ⟨RX2, "isAfter", "(II)Z"⟩
abbrev cX2_leadsTo : ByteArray := prog_4_method_7_code
def yX2_leadsTo : MethodName := ⟨RX2, "leadsTo", "(II)Z"⟩
abbrev cX2_holdLines : ByteArray := prog_4_method_8_code
def yX2_holdLines : MethodName := ⟨RX2, "holdLines", "(I)V"⟩
abbrev cX2_findHeld : ByteArray := prog_4_method_9_code
def yX2_findHeld : MethodName := ⟨RX2, "findHeld", "(II)I"⟩
abbrev cX2_rootOf : ByteArray := prog_4_method_10_code
def yX2_rootOf : MethodName := ⟨RX2, "rootOf", "(I)I"⟩
abbrev cX2_stepsOf : ByteArray := prog_4_method_11_code
def yX2_stepsOf : MethodName := ⟨RX2, "stepsOf", "(I)I"⟩
abbrev cX2_childrenOf : ByteArray := prog_4_method_12_code
def yX2_childrenOf : MethodName := ⟨RX2, "childrenOf", "(I)I"⟩
abbrev cX2_lettersOfThread : ByteArray := prog_4_method_13_code
def yX2_lettersOfThread : MethodName := ⟨RX2, "lettersOfThread", "(I)I"⟩
abbrev cX2_roots : ByteArray := prog_4_method_14_code
def yX2_roots : MethodName := ⟨RX2, "roots", "()I"⟩
abbrev cX2_sourceOf : ByteArray := prog_4_method_15_code
def yX2_sourceOf : MethodName := ⟨RX2, "sourceOf", "(I)I"⟩
abbrev cX2_isAltered : ByteArray := prog_4_method_16_code
def yX2_isAltered : MethodName := ⟨RX2, "isAltered", "(I)Z"⟩
abbrev cX2_alteredLines : ByteArray := prog_4_method_17_code
def yX2_alteredLines : MethodName := ⟨RX2, "alteredLines", "()I"⟩
abbrev cX2_linesFrom : ByteArray := prog_4_method_18_code
def yX2_linesFrom : MethodName := ⟨RX2, "linesFrom", "(I)I"⟩
abbrev cX2_linesQuotedAlike : ByteArray := prog_4_method_19_code
def yX2_linesQuotedAlike : MethodName := ⟨RX2, "linesQuotedAlike", "(I)I"⟩
abbrev cX2_writtenAt : ByteArray := prog_4_method_20_code
def yX2_writtenAt : MethodName := ⟨RX2, "writtenAt", "(I)I"⟩
abbrev cX2_nextToWrite : ByteArray := prog_4_method_21_code
def yX2_nextToWrite : MethodName := ⟨RX2, "nextToWrite", "(J)I"⟩
abbrev cX2_isQuarrel : ByteArray := prog_4_method_22_code
def yX2_isQuarrel : MethodName := ⟨RX2, "isQuarrel", "(I)Z"⟩
abbrev cX2_quarrels : ByteArray := prog_4_method_23_code
def yX2_quarrels : MethodName := ⟨RX2, "quarrels", "()I"⟩
abbrev cX2_quarrelAt : ByteArray := prog_4_method_24_code
def yX2_quarrelAt : MethodName := ⟨RX2, "quarrelAt", "(I)I"⟩
abbrev cX2_greatestDayAbove : ByteArray := prog_4_method_25_code
def yX2_greatestDayAbove : MethodName := ⟨RX2, "greatestDayAbove", "(I)I"⟩
abbrev cX2_leastDayBelow : ByteArray := prog_4_method_26_code
def yX2_leastDayBelow : MethodName := ⟨RX2, "leastDayBelow", "(I)I"⟩
def RX3 : String := "QuotedLetters$LostLetters"
def TX3 : u_T := fun k => match k with
  | 0 => ("QuotedLetters$LostLetters", "heap", "LQuotedLetters$Heap;", true)
  | 1 => ("QuotedLetters$LostLetters", "kin", "LQuotedLetters$Kin;", true)
  | 2 => ("QuotedLetters$LostLetters", "finder", "LQuotedLetters$RowFinder;", true)
  | 3 => ("QuotedLetters$LostLetters", "groupOf", "[I", true)
  | 4 => ("QuotedLetters$LostLetters", "pieces", "[I", true)
  | 5 => ("QuotedLetters$LostLetters", "least", "[I", true)
  | 6 => ("QuotedLetters$LostLetters", "members", "[I", true)
  | 7 => ("QuotedLetters$LostLetters", "groups", "I", false)
  | 8 => ("QuotedLetters$LostLetters", "fresh", "Z", false)
  | _ => ("QuotedLetters$LostLetters", "groupOfRow", "I", false)
def tyX3 : Nat → FieldType := fun k => match k with
  | 0 => .object "QuotedLetters$Heap"
  | 1 => .object "QuotedLetters$Kin"
  | 2 => .object "QuotedLetters$RowFinder"
  | 3 => .array .int
  | 4 => .array .int
  | 5 => .array .int
  | 6 => .array .int
  | 7 => .int
  | 8 => .boolean
  | _ => .int
theorem nmX3 : ∀ a, a < 10 → ∀ b, b < 10 → a ≠ b → (TX3 a).2.1 ≠ (TX3 b).2.1 := by decide +kernel
theorem tyX3_ok : ∀ k, k < 10 → parseFieldDescriptor (TX3 k).2.2.1 = some (tyX3 k) := by decide +kernel
abbrev cX3_init : ByteArray := prog_5_method_1_code
def yX3_init : MethodName := ⟨RX3, "<init>", "(LQuotedLetters$Heap;LQuotedLetters$Kin;)V"⟩
abbrev cX3_has : ByteArray := prog_5_method_2_code
def yX3_has : MethodName := ⟨RX3, "has", "(I)Z"⟩
abbrev cX3_isLarge : ByteArray := prog_5_method_3_code
def yX3_isLarge : MethodName := ⟨RX3, "isLarge", "(I)Z"⟩
abbrev cX3_refresh : ByteArray := prog_5_method_4_code
def yX3_refresh : MethodName := ⟨RX3, "refresh", "()V"⟩
abbrev cX3_gather : ByteArray := prog_5_method_5_code
def yX3_gather : MethodName := ⟨RX3, "gather", "(II)I"⟩
abbrev cX3_isOfPiece : ByteArray := prog_5_method_6_code
def yX3_isOfPiece : MethodName := ⟨RX3, "isOfPiece", "(II)Z"⟩
abbrev cX3_hasPiece : ByteArray := prog_5_method_7_code
def yX3_hasPiece : MethodName := ⟨RX3, "hasPiece", "(I)Z"⟩
abbrev cX3_shareText : ByteArray := prog_5_method_8_code
def yX3_shareText : MethodName := ⟨RX3, "shareText", "(II)Z"⟩
abbrev cX3_pieceHas : ByteArray := prog_5_method_9_code
def yX3_pieceHas : MethodName := ⟨RX3, "pieceHas", "(IJ)Z"⟩
abbrev cX3_rowLength : ByteArray := prog_5_method_10_code
def yX3_rowLength : MethodName := ⟨RX3, "rowLength", "(I)I"⟩
abbrev cX3_rowText : ByteArray := prog_5_method_11_code
def yX3_rowText : MethodName := ⟨RX3, "rowText", "(II)J"⟩
abbrev cX3_makeRow : ByteArray := prog_5_method_12_code
def yX3_makeRow : MethodName := ⟨RX3, "makeRow", "(I)V"⟩
abbrev cX3_handOverPiece : ByteArray := prog_5_method_13_code
def yX3_handOverPiece : MethodName := ⟨RX3, "handOverPiece", "(I)V"⟩
def RX4 : String := "QuotedLetters$Pattern"
def TX4 : u_T := fun k => match k with
  | 0 => ("QuotedLetters$Pattern", "signs", "[I", true)
  | _ => ("QuotedLetters$Pattern", "length", "I", false)
def tyX4 : Nat → FieldType := fun k => match k with
  | 0 => .array .int
  | _ => .int
theorem nmX4 : ∀ a, a < 2 → ∀ b, b < 2 → a ≠ b → (TX4 a).2.1 ≠ (TX4 b).2.1 := by decide +kernel
theorem tyX4_ok : ∀ k, k < 2 → parseFieldDescriptor (TX4 k).2.2.1 = some (tyX4 k) := by decide +kernel
abbrev cX4_init : ByteArray := prog_6_method_1_code
def yX4_init : MethodName := ⟨RX4, "<init>", "()V"⟩
abbrev cX4_addSign : ByteArray := prog_6_method_2_code
def yX4_addSign : MethodName := ⟨RX4, "addSign", "(I)I"⟩
abbrev cX4_standsIn : ByteArray := prog_6_method_3_code
def yX4_standsIn : MethodName := ⟨RX4, "standsIn", "(J)Z"⟩
abbrev cX4_standsAt : ByteArray := prog_6_method_4_code
def yX4_standsAt : MethodName := ⟨RX4, "standsAt", "(JI)Z"⟩
def RX5 : String := "QuotedLetters$RowFinder"
def TX5 : u_T := fun k => match k with
  | 0 => ("QuotedLetters$RowFinder", "texts", "[J", true)
  | 1 => ("QuotedLetters$RowFinder", "lengths", "[I", true)
  | 2 => ("QuotedLetters$RowFinder", "heads", "[J", true)
  | 3 => ("QuotedLetters$RowFinder", "row", "[J", true)
  | 4 => ("QuotedLetters$RowFinder", "rowLength", "I", false)
  | 5 => ("QuotedLetters$RowFinder", "pieces", "I", false)
  | _ => ("QuotedLetters$RowFinder", "cells", "[I", false)
def tyX5 : Nat → FieldType := fun k => match k with
  | 0 => .array .long
  | 1 => .array .int
  | 2 => .array .long
  | 3 => .array .long
  | 4 => .int
  | 5 => .int
  | _ => .array .int
theorem nmX5 : ∀ a, a < 7 → ∀ b, b < 7 → a ≠ b → (TX5 a).2.1 ≠ (TX5 b).2.1 := by decide +kernel
theorem tyX5_ok : ∀ k, k < 7 → parseFieldDescriptor (TX5 k).2.2.1 = some (tyX5 k) := by decide +kernel
abbrev cX5_init : ByteArray := prog_7_method_1_code
def yX5_init : MethodName := ⟨RX5, "<init>", "()V"⟩
abbrev cX5_start : ByteArray := prog_7_method_2_code
def yX5_start : MethodName := ⟨RX5, "start", "()V"⟩
abbrev cX5_addPiece : ByteArray := prog_7_method_3_code
def yX5_addPiece : MethodName := ⟨RX5, "addPiece", "()V"⟩
abbrev cX5_addText : ByteArray := prog_7_method_4_code
def yX5_addText : MethodName := ⟨RX5, "addText", "(J)V"⟩
abbrev cX5_findRow : ByteArray := prog_7_method_5_code
def yX5_findRow : MethodName := ⟨RX5, "findRow", "()V"⟩
abbrev cX5_goOn : ByteArray := prog_7_method_6_code
def yX5_goOn : MethodName := ⟨RX5, "goOn", "(II)I"⟩
abbrev cX5_positionOf : ByteArray := prog_7_method_7_code
def yX5_positionOf : MethodName := ⟨RX5, "positionOf", "(II)I"⟩
abbrev cX5_leastHeadAbove : ByteArray := prog_7_method_8_code
def yX5_leastHeadAbove : MethodName := ⟨RX5, "leastHeadAbove", "(J)J"⟩
abbrev cX5_stepBy : ByteArray := prog_7_method_9_code
def yX5_stepBy : MethodName := ⟨RX5, "stepBy", "(J)I"⟩
abbrev cX5_writeRow : ByteArray := prog_7_method_10_code
def yX5_writeRow : MethodName := ⟨RX5, "writeRow", "(I)V"⟩
abbrev cX5_textOfStep : ByteArray := prog_7_method_11_code
def yX5_textOfStep : MethodName := ⟨RX5, "textOfStep", "(II)J"⟩
abbrev cX5_wipe : ByteArray := prog_7_method_12_code
def yX5_wipe : MethodName := ⟨RX5, "wipe", "()V"⟩
def RX6 : String := "QuotedLetters$RuleText"
def TX6 : u_T := fun k => match k with
  | 0 => ("QuotedLetters$RuleText", "bytes", "[I", true)
  | 1 => ("QuotedLetters$RuleText", "value", "[I", true)
  | 2 => ("QuotedLetters$RuleText", "length", "I", false)
  | 3 => ("QuotedLetters$RuleText", "faultAt", "I", false)
  | 4 => ("QuotedLetters$RuleText", "faultKind", "I", false)
  | 5 => ("QuotedLetters$RuleText", "position", "I", false)
  | _ => ("QuotedLetters$RuleText", "toldKinds", "I", false)
def tyX6 : Nat → FieldType := fun k => match k with
  | 0 => .array .int
  | 1 => .array .int
  | 2 => .int
  | 3 => .int
  | 4 => .int
  | 5 => .int
  | _ => .int
theorem nmX6 : ∀ a, a < 7 → ∀ b, b < 7 → a ≠ b → (TX6 a).2.1 ≠ (TX6 b).2.1 := by decide +kernel
theorem tyX6_ok : ∀ k, k < 7 → parseFieldDescriptor (TX6 k).2.2.1 = some (tyX6 k) := by decide +kernel
abbrev cX6_init : ByteArray := prog_8_method_1_code
def yX6_init : MethodName := ⟨RX6, "<init>", "()V"⟩
abbrev cX6_addBytes : ByteArray := prog_8_method_2_code
def yX6_addBytes : MethodName := ⟨RX6, "addBytes", "(IJ)I"⟩
abbrev cX6_readClauses : ByteArray := prog_8_method_3_code
def yX6_readClauses : MethodName := ⟨RX6, "readClauses", "()I"⟩
abbrev cX6_readClause : ByteArray := prog_8_method_4_code
def yX6_readClause : MethodName := ⟨RX6, "readClause", "()Z"⟩
abbrev cX6_readYes : ByteArray := prog_8_method_5_code
def yX6_readYes : MethodName := ⟨RX6, "readYes", "()Z"⟩
abbrev cX6_readNumber : ByteArray := prog_8_method_6_code
def yX6_readNumber : MethodName := ⟨RX6, "readNumber", "(I)Z"⟩
abbrev cX6_readSemicolon : ByteArray := prog_8_method_7_code
def yX6_readSemicolon : MethodName := ⟨RX6, "readSemicolon", "()Z"⟩
abbrev cX6_blame : ByteArray := prog_8_method_8_code
def yX6_blame : MethodName := ⟨RX6, "blame", "(II)Z"⟩
abbrev cX6_skipBlanks : ByteArray := prog_8_method_9_code
def yX6_skipBlanks : MethodName := ⟨RX6, "skipBlanks", "()V"⟩
abbrev cX6_endOfWord : ByteArray := prog_8_method_10_code
def yX6_endOfWord : MethodName := ⟨RX6, "endOfWord", "()I"⟩
abbrev cX6_isFigure : ByteArray := prog_8_method_11_code
def yX6_isFigure : MethodName := ⟨RX6, "isFigure", "(I)Z"⟩
abbrev cX6_kindOf : ByteArray := prog_8_method_12_code
def yX6_kindOf : MethodName := ⟨RX6, "kindOf", "(II)I"⟩
abbrev cX6_nameOf : ByteArray := prog_8_method_13_code
def yX6_nameOf : MethodName := ⟨RX6, "nameOf", "(I)Ljava/lang/String;"⟩
abbrev cX6_isWord : ByteArray := prog_8_method_14_code
def yX6_isWord : MethodName := ⟨RX6, "isWord", "(IILjava/lang/String;)Z"⟩
def RX7 : String := "QuotedLetters$Texts"
def TX7 : u_T := fun k => match k with
  | _ => ("", "", "", false)
def tyX7 : Nat → FieldType := fun k => match k with
  | _ => .int
theorem nmX7 : ∀ a, a < 0 → ∀ b, b < 0 → a ≠ b → (TX7 a).2.1 ≠ (TX7 b).2.1 := by decide +kernel
theorem tyX7_ok : ∀ k, k < 0 → parseFieldDescriptor (TX7 k).2.2.1 = some (tyX7 k) := by decide +kernel
abbrev cX7_with : ByteArray := prog_9_method_2_code
def yX7_with : MethodName := ⟨RX7, "with", "(JII)J"⟩
abbrev cX7_wordAt : ByteArray := prog_9_method_3_code
def yX7_wordAt : MethodName := ⟨RX7, "wordAt", "(JI)I"⟩
abbrev cX7_wordsIn : ByteArray := prog_9_method_4_code
def yX7_wordsIn : MethodName := ⟨RX7, "wordsIn", "(J)I"⟩
abbrev cX7_wordOrNone : ByteArray := prog_9_method_5_code
def yX7_wordOrNone : MethodName := ⟨RX7, "wordOrNone", "(JI)I"⟩
def RX8 : String := "QuotedLetters"
def TX8 : u_T := fun k => match k with
  | 0 => ("QuotedLetters", "rules", "[I", true)
  | 1 => ("QuotedLetters", "heap", "LQuotedLetters$Heap;", true)
  | 2 => ("QuotedLetters", "fits", "LQuotedLetters$Fits;", true)
  | 3 => ("QuotedLetters", "now", "LQuotedLetters$Kin;", true)
  | 4 => ("QuotedLetters", "trial", "LQuotedLetters$Kin;", true)
  | 5 => ("QuotedLetters", "losts", "LQuotedLetters$LostLetters;", true)
  | 6 => ("QuotedLetters", "pattern", "LQuotedLetters$Pattern;", true)
  | 7 => ("QuotedLetters", "ruleText", "LQuotedLetters$RuleText;", true)
  | 8 => ("QuotedLetters", "draft", "J", false)
  | _ => ("QuotedLetters", "draftWords", "I", false)
def tyX8 : Nat → FieldType := fun k => match k with
  | 0 => .array .int
  | 1 => .object "QuotedLetters$Heap"
  | 2 => .object "QuotedLetters$Fits"
  | 3 => .object "QuotedLetters$Kin"
  | 4 => .object "QuotedLetters$Kin"
  | 5 => .object "QuotedLetters$LostLetters"
  | 6 => .object "QuotedLetters$Pattern"
  | 7 => .object "QuotedLetters$RuleText"
  | 8 => .long
  | _ => .int
theorem nmX8 : ∀ a, a < 10 → ∀ b, b < 10 → a ≠ b → (TX8 a).2.1 ≠ (TX8 b).2.1 := by decide +kernel
theorem tyX8_ok : ∀ k, k < 10 → parseFieldDescriptor (TX8 k).2.2.1 = some (tyX8 k) := by decide +kernel
abbrev cX8_init : ByteArray := prog_1_method_1_code
def yX8_init : MethodName := ⟨RX8, "<init>", "()V"⟩
abbrev cX8_word : ByteArray := prog_1_method_2_code
def yX8_word : MethodName := ⟨RX8, "word", "(I)I"⟩
abbrev cX8_letter : ByteArray := prog_1_method_3_code
def yX8_letter : MethodName := ⟨RX8, "letter", "(III)I"⟩
abbrev cX8_line : ByteArray := prog_1_method_4_code
def yX8_line : MethodName := ⟨RX8, "line", "(II)I"⟩
abbrev cX8_answer : ByteArray := prog_1_method_5_code
def yX8_answer : MethodName := ⟨RX8, "answer", "(III)I"⟩
abbrev cX8_take : ByteArray := prog_1_method_6_code
def yX8_take : MethodName := ⟨RX8, "take", "(I)I"⟩
abbrev cX8_put : ByteArray := prog_1_method_7_code
def yX8_put : MethodName := ⟨RX8, "put", "(I)I"⟩
abbrev cX8_known : ByteArray := prog_1_method_8_code
def yX8_known : MethodName := ⟨RX8, "known", "(I)I"⟩
abbrev cX8_about : ByteArray := prog_1_method_9_code
def yX8_about : MethodName := ⟨RX8, "about", "(II)I"⟩
abbrev cX8_told : ByteArray := prog_1_method_10_code
def yX8_told : MethodName := ⟨RX8, "told", "(III)I"⟩
abbrev cX8_differ : ByteArray := prog_1_method_11_code
def yX8_differ : MethodName := ⟨RX8, "differ", "(IIII)I"⟩
abbrev cX8_fit : ByteArray := prog_1_method_12_code
def yX8_fit : MethodName := ⟨RX8, "fit", "(II)I"⟩
abbrev cX8_count : ByteArray := prog_1_method_13_code
def yX8_count : MethodName := ⟨RX8, "count", "(I)I"⟩
abbrev cX8_origin : ByteArray := prog_1_method_14_code
def yX8_origin : MethodName := ⟨RX8, "origin", "(III)I"⟩
abbrev cX8_altered : ByteArray := prog_1_method_15_code
def yX8_altered : MethodName := ⟨RX8, "altered", "(II)I"⟩
abbrev cX8_echoes : ByteArray := prog_1_method_16_code
def yX8_echoes : MethodName := ⟨RX8, "echoes", "(II)I"⟩
abbrev cX8_group : ByteArray := prog_1_method_17_code
def yX8_group : MethodName := ⟨RX8, "group", "(I)I"⟩
abbrev cX8_lost : ByteArray := prog_1_method_18_code
def yX8_lost : MethodName := ⟨RX8, "lost", "(II)I"⟩
abbrev cX8_lostWord : ByteArray := prog_1_method_19_code
def yX8_lostWord : MethodName := ⟨RX8, "lostWord", "(III)I"⟩
abbrev cX8_order : ByteArray := prog_1_method_20_code
def yX8_order : MethodName := ⟨RX8, "order", "(I)I"⟩
abbrev cX8_quarrel : ByteArray := prog_1_method_21_code
def yX8_quarrel : MethodName := ⟨RX8, "quarrel", "(I)I"⟩
abbrev cX8_span : ByteArray := prog_1_method_22_code
def yX8_span : MethodName := ⟨RX8, "span", "(II)I"⟩
abbrev cX8_sign : ByteArray := prog_1_method_23_code
def yX8_sign : MethodName := ⟨RX8, "sign", "(I)I"⟩
abbrev cX8_clear : ByteArray := prog_1_method_24_code
def yX8_clear : MethodName := ⟨RX8, "clear", "()I"⟩
abbrev cX8_seek : ByteArray := prog_1_method_25_code
def yX8_seek : MethodName := ⟨RX8, "seek", "(III)I"⟩
abbrev cX8_still : ByteArray := prog_1_method_26_code
def yX8_still : MethodName := ⟨RX8, "still", "(I)I"⟩
abbrev cX8_feed : ByteArray := prog_1_method_27_code
def yX8_feed : MethodName := ⟨RX8, "feed", "(IJ)I"⟩
abbrev cX8_read : ByteArray := prog_1_method_28_code
def yX8_read : MethodName := ⟨RX8, "read", "()I"⟩
abbrev cX8_fault : ByteArray := prog_1_method_29_code
def yX8_fault : MethodName := ⟨RX8, "fault", "()I"⟩
abbrev cX8_rule : ByteArray := prog_1_method_30_code
def yX8_rule : MethodName := ⟨RX8, "rule", "(I)I"⟩
abbrev cX8_spotOf : ByteArray := prog_1_method_31_code
def yX8_spotOf : MethodName := ⟨RX8, "spotOf", "(II)I"⟩
abbrev cX8_isWrongWriter : ByteArray := prog_1_method_32_code
def yX8_isWrongWriter : MethodName := ⟨RX8, "isWrongWriter", "(I)Z"⟩
abbrev cX8_isWrongDay : ByteArray := prog_1_method_33_code
def yX8_isWrongDay : MethodName := ⟨RX8, "isWrongDay", "(I)Z"⟩
abbrev cX8_isWhere : ByteArray := prog_1_method_34_code
def yX8_isWhere : MethodName := ⟨RX8, "isWhere", "(II)Z"⟩
abbrev cX8_forgetFindings : ByteArray := prog_1_method_35_code
def yX8_forgetFindings : MethodName := ⟨RX8, "forgetFindings", "()V"⟩
abbrev cX8_aboutKin : ByteArray := prog_1_method_36_code
def yX8_aboutKin : MethodName := ⟨RX8, "aboutKin", "(II)I"⟩
abbrev cX8_countFindings : ByteArray := prog_1_method_37_code
def yX8_countFindings : MethodName := ⟨RX8, "countFindings", "(I)I"⟩
def RX9 : String := "QuotedLettersModel"
def TX9 : u_T := fun k => match k with
  | 0 => ("QuotedLettersModel", "rules", "[I", true)
  | 1 => ("QuotedLettersModel", "letters", "I", false)
  | 2 => ("QuotedLettersModel", "writer", "[I", true)
  | 3 => ("QuotedLettersModel", "day", "[I", true)
  | 4 => ("QuotedLettersModel", "names", "[I", true)
  | 5 => ("QuotedLettersModel", "size", "[I", true)
  | 6 => ("QuotedLettersModel", "isTaken", "[Z", true)
  | 7 => ("QuotedLettersModel", "depth", "[I", true)
  | 8 => ("QuotedLettersModel", "words", "[I", true)
  | 9 => ("QuotedLettersModel", "word", "[I", true)
  | 10 => ("QuotedLettersModel", "drafts", "I", false)
  | 11 => ("QuotedLettersModel", "draft", "[I", true)
  | 12 => ("QuotedLettersModel", "knownBy", "I", false)
  | 13 => ("QuotedLettersModel", "asIf", "I", false)
  | 14 => ("QuotedLettersModel", "far", "[I", true)
  | 15 => ("QuotedLettersModel", "pairs", "[I", true)
  | 16 => ("QuotedLettersModel", "parent", "[I", true)
  | 17 => ("QuotedLettersModel", "groupOf", "[I", true)
  | 18 => ("QuotedLettersModel", "groups", "I", false)
  | 19 => ("QuotedLettersModel", "pieceOf", "[I", true)
  | 20 => ("QuotedLettersModel", "pieceSize", "[I", true)
  | 21 => ("QuotedLettersModel", "piece", "[I", true)
  | 22 => ("QuotedLettersModel", "pieces", "I", false)
  | 23 => ("QuotedLettersModel", "wanted", "[I", true)
  | 24 => ("QuotedLettersModel", "row", "[I", true)
  | 25 => ("QuotedLettersModel", "rowSize", "I", false)
  | 26 => ("QuotedLettersModel", "signs", "I", false)
  | 27 => ("QuotedLettersModel", "sign", "[I", true)
  | 28 => ("QuotedLettersModel", "text", "[I", true)
  | 29 => ("QuotedLettersModel", "textSize", "I", false)
  | 30 => ("QuotedLettersModel", "here", "I", false)
  | 31 => ("QuotedLettersModel", "faultOf", "I", false)
  | 32 => ("QuotedLettersModel", "place", "I", false)
  | 33 => ("QuotedLettersModel", "begin", "I", false)
  | 34 => ("QuotedLettersModel", "many", "I", false)
  | _ => ("QuotedLettersModel", "newRules", "[I", true)
def tyX9 : Nat → FieldType := fun k => match k with
  | 0 => .array .int
  | 1 => .int
  | 2 => .array .int
  | 3 => .array .int
  | 4 => .array .int
  | 5 => .array .int
  | 6 => .array .boolean
  | 7 => .array .int
  | 8 => .array .int
  | 9 => .array .int
  | 10 => .int
  | 11 => .array .int
  | 12 => .int
  | 13 => .int
  | 14 => .array .int
  | 15 => .array .int
  | 16 => .array .int
  | 17 => .array .int
  | 18 => .int
  | 19 => .array .int
  | 20 => .array .int
  | 21 => .array .int
  | 22 => .int
  | 23 => .array .int
  | 24 => .array .int
  | 25 => .int
  | 26 => .int
  | 27 => .array .int
  | 28 => .array .int
  | 29 => .int
  | 30 => .int
  | 31 => .int
  | 32 => .int
  | 33 => .int
  | 34 => .int
  | _ => .array .int
theorem nmX9 : ∀ a, a < 36 → ∀ b, b < 36 → a ≠ b → (TX9 a).2.1 ≠ (TX9 b).2.1 := by decide +kernel
theorem tyX9_ok : ∀ k, k < 36 → parseFieldDescriptor (TX9 k).2.2.1 = some (tyX9 k) := by decide +kernel
abbrev cX9_init : ByteArray := prog_11_method_1_code
def yX9_init : MethodName := ⟨RX9, "<init>", "()V"⟩
abbrev cX9_in : ByteArray := prog_11_method_3_code
def yX9_in : MethodName := ⟨RX9, "in", "(JJJ)Z"⟩
abbrev cX9_one : ByteArray := prog_11_method_4_code
def yX9_one : MethodName := ⟨RX9, "one", "(Z)I"⟩
abbrev cX9_atFirst : ByteArray := prog_11_method_5_code
def yX9_atFirst : MethodName := ⟨RX9, "atFirst", "(I)I"⟩
abbrev cX9_noLetter : ByteArray := prog_11_method_6_code
def yX9_noLetter : MethodName := ⟨RX9, "noLetter", "(I)Z"⟩
abbrev cX9_noLine : ByteArray := prog_11_method_7_code
def yX9_noLine : MethodName := ⟨RX9, "noLine", "(II)Z"⟩
abbrev cX9_word : ByteArray := prog_11_method_8_code
def yX9_word : MethodName := ⟨RX9, "word", "(I)I"⟩
abbrev cX9_letter : ByteArray := prog_11_method_9_code
def yX9_letter : MethodName := ⟨RX9, "letter", "(III)I"⟩
abbrev cX9_line : ByteArray := prog_11_method_10_code
def yX9_line : MethodName := ⟨RX9, "line", "(II)I"⟩
abbrev cX9_answer : ByteArray := prog_11_method_11_code
def yX9_answer : MethodName := ⟨RX9, "answer", "(III)I"⟩
abbrev cX9_take : ByteArray := prog_11_method_12_code
def yX9_take : MethodName := ⟨RX9, "take", "(I)I"⟩
abbrev cX9_put : ByteArray := prog_11_method_13_code
def yX9_put : MethodName := ⟨RX9, "put", "(I)I"⟩
abbrev cX9_known : ByteArray := prog_11_method_14_code
def yX9_known : MethodName := ⟨RX9, "known", "(I)I"⟩
abbrev cX9_isSeen : ByteArray := prog_11_method_15_code
def yX9_isSeen : MethodName := ⟨RX9, "isSeen", "(I)Z"⟩
abbrev cX9_quoted : ByteArray := prog_11_method_16_code
def yX9_quoted : MethodName := ⟨RX9, "quoted", "(I)I"⟩
abbrev cX9_differBy : ByteArray := prog_11_method_17_code
def yX9_differBy : MethodName := ⟨RX9, "differBy", "(II)I"⟩
abbrev cX9_isSame : ByteArray := prog_11_method_18_code
def yX9_isSame : MethodName := ⟨RX9, "isSame", "(II)Z"⟩
abbrev cX9_isLike : ByteArray := prog_11_method_19_code
def yX9_isLike : MethodName := ⟨RX9, "isLike", "(II)Z"⟩
abbrev cX9_differ : ByteArray := prog_11_method_20_code
def yX9_differ : MethodName := ⟨RX9, "differ", "(IIII)I"⟩
abbrev cX9_fitOf : ByteArray := prog_11_method_21_code
def yX9_fitOf : MethodName := ⟨RX9, "fitOf", "(II)I"⟩
abbrev cX9_fit : ByteArray := prog_11_method_22_code
def yX9_fit : MethodName := ⟨RX9, "fit", "(II)I"⟩
abbrev cX9_comesTo : ByteArray := prog_11_method_23_code
def yX9_comesTo : MethodName := ⟨RX9, "comesTo", "(II)Z"⟩
abbrev cX9_findParents : ByteArray := prog_11_method_24_code
def yX9_findParents : MethodName := ⟨RX9, "findParents", "()V"⟩
abbrev cX9_fitting : ByteArray := prog_11_method_25_code
def yX9_fitting : MethodName := ⟨RX9, "fitting", "(I)I"⟩
abbrev cX9_rootOf : ByteArray := prog_11_method_26_code
def yX9_rootOf : MethodName := ⟨RX9, "rootOf", "(I)I"⟩
abbrev cX9_stepsOf : ByteArray := prog_11_method_27_code
def yX9_stepsOf : MethodName := ⟨RX9, "stepsOf", "(I)I"⟩
abbrev cX9_about : ByteArray := prog_11_method_28_code
def yX9_about : MethodName := ⟨RX9, "about", "(II)I"⟩
abbrev cX9_told : ByteArray := prog_11_method_29_code
def yX9_told : MethodName := ⟨RX9, "told", "(III)I"⟩
abbrev cX9_heldTo : ByteArray := prog_11_method_30_code
def yX9_heldTo : MethodName := ⟨RX9, "heldTo", "(I)I"⟩
abbrev cX9_originOf : ByteArray := prog_11_method_31_code
def yX9_originOf : MethodName := ⟨RX9, "originOf", "(I)I"⟩
abbrev cX9_origin : ByteArray := prog_11_method_32_code
def yX9_origin : MethodName := ⟨RX9, "origin", "(III)I"⟩
abbrev cX9_isAltered : ByteArray := prog_11_method_33_code
def yX9_isAltered : MethodName := ⟨RX9, "isAltered", "(I)Z"⟩
abbrev cX9_altered : ByteArray := prog_11_method_34_code
def yX9_altered : MethodName := ⟨RX9, "altered", "(II)I"⟩
abbrev cX9_echoes : ByteArray := prog_11_method_35_code
def yX9_echoes : MethodName := ⟨RX9, "echoes", "(II)I"⟩
abbrev cX9_isPiece : ByteArray := prog_11_method_36_code
def yX9_isPiece : MethodName := ⟨RX9, "isPiece", "(I)Z"⟩
abbrev cX9_hasPiece : ByteArray := prog_11_method_37_code
def yX9_hasPiece : MethodName := ⟨RX9, "hasPiece", "(I)Z"⟩
abbrev cX9_haveCommon : ByteArray := prog_11_method_38_code
def yX9_haveCommon : MethodName := ⟨RX9, "haveCommon", "(II)Z"⟩
abbrev cX9_findGroups : ByteArray := prog_11_method_39_code
def yX9_findGroups : MethodName := ⟨RX9, "findGroups", "()V"⟩
abbrev cX9_group : ByteArray := prog_11_method_40_code
def yX9_group : MethodName := ⟨RX9, "group", "(I)I"⟩
abbrev cX9_findPieces : ByteArray := prog_11_method_41_code
def yX9_findPieces : MethodName := ⟨RX9, "findPieces", "(I)V"⟩
abbrev cX9_textAt : ByteArray := prog_11_method_42_code
def yX9_textAt : MethodName := ⟨RX9, "textAt", "(II)I"⟩
abbrev cX9_step : ByteArray := prog_11_method_43_code
def yX9_step : MethodName := ⟨RX9, "step", "(I)I"⟩
abbrev cX9_behind : ByteArray := prog_11_method_44_code
def yX9_behind : MethodName := ⟨RX9, "behind", "(II)I"⟩
abbrev cX9_isWithin : ByteArray := prog_11_method_45_code
def yX9_isWithin : MethodName := ⟨RX9, "isWithin", "(I)Z"⟩
abbrev cX9_findRow : ByteArray := prog_11_method_46_code
def yX9_findRow : MethodName := ⟨RX9, "findRow", "()V"⟩
abbrev cX9_isLess : ByteArray := prog_11_method_47_code
def yX9_isLess : MethodName := ⟨RX9, "isLess", "(II)Z"⟩
abbrev cX9_lost : ByteArray := prog_11_method_48_code
def yX9_lost : MethodName := ⟨RX9, "lost", "(II)I"⟩
abbrev cX9_lostWord : ByteArray := prog_11_method_49_code
def yX9_lostWord : MethodName := ⟨RX9, "lostWord", "(III)I"⟩
abbrev cX9_order : ByteArray := prog_11_method_50_code
def yX9_order : MethodName := ⟨RX9, "order", "(I)I"⟩
abbrev cX9_quarrels : ByteArray := prog_11_method_51_code
def yX9_quarrels : MethodName := ⟨RX9, "quarrels", "(I)Z"⟩
abbrev cX9_quarrel : ByteArray := prog_11_method_52_code
def yX9_quarrel : MethodName := ⟨RX9, "quarrel", "(I)I"⟩
abbrev cX9_span : ByteArray := prog_11_method_53_code
def yX9_span : MethodName := ⟨RX9, "span", "(II)I"⟩
abbrev cX9_sign : ByteArray := prog_11_method_54_code
def yX9_sign : MethodName := ⟨RX9, "sign", "(I)I"⟩
abbrev cX9_clear : ByteArray := prog_11_method_55_code
def yX9_clear : MethodName := ⟨RX9, "clear", "()I"⟩
abbrev cX9_hasSigns : ByteArray := prog_11_method_56_code
def yX9_hasSigns : MethodName := ⟨RX9, "hasSigns", "(I)Z"⟩
abbrev cX9_seek : ByteArray := prog_11_method_57_code
def yX9_seek : MethodName := ⟨RX9, "seek", "(III)I"⟩
abbrev cX9_still : ByteArray := prog_11_method_58_code
def yX9_still : MethodName := ⟨RX9, "still", "(I)I"⟩
abbrev cX9_count : ByteArray := prog_11_method_59_code
def yX9_count : MethodName := ⟨RX9, "count", "(I)I"⟩
abbrev cX9_feed : ByteArray := prog_11_method_60_code
def yX9_feed : MethodName := ⟨RX9, "feed", "(IJ)I"⟩
abbrev cX9_look : ByteArray := prog_11_method_61_code
def yX9_look : MethodName := ⟨RX9, "look", "()I"⟩
abbrev cX9_want : ByteArray := prog_11_method_62_code
def yX9_want : MethodName := ⟨RX9, "want", "(ZII)Z"⟩
abbrev cX9_takeWord : ByteArray := prog_11_method_63_code
def yX9_takeWord : MethodName := ⟨RX9, "takeWord", "()V"⟩
abbrev cX9_isWord : ByteArray := prog_11_method_64_code
def yX9_isWord : MethodName := ⟨RX9, "isWord", "(IIIIII)Z"⟩
abbrev cX9_takeNumber : ByteArray := prog_11_method_65_code
def yX9_takeNumber : MethodName := ⟨RX9, "takeNumber", "(I)I"⟩
abbrev cX9_kindOf : ByteArray := prog_11_method_66_code
def yX9_kindOf : MethodName := ⟨RX9, "kindOf", "()I"⟩
abbrev cX9_readClause : ByteArray := prog_11_method_67_code
def yX9_readClause : MethodName := ⟨RX9, "readClause", "(I)V"⟩
abbrev cX9_read : ByteArray := prog_11_method_68_code
def yX9_read : MethodName := ⟨RX9, "read", "()I"⟩
abbrev cX9_fault : ByteArray := prog_11_method_69_code
def yX9_fault : MethodName := ⟨RX9, "fault", "()I"⟩
abbrev cX9_rule : ByteArray := prog_11_method_70_code
def yX9_rule : MethodName := ⟨RX9, "rule", "(I)I"⟩
def RJ9 : String := "java/lang/Math"
abbrev cJ9_max_7cf53 : ByteArray := prog_12_method_65_code
def yJ9_max_7cf53 : MethodName := ⟨RJ9, "max", "(II)I"⟩
abbrev cJ9_min_7cf53 : ByteArray := prog_12_method_69_code
def yJ9_min_7cf53 : MethodName := ⟨RJ9, "min", "(II)I"⟩
def RJ0 : String := "java/lang/String"
abbrev cJ0_length_8abf5 : ByteArray := prog_13_method_54_code
def yJ0_length_8abf5 : MethodName := ⟨RJ0, "length", "()I"⟩
abbrev cJ0_charAt_5068e : ByteArray := prog_13_method_56_code
def yJ0_charAt_5068e : MethodName := ⟨RJ0, "charAt", "(I)C"⟩
abbrev cJ0_coder_7d493 : ByteArray := prog_13_method_152_code
def yJ0_coder_7d493 : MethodName := ⟨RJ0, "coder", "()B"⟩
abbrev cJ0_isLatin1_aae02 : ByteArray := prog_13_method_154_code
def yJ0_isLatin1_aae02 : MethodName := ⟨RJ0, "isLatin1", "()Z"⟩
abbrev cJ0_checkIndex_df160 : ByteArray := prog_13_method_155_code
def yJ0_checkIndex_df160 : MethodName := ⟨RJ0, "checkIndex", "(II)V"⟩
def RJ1 : String := "java/lang/StringLatin1"
abbrev cJ1_charAt_3b067 : ByteArray := prog_14_method_2_code
def yJ1_charAt_3b067 : MethodName := ⟨RJ1, "charAt", "([BI)C"⟩
def RJ2 : String := "java/lang/StringUTF16"
abbrev cJ2_getChar_3b067 : ByteArray := prog_15_method_5_code
def yJ2_getChar_3b067 : MethodName := ⟨RJ2, "getChar", "([BI)C"⟩
abbrev cJ2_length_9d52b : ByteArray := prog_15_method_6_code
def yJ2_length_9d52b : MethodName := ⟨RJ2, "length", "([B)I"⟩
abbrev cJ2_charAt_3b067 : ByteArray := prog_15_method_83_code
def yJ2_charAt_3b067 : MethodName := ⟨RJ2, "charAt", "([BI)C"⟩
abbrev cJ2_checkIndex_2214a : ByteArray := prog_15_method_91_code
def yJ2_checkIndex_2214a : MethodName := ⟨RJ2, "checkIndex", "(I[B)V"⟩
def RJ10 : String := "java/lang/System"
def RJ7 : String := "java/util/Arrays"
abbrev cJ7_fill_53178 : ByteArray := prog_17_method_103_code
def yJ7_fill_53178 : MethodName := ⟨RJ7, "fill", "([II)V"⟩
def RJ3 : String := "jdk/internal/util/Preconditions"
abbrev cJ3_checkIndex_8e157 : ByteArray := prog_18_method_11_code
def yJ3_checkIndex_8e157 : MethodName := ⟨RJ3, "checkIndex", "(IILjava/util/function/BiFunction;)I"⟩
def RL : String := "QuotedLettersLaw"
abbrev cL_law : ByteArray := code
def yL_law : MethodName := ⟨RL, "law", "([I)Z"⟩
abbrev vwCl : List vw_C := [(RX0, TX0, 5), (RX1, TX1, 10), (RX2, TX2, 8), (RX3, TX3, 10), (RX4, TX4, 2), (RX5, TX5, 7), (RX6, TX6, 7), (RX8, TX8, 10), (RX9, TX9, 36)]
end
section
/-! ===== THE PURE MACHINE: the system's cells by numbers, ints and longs as functions, code as tables of pure steps ===== -/
/-- objects 0 .. 9: class (place in vwCl), slots: (0, _) int, (1, _) long, (2, t) the cell t, (3, _) boolean -/
def px_ob : List (Nat × List (Nat × Nat)) :=
  [(7, [(2, 10), (2, 1), (2, 2), (2, 3), (2, 4), (2, 5), (2, 7), (2, 8), (1, 0), (0, 0)]),
   (1, [(2, 11), (2, 12), (2, 13), (2, 14), (2, 15), (2, 16), (2, 17), (0, 0), (0, 0), (1, 0)]),
   (0, [(2, 1), (2, 10), (2, 18), (2, 19), (2, 20)]),
   (2, [(2, 1), (2, 2), (2, 10), (2, 21), (2, 22), (3, 0), (0, 0), (1, 0)]),
   (2, [(2, 1), (2, 2), (2, 10), (2, 23), (2, 24), (3, 0), (0, 0), (1, 0)]),
   (3, [(2, 1), (2, 3), (2, 6), (2, 25), (2, 26), (2, 27), (2, 28), (0, 0), (3, 0), (0, 0)]),
   (5, [(2, 29), (2, 30), (2, 31), (2, 32), (0, 0), (0, 0), (2, 33)]),
   (4, [(2, 34), (0, 0)]),
   (6, [(2, 35), (2, 36), (0, 0), (0, 0), (0, 0), (0, 0), (0, 0)]),
   (8, [(2, 37), (0, 0), (2, 38), (2, 39), (2, 40), (2, 41), (2, 42), (2, 43), (2, 44), (2, 45), (0, 0), (2, 46), (0, 0), (0, 0), (2, 47), (2, 48), (2, 49), (2, 50), (0, 0), (2, 51), (2, 52), (2, 53), (0, 0), (2, 54), (2, 55), (0, 0), (0, 0), (2, 56), (2, 57), (0, 0), (0, 0), (0, 0), (0, 0), (0, 0), (0, 0), (2, 58)])]
/-- arrays 10 .. 58: kind (0 int, 1 long, 2 boolean), length (33 is 'cells': its length is the state's) -/
def px_ar : List (Nat × Nat) :=
  [(9, 0), (9, 0), (9, 0), (9, 0), (9, 0), (9, 0), (9, 0), (9, 0), (9, 0), (9, 0),
   (0, 5), (0, 40), (0, 40), (0, 40), (0, 40), (0, 40), (0, 560), (1, 560),
   (0, 1600), (0, 15), (0, 9), (0, 40), (0, 560), (0, 40), (0, 560),
   (0, 40), (0, 40), (0, 40), (0, 40), (1, 56), (0, 4), (1, 4), (1, 56), (0, 0), (0, 4), (0, 120), (0, 5),
   (0, 5), (0, 40), (0, 40), (0, 40), (0, 40), (2, 40), (0, 560), (0, 560), (0, 4480), (0, 8), (0, 81), (0, 225), (0, 40), (0, 40), (0, 4), (0, 4), (0, 56), (0, 50625), (0, 56), (0, 4), (0, 120), (0, 5)]
/-- a state: ints, longs, the length of 'cells', how many cells and slots were made -/
abbrev px_S : Type := (Nat → Nat → Int32) × (Nat → Nat → Int64) × Nat × Nat × Nat
abbrev px_cc (σ : px_S) : Nat := σ.2.2.2.1
abbrev px_cs (σ : px_S) : Nat := σ.2.2.2.2
def px_le (σ τ : px_S) : Prop := px_cc σ ≤ px_cc τ ∧ px_cs σ ≤ px_cs τ
def px_len (σ : px_S) (k n : Nat) : Nat := if k = 33 then σ.2.2.1 else n
def px_uI (σ : px_S) (k j : Nat) (x : Int32) : px_S := (fun a => if a = k then upd (σ.1 k) j x else σ.1 a, σ.2)
def px_uL (σ : px_S) (k j : Nat) (x : Int64) : px_S := (σ.1, fun a => if a = k then vp_updL (σ.2.1 k) j x else σ.2.1 a, σ.2.2)
/-- an abstract value on the machine: .ref k is the cell ad k; .float stands for one static reference of which nothing is known -/
def px_mv (ad : Nat → Nat) : Value → Value
  | .ref k => .ref (ad k)
  | .float _ => if ad 131 = 0 then .null else .ref (ad 130)
  | v => v
def px_fv (ad : Nat → Nat) (σ : px_S) (k : Nat) (d : Nat × Nat) (j : Nat) : Value :=
  if d.1 = 1 then .long (σ.2.1 k j) else if d.1 = 2 then .ref (ad d.2) else .int (σ.1 k j)
abbrev px_C : Type := ClassId × ClassId × ClassId
def px_E (cs : px_C) (ad : Nat → Nat) (σ : px_S) (k : Nat) : va_E :=
  match px_ob[k]? with
  | some o => .inr (o.1, o.2.mapIdx fun j d => px_fv ad σ k d j)
  | none =>
    match px_ar[k]? with
    | some a => if a.1 = 1 then .inl (cs.2.1, (px_len σ k a.2, .inr (.inl (σ.2.1 k)))) else if a.1 = 2 then .inl (cs.2.2, (px_len σ k a.2, .inl (σ.1 k))) else .inl (cs.1, (px_len σ k a.2, .inl (σ.1 k)))
    | none => .inr (0, [])
def px_W (cs : px_C) (ad : Nat → Nat) (σ : px_S) : va_W := (List.range 59).map fun k => (ad k, px_E cs ad σ k)
def px_tys (cs : px_C) : List (ClassId × FieldType) := [(cs.1, .int), (cs.2.1, .long), (cs.2.2, .boolean)]
/-- a step that calls nothing: locals, stack, state: the next place, locals, stack, state -/
abbrev px_F : Type := List Value → List Value → px_S → Option (Nat × List Value × List Value × px_S)
/-- an instruction: a step; a call (method, how many values, class + 1 of the receiver or 0, the place behind it); a return -/
abbrev px_I : Type := px_F ⊕ (Nat × Nat × Nat × Nat) ⊕ (List Value → Option (Option Value))
abbrev px_M : Type := MethodName × ByteArray × Nat × Option FieldType × List (Nat × px_I)
def px_nc : Value → Bool
  | .ref k => !(k == 33)
  | _ => true
def px_cat (st : List Value) : Nat := (st.map fun v => v.category).sum
/-- whether the values handed to a call are right: enough of them, a receiver of the class, little below, no hold on 'cells' -/
def px_okc (ci : Nat) (as rest ls : List Value) : Bool :=
  (ci == 0 || (match as with
    | .ref k :: _ => (match px_ob[k]? with
      | some o => o.1 + 1 == ci
      | none => ci == 100 && decide (110 ≤ k ∧ k < 117))
    | _ => false)) && decide (px_cat rest ≤ 8) && rest.all px_nc && ls.all px_nc
def px_look : List (Nat × px_I) → Nat → Option px_I
  | [], _ => none
  | q :: t, pc => if q.1 = pc then some q.2 else px_look t pc
def px_run (O : Nat → List Value → px_S → Option (Option Value × px_S)) (tb : List (Nat × px_I)) : Nat → Nat → List Value → List Value → px_S → Option (Option Value × px_S)
  | 0, _, _, _, _ => none
  | n + 1, pc, ls, st, σ =>
    match px_look tb pc with
    | none => none
    | some (.inl f) =>
      match f ls st σ with
      | none => none
      | some q => px_run O tb n q.1 q.2.1 q.2.2.1 q.2.2.2
    | some (.inr (.inl q)) =>
      if q.2.1 ≤ st.length ∧ px_okc q.2.2.1 (st.take q.2.1).reverse (st.drop q.2.1) ls = true then
        match O q.1 (st.take q.2.1).reverse σ with
        | none => none
        | some r => px_run O tb n q.2.2.2 ls (r.1.toList ++ st.drop q.2.1) r.2
      else none
    | some (.inr (.inr g)) =>
      match g st with
      | none => none
      | some r => some (r, σ)
def px_ents : List Value → List Value
  | [] => []
  | v :: t => if v.category = 2 then v :: .null :: px_ents t else v :: px_ents t
def px_call (P : Nat → px_M) : Nat → Nat → Nat → List Value → px_S → Option (Option Value × px_S)
  | 0, _, _, _, _ => none
  | d + 1, f, μ, as, σ => if (px_ents as).length ≤ (P μ).2.2.1 then px_run (px_call P d f) (P μ).2.2.2.2 f 0 (px_ents as ++ List.replicate ((P μ).2.2.1 - (px_ents as).length) .null) [] σ else none
/-! the steps -/
def px_kill (ls : List Value) (i : Nat) : List Value := match i with
  | 0 => ls
  | j + 1 => (match ls[j]? with
    | some (.long _) => ls.set j .null
    | some (.double _) => ls.set j .null
    | _ => ls)
def px_st1 (ls : List Value) (i : Nat) (v : Value) : List Value := (px_kill ls i).set i v
def px_st2 (ls : List Value) (i : Nat) (v : Value) : List Value := ((px_kill ls i).set (i + 1) .null).set i v
def pi_const (n : Nat) (v : Value) : px_F := fun ls st σ => some (n, ls, v :: st, σ)
def pi_iload (n i : Nat) : px_F := fun ls st σ => match ls[i]? with
  | some (.int x) => some (n, ls, .int x :: st, σ)
  | _ => none
def pi_lload (n i : Nat) : px_F := fun ls st σ => match ls[i]? with
  | some (.long x) => some (n, ls, .long x :: st, σ)
  | _ => none
def pi_aload (n i : Nat) : px_F := fun ls st σ => match ls[i]? with
  | some (.ref x) => some (n, ls, .ref x :: st, σ)
  | _ => none
def pi_istore (n i : Nat) : px_F := fun ls st σ => match st with
  | .int x :: st => some (n, px_st1 ls i (.int x), st, σ)
  | _ => none
def pi_lstore (n i : Nat) : px_F := fun ls st σ => match st with
  | .long x :: st => some (n, px_st2 ls i (.long x), st, σ)
  | _ => none
def pi_iinc (n i : Nat) (k : Int32) : px_F := fun ls st σ => match ls[i]? with
  | some (.int x) => some (n, px_st1 ls i (.int (x + k)), st, σ)
  | _ => none
def pi_bin (n : Nat) (f : Int32 → Int32 → Int32) : px_F := fun ls st σ => match st with
  | .int y :: .int x :: st => some (n, ls, .int (f x y) :: st, σ)
  | _ => none
def pi_binz (n : Nat) (f : Int32 → Int32 → Int32) : px_F := fun ls st σ => match st with
  | .int y :: .int x :: st => if y = 0 then none else some (n, ls, .int (f x y) :: st, σ)
  | _ => none
def pi_un (n : Nat) (f : Int32 → Int32) : px_F := fun ls st σ => match st with
  | .int x :: st => some (n, ls, .int (f x) :: st, σ)
  | _ => none
def pi_lbin (n : Nat) (f : Int64 → Int64 → Int64) : px_F := fun ls st σ => match st with
  | .long y :: .long x :: st => some (n, ls, .long (f x y) :: st, σ)
  | _ => none
def pi_lsh (n : Nat) (f : Int64 → Int32 → Int64) : px_F := fun ls st σ => match st with
  | .int y :: .long x :: st => some (n, ls, .long (f x y) :: st, σ)
  | _ => none
def pi_lcmp (n : Nat) : px_F := fun ls st σ => match st with
  | .long y :: .long x :: st => some (n, ls, .int (lg_cmp x y) :: st, σ)
  | _ => none
def pi_i2l (n : Nat) : px_F := fun ls st σ => match st with
  | .int x :: st => some (n, ls, .long x.toInt64 :: st, σ)
  | _ => none
def pi_l2i (n : Nat) : px_F := fun ls st σ => match st with
  | .long x :: st => some (n, ls, .int x.toInt32 :: st, σ)
  | _ => none
def px_one (v : Value) : Bool := v.category == 1
def pi_dup (n : Nat) : px_F := fun ls st σ => match st with
  | v :: st => if v.category = 1 then some (n, ls, v :: v :: st, σ) else none
  | _ => none
def pi_dup2 (n : Nat) : px_F := fun ls st σ => match st with
  | v :: w :: st => if v.category = 1 ∧ w.category = 1 then some (n, ls, v :: w :: v :: w :: st, σ) else none
  | _ => none
def pi_pop (n : Nat) : px_F := fun ls st σ => match st with
  | v :: st => if v.category = 1 then some (n, ls, st, σ) else none
  | _ => none
def pi_if (n t : Nat) (c : Int32 → Prop) [DecidablePred c] : px_F := fun ls st σ => match st with
  | .int x :: st => some (if c x then t else n, ls, st, σ)
  | _ => none
def pi_icmp (n t : Nat) (c : Int32 → Int32 → Prop) [∀ x y, Decidable (c x y)] : px_F := fun ls st σ => match st with
  | .int y :: .int x :: st => some (if c x y then t else n, ls, st, σ)
  | _ => none
def pi_goto (t : Nat) : px_F := fun ls st σ => some (t, ls, st, σ)
def pi_tsw (lo hi : Int) (d : Nat) (ts : List Nat) : px_F := fun ls st σ => match st with
  | .int x :: st => if x.toInt < lo ∨ hi < x.toInt then some (d, ls, st, σ) else (match ts[(x.toInt - lo).toNat]? with
    | some t => some (t, ls, st, σ)
    | none => none)
  | _ => none
def pi_get (n ci j : Nat) : px_F := fun ls st σ => match st with
  | .ref k :: st => (match px_ob[k]? with
    | some o => if o.1 = ci then (match o.2[j]? with
      | some d => some (n, ls, px_fv (fun k => k) σ k d j :: st, σ)
      | none => none) else none
    | none => none)
  | _ => none
def pi_put (n ci j : Nat) : px_F := fun ls st σ => match st with
  | v :: .ref k :: st => (match px_ob[k]? with
    | some o => if o.1 = ci then (match o.2[j]? with
      | some d => (match v with
        | .int x => if d.1 = 0 ∨ (d.1 = 3 ∧ (x = 0 ∨ x = 1)) then some (n, ls, st, px_uI σ k j x) else none
        | .long x => if d.1 = 1 then some (n, ls, st, px_uL σ k j x) else none
        | _ => none)
      | none => none) else none
    | none => none)
  | _ => none
/-- an array of a kind: its length -/
def px_at (σ : px_S) (ty k : Nat) : Option Nat := match px_ob[k]? with
  | some _ => none
  | none => (match px_ar[k]? with
    | some a => if a.1 = ty then some (px_len σ k a.2) else none
    | none => none)
def pi_ald (n ty : Nat) : px_F := fun ls st σ => match st with
  | .int i :: .ref k :: st => (match px_at σ ty k with
    | some N => if i < 0 ∨ N ≤ i.toNatClampNeg then none else some (n, ls, (if ty = 1 then .long (σ.2.1 k i.toNatClampNeg) else .int (σ.1 k i.toNatClampNeg)) :: st, σ)
    | none => none)
  | _ => none
def pi_ast (n ty : Nat) : px_F := fun ls st σ => match st with
  | v :: .int i :: .ref k :: st => (match px_at σ ty k with
    | some N => if i < 0 ∨ N ≤ i.toNatClampNeg then none else (match v with
      | .int x => if ty = 0 ∨ (ty = 2 ∧ (x = 0 ∨ x = 1)) then some (n, ls, st, px_uI σ k i.toNatClampNeg x) else none
      | .long x => if ty = 1 then some (n, ls, st, px_uL σ k i.toNatClampNeg x) else none
      | _ => none)
    | none => none)
  | _ => none
def pi_alen (n : Nat) : px_F := fun ls st σ => match st with
  | .ref k :: st => (match px_at σ 0 k with
    | some N => some (n, ls, .int (Int32.ofNat N) :: st, σ)
    | none => none)
  | _ => none
def pr_i : List Value → Option (Option Value)
  | [.int v] => some (some (.int v))
  | _ => none
def pr_z : List Value → Option (Option Value)
  | [.int v] => if v = 0 ∨ v = 1 then some (some (.int v)) else none
  | _ => none
def pr_l : List Value → Option (Option Value)
  | [.long v] => some (some (.long v))
  | _ => none
def pr_a : List Value → Option (Option Value)
  | [.ref v] => some (some (.ref v))
  | _ => none
def pr_v : List Value → Option (Option Value) := fun st => match st with
  | [] => some none
  | _ => none
end
section
/-! ===== THE PURE MACHINE IS THE MACHINE: what holds between them, and a row a step ===== -/
def px_TB : List Cond := lw_tbl.filter goodWord
theorem px_in {w : Cond} (i : Nat) (h : lw_tbl[i]? = some w) (g : goodWord w = true) : w ∈ px_TB := List.mem_filter.mpr ⟨List.mem_of_getElem? h, g⟩
theorem px_good {ws : List Cond} (h : ∀ w ∈ ws, w ∈ px_TB) : GoodIn px_TB ws := fun w hw => ⟨h w hw, good_of_word (List.mem_filter.mp (h w hw)).2⟩
def px_FR (j : Nat) : Int32 := ([0, 50, 1, 14, 5] : List Int32).getD j 0
def px_RB (j : Nat) : Int32 := ([2, 100, 1, 14, 5] : List Int32).getD j 0
def px_sl : List Nat := [4, 3, 5, 4, 4, 3, 2]
def px_sb : List (List Int32) := [[110, 101, 97, 114], [102, 105, 116], [116, 114, 117, 115, 116], [107, 101, 101, 112], [100, 101, 101, 112], [121, 101, 115], [110, 111]]
def px_si (i : Nat) : Nat := [90, 92, 94, 96, 98, 72, 78].getD i 0
def px_sx (i : Nat) : String := ["near", "fit", "trust", "keep", "deep", "yes", "no"].getD i ""
/-- what stays: the nest's words, the two static rows, the texts of the program -/
def px_X (ad : Nat → Nat) (A : Nat → Prop) (U : State) (H : Heap) : Prop :=
  (va_Nw (.methodLinkNest RX1 59 yX8_spotOf RX8) U ∧ va_Nw (.methodLinkNest RX0 48 yX8_spotOf RX8) U ∧ va_Nw (.methodLinkNest RX2 92 yX8_spotOf RX8) U ∧ va_Nw (.methodLinkNest RX3 73 yX8_spotOf RX8) U ∧ va_Nw (.fieldLinkNest RX6 25 RX8 "FIRST_RULES" "[I" RX8) U ∧ va_Nw (.fieldLinkNest RX6 83 RX8 "RULE_BOUNDS" "[I" RX8) U) ∧
  (va_Z RX8 "FIRST_RULES" "[I" (.ref (ad 100)) A U H ∧ (va_X (ad 100) 5 px_FR U H ∧ ¬ A (ad 100)) ∧ va_Z RX8 "RULE_BOUNDS" "[I" (.ref (ad 101)) A U H ∧ va_T .int (ad 101) 5 (fun j => .int (px_RB j)) A U H) ∧
  (va_Z RJ0 "COMPACT_STRINGS" "Z" (.int 1) A U H ∧ va_Z RJ3 "SIOOBE_FORMATTER" "Ljava/util/function/BiFunction;" (px_mv ad (.float 0)) A U H) ∧
  vk_S 7 px_sl px_sb (fun i => ad (110 + i)) (fun i => ad (120 + i)) A U H ∧ ∀ i, i < 7 → vk_R RX6 (px_si i) (px_sx i) (ad (110 + i)) U
theorem px_X.moved {ad : Nat → Nat} {A : Nat → Prop} {s U : State} {H : Heap} (hW : s.WarmedH U.vm) (h : px_X ad A s H) : px_X ad A U H := by
  obtain ⟨⟨a1, a2, a3, a4, a5, a6⟩, ⟨b1, b2, b3, b4⟩, ⟨b5, b6⟩, c1, c2⟩ := h
  exact ⟨⟨a1.warmM hW, a2.warmM hW, a3.warmM hW, a4.warmM hW, a5.warmF hW, a6.warmF hW⟩, ⟨b1.moved hW.alike, ⟨b2.1.moved hW.alike, b2.2⟩, b3.moved hW.alike, b4.moved hW.alike⟩, ⟨b5.moved hW.alike, b6.moved hW.alike⟩, c1.moved hW.alike, fun i hi => (c2 i hi).warm hW⟩
theorem px_X.same {ad : Nat → Nat} {A : Nat → Prop} {s U : State} {H : Heap} (hv : U.vm = s.vm) (h : px_X ad A s H) : px_X ad A U H := by
  obtain ⟨⟨a1, a2, a3, a4, a5, a6⟩, ⟨b1, b2, b3, b4⟩, ⟨b5, b6⟩, c1, c2⟩ := h
  have hal : s.vm.Alike U.vm := by rw [hv]; exact Vm.Alike.refl _
  exact ⟨⟨a1.same rfl hv.symm, a2.same rfl hv.symm, a3.same rfl hv.symm, a4.same rfl hv.symm, a5.same rfl hv.symm, a6.same rfl hv.symm⟩, ⟨b1.moved hal, ⟨b2.1.moved hal, b2.2⟩, b3.moved hal, b4.moved hal⟩, ⟨b5.moved hal, b6.moved hal⟩, c1.moved hal, fun i hi => (c2 i hi).same hv⟩
theorem px_X.kept {ad : Nat → Nat} {A : Nat → Prop} {U : State} {H H1 : Heap} (h : px_X ad A U H) (hq : ∀ a : Nat, a < H.size → ¬ A a → H1[a]? = H[a]?) : px_X ad A U H1 := by
  obtain ⟨a, ⟨b1, b2, b3, b4⟩, ⟨b5, b6⟩, c1, c2⟩ := h
  have hlt : ad 100 < H.size := by
    obtain ⟨scr, h1, -⟩ := b2.1
    exact (Array.getElem?_eq_some_iff.mp h1).1
  exact ⟨a, ⟨b1.kept hq, ⟨b2.1.kept (hq _ hlt b2.2), b2.2⟩, b3.kept hq, b4.kept hq⟩, ⟨b5.kept hq, b6.kept hq⟩, c1.kept hq, c2⟩
theorem px_X.narrow {ad : Nat → Nat} {A B : Nat → Prop} {U : State} {H : Heap} (h : px_X ad A U H) (hAB : ∀ q, B q → A q) : px_X ad B U H := by
  obtain ⟨a, ⟨b1, b2, b3, b4⟩, ⟨b5, b6⟩, c1, c2⟩ := h
  exact ⟨a, ⟨b1.narrow hAB, ⟨b2.1, fun z => b2.2 (hAB _ z)⟩, b3.narrow hAB, b4.narrow hAB⟩, ⟨b5.narrow hAB, b6.narrow hAB⟩, c1.narrow hAB, c2⟩
theorem px_X.ad {ad ad' : Nat → Nat} {A : Nat → Prop} {U : State} {H : Heap} (hd : ∀ k, k ≠ 33 → ad' k = ad k) (h : px_X ad A U H) : px_X ad' A U H := by
  obtain ⟨a, ⟨b1, b2, b3, b4⟩, ⟨b5, b6⟩, c1, c2⟩ := h
  have e1 : (fun i => ad' (110 + i)) = fun i => ad (110 + i) := funext fun i => hd _ (by omega)
  have e2 : (fun i => ad' (120 + i)) = fun i => ad (120 + i) := funext fun i => hd _ (by omega)
  have e3 : px_mv ad' (.float 0) = px_mv ad (.float 0) := by simp only [px_mv, hd 130 (by decide), hd 131 (by decide)]
  refine ⟨a, ⟨?_, ?_, ?_, ?_⟩, ⟨b5, by rw [e3]; exact b6⟩, ?_, fun i hi => ?_⟩
  · rw [hd 100 (by decide)]; exact b1
  · rw [hd 100 (by decide)]; exact b2
  · rw [hd 101 (by decide)]; exact b3
  · rw [hd 101 (by decide)]; exact b4
  · rw [e1, e2]; exact c1
  · rw [hd (110 + i) (by omega)]; exact c2 i hi
/-- the worlds: the machine's heap holds the state -/
def px_R (D : va_G) (cs : px_C) (A : Nat → Prop) (s : State) (ad : Nat → Nat) (σ : px_S) (H : Heap) (locs : List Loc) : Prop :=
  va_K D vwCl (px_tys cs) s ∧ va_P D vwCl (px_W cs ad σ) H ∧ va_D A (px_W cs ad σ) ∧ va_S A s.heap H locs ∧ px_X ad A s s.heap ∧ ∀ q, s.heap.size ≤ q → A q
/-- the locals -/
def px_L (ad : Nat → Nat) (nL : Nat) (ls : List Value) (lsM : Array Slot) : Prop := lsM.size = nL ∧ lv_wf lsM ∧ ∀ (i : Nat) (v : Value), ls[i]? = some v → v ≠ .null → lsM[i]? = some (.val (px_mv ad v))
theorem px_mv_cat (ad : Nat → Nat) (v : Value) : (px_mv ad v).category = v.category := by
  cases v with
  | float b => simp only [px_mv]; split <;> rfl
  | _ => rfl
/-- the list that the kit's rows speak of -/
def px_asc (ad : Nat → Nat) (ls : List Value) : List (Nat × Value) := (List.range ls.length).filterMap fun i => match ls[i]? with
  | some v => if v = .null then none else some (i, px_mv ad v)
  | none => none
theorem px_asc_mem {ad : Nat → Nat} {ls : List Value} {q : Nat × Value} : q ∈ px_asc ad ls ↔ ∃ v, ls[q.1]? = some v ∧ v ≠ .null ∧ q.2 = px_mv ad v := by
  unfold px_asc
  rw [List.mem_filterMap]
  constructor
  · rintro ⟨i, -, h⟩
    cases hv : ls[i]? with
    | none => simp [hv] at h
    | some v =>
      simp only [hv] at h
      by_cases hn : v = .null
      · simp [hn] at h
      · rw [if_neg hn] at h
        cases h
        exact ⟨v, hv, hn, rfl⟩
  · rintro ⟨v, h1, h2, h3⟩
    refine ⟨q.1, List.mem_range.mpr (List.getElem?_eq_some_iff.mp h1).1, ?_⟩
    simp only [h1, if_neg h2, ← h3]
theorem px_L.has {ad : Nat → Nat} {nL : Nat} {ls : List Value} {lsM : Array Slot} (h : px_L ad nL ls lsM) : lv_has lsM nL (px_asc ad ls) := by
  refine ⟨h.1, h.2.1, fun q hq => ?_⟩
  obtain ⟨v, h1, h2, h3⟩ := px_asc_mem.mp hq
  rw [h3]
  exact h.2.2 q.1 v h1 h2
theorem px_kill_get {ls : List Value} {i j : Nat} {v : Value} (h : (px_kill ls i)[j]? = some v) (hn : v ≠ .null) : ls[j]? = some v ∧ ¬ (j + 1 = i ∧ v.category = 2) := by
  cases i with
  | zero => exact ⟨h, fun z => by omega⟩
  | succ i =>
    unfold px_kill at h
    dsimp only at h
    cases hv : ls[i]? with
    | none =>
      simp only [hv] at h
      refine ⟨h, fun z => ?_⟩
      have : j = i := by omega
      subst this
      rw [hv] at h; cases h
    | some w =>
      have key : ∀ (hc : w.category = 2), (ls.set i .null)[j]? = some v → ls[j]? = some v ∧ ¬ (j + 1 = i + 1 ∧ v.category = 2) := by
        intro hc h
        by_cases hj : j = i
        · subst hj
          rw [List.getElem?_set_self (List.getElem?_eq_some_iff.mp hv).1] at h
          cases h
          exact absurd rfl hn
        · rw [List.getElem?_set_ne (Ne.symm hj)] at h
          exact ⟨h, fun z => hj (by omega)⟩
      have key1 : ∀ (hc : w.category = 1), ls[j]? = some v → ls[j]? = some v ∧ ¬ (j + 1 = i + 1 ∧ v.category = 2) := by
        intro hc h9
        refine ⟨h9, fun z => ?_⟩
        have e9 : j = i := by omega
        rw [e9, hv] at h9
        have e8 : w = v := Option.some.inj h9
        rw [← e8] at z
        omega
      cases w with
      | long x => simp only [hv] at h; exact key rfl h
      | double x => simp only [hv] at h; exact key rfl h
      | int x => simp only [hv] at h; exact key1 rfl h
      | float x => simp only [hv] at h; exact key1 rfl h
      | null => simp only [hv] at h; exact key1 rfl h
      | ref x => simp only [hv] at h; exact key1 rfl h
      | retAddr x => simp only [hv] at h; exact key1 rfl h
theorem px_L.of_has {ad : Nat → Nat} {nL i : Nat} {ls : List Value} {lsM : Array Slot} {x : Value} (h : lv_has lsM nL ((i, px_mv ad x) :: (px_asc ad ls).filter (fun q => !(q.1 == i) && !(q.1 + 1 == i && q.2.category == 2)))) : px_L ad nL (px_st1 ls i x) lsM := by
  refine ⟨h.1, h.2.1, fun j v hj hn => ?_⟩
  unfold px_st1 at hj
  by_cases hji : j = i
  · subst hji
    have hlt : j < (px_kill ls j).length := by
      have := (List.getElem?_eq_some_iff.mp hj).1
      simpa using this
    rw [List.getElem?_set_self hlt] at hj
    cases hj
    exact h.2.2 _ List.mem_cons_self
  · rw [List.getElem?_set_ne (Ne.symm hji)] at hj
    obtain ⟨h1, h2⟩ := px_kill_get hj hn
    refine h.2.2 (j, px_mv ad v) (List.mem_cons_of_mem _ (List.mem_filter.mpr ⟨px_asc_mem.mpr ⟨v, h1, hn, rfl⟩, ?_⟩))
    dsimp only
    rw [px_mv_cat]
    simp only [Bool.and_eq_true, Bool.not_eq_true', beq_eq_false_iff_ne, Bool.and_eq_false_iff]
    refine ⟨hji, ?_⟩
    by_cases hz : j + 1 = i
    · exact Or.inr (fun z => h2 ⟨hz, z⟩)
    · exact Or.inl hz
theorem px_L.of_has2 {ad : Nat → Nat} {nL i : Nat} {ls : List Value} {lsM : Array Slot} {x : Value} (h : lv_has lsM nL ((i, px_mv ad x) :: (px_asc ad ls).filter (fun q => !(q.1 == i) && (!(q.1 == i + 1) && !(q.1 + 1 == i && q.2.category == 2))))) : px_L ad nL (px_st2 ls i x) lsM := by
  refine ⟨h.1, h.2.1, fun j v hj hn => ?_⟩
  unfold px_st2 at hj
  by_cases hji : j = i
  · subst hji
    have hlt : j < ((px_kill ls j).set (j + 1) .null).length := by
      have := (List.getElem?_eq_some_iff.mp hj).1
      simpa using this
    rw [List.getElem?_set_self hlt] at hj
    cases hj
    exact h.2.2 _ List.mem_cons_self
  · rw [List.getElem?_set_ne (Ne.symm hji)] at hj
    by_cases hj1 : j = i + 1
    · subst hj1
      have hlt : i + 1 < (px_kill ls i).length := by
        have := (List.getElem?_eq_some_iff.mp hj).1
        simpa using this
      rw [List.getElem?_set_self hlt] at hj
      cases hj
      exact absurd rfl hn
    · rw [List.getElem?_set_ne (Ne.symm hj1)] at hj
      obtain ⟨h1, h2⟩ := px_kill_get hj hn
      refine h.2.2 (j, px_mv ad v) (List.mem_cons_of_mem _ (List.mem_filter.mpr ⟨px_asc_mem.mpr ⟨v, h1, hn, rfl⟩, ?_⟩))
      dsimp only
      rw [px_mv_cat]
      simp only [Bool.and_eq_true, Bool.not_eq_true', beq_eq_false_iff_ne, Bool.and_eq_false_iff]
      refine ⟨hji, hj1, ?_⟩
      by_cases hz : j + 1 = i
      · exact Or.inr (fun z => h2 ⟨hz, z⟩)
      · exact Or.inl hz
/-- no hold on 'cells': the values stay when its address moves -/
theorem px_mv_nc {ad ad' : Nat → Nat} (hd : ∀ k, k ≠ 33 → ad' k = ad k) {v : Value} (h : px_nc v = true) : px_mv ad' v = px_mv ad v := by
  cases v with
  | ref k =>
    have hk : k ≠ 33 := by simpa [px_nc] using h
    show Value.ref (ad' k) = Value.ref (ad k)
    rw [hd k hk]
  | float b => simp only [px_mv, hd 130 (by decide), hd 131 (by decide)]
  | _ => rfl
theorem px_mv_ncs {ad ad' : Nat → Nat} (hd : ∀ k, k ≠ 33 → ad' k = ad k) {st : List Value} (h : st.all px_nc = true) : st.map (px_mv ad') = st.map (px_mv ad) :=
  List.map_congr_left fun v hv => px_mv_nc hd (List.all_eq_true.mp h v hv)
theorem px_L.ad {ad ad' : Nat → Nat} {nL : Nat} {ls : List Value} {lsM : Array Slot} (hd : ∀ k, k ≠ 33 → ad' k = ad k) (hn : ls.all px_nc = true) (h : px_L ad nL ls lsM) : px_L ad' nL ls lsM :=
  ⟨h.1, h.2.1, fun i v hv hz => by rw [px_mv_nc hd (List.all_eq_true.mp hn v (List.mem_of_getElem? hv))]; exact h.2.2 i v hv hz⟩
/-- a step that calls nothing: what the table's step does, the machine does -/
def px_Sp (own : String) (cc : ByteArray) (nL pc : Nat) (f : px_F) : Prop :=
  ∀ (ls st : List Value) (σ : px_S) (q : Nat × List Value × List Value × px_S), f ls st σ = some q → px_le σ q.2.2.2 ∧
    ∀ (p : Program) (l : Launch) (e : Env) (R : Room) (s : State) (m : MethodId) (args : Array Value) (below : List Frame) (meth : Method) (c : Code) (H : Heap) (locs : List Loc) (cells slots : Nat) (Q : State → Prop) (D : va_G) (cs : px_C) (A : Nat → Prop) (ad : Nat → Nat) (lsM : Array Slot),
      CallFix p m c cc nL s args px_TB own → 1 ≤ R.frames → 44 ≤ R.locals → px_R D cs A s ad σ H locs → px_L ad nL ls lsM →
      cells + (px_cc q.2.2.2 - px_cc σ) ≤ R.cells → slots + (px_cs q.2.2.2 - px_cs σ) ≤ R.slots →
      (∀ (ad' : Nat → Nat) (H' : Heap) (locs' : List Loc) (lsM' : Array Slot), (∀ k, k ≠ 33 → ad' k = ad k) → px_R D cs A s ad' q.2.2.2 H' locs' → px_L ad' nL q.2.1 lsM' →
        W p l e R s m args below meth c H' locs' (cells + (px_cc q.2.2.2 - px_cc σ)) (slots + (px_cs q.2.2.2 - px_cs σ)) Q (F0 m q.1 lsM' (q.2.2.1.map (px_mv ad')))) →
      W p l e R s m args below meth c H locs cells slots Q (F0 m pc lsM (st.map (px_mv ad)))
/-- a step that leaves the state -/
def px_Sq (own : String) (cc : ByteArray) (nL pc : Nat) (f : px_F) : Prop :=
  ∀ (ls st : List Value) (σ : px_S) (q : Nat × List Value × List Value × px_S), f ls st σ = some q → q.2.2.2 = σ ∧
    ∀ (p : Program) (l : Launch) (e : Env) (R : Room) (s : State) (m : MethodId) (args : Array Value) (below : List Frame) (meth : Method) (c : Code) (H : Heap) (locs : List Loc) (cells slots : Nat) (Q : State → Prop) (D : va_G) (cs : px_C) (A : Nat → Prop) (ad : Nat → Nat) (lsM : Array Slot),
      CallFix p m c cc nL s args px_TB own → 1 ≤ R.frames → 44 ≤ R.locals → cells ≤ R.cells → slots ≤ R.slots → px_R D cs A s ad σ H locs → px_L ad nL ls lsM →
      (∀ lsM' : Array Slot, px_L ad nL q.2.1 lsM' → W p l e R s m args below meth c H locs cells slots Q (F0 m q.1 lsM' (q.2.2.1.map (px_mv ad)))) →
      W p l e R s m args below meth c H locs cells slots Q (F0 m pc lsM (st.map (px_mv ad)))
theorem px_Sp.of {own : String} {cc : ByteArray} {nL pc : Nat} {f : px_F} (h : px_Sq own cc nL pc f) : px_Sp own cc nL pc f := by
  intro ls st σ q hq
  obtain ⟨e0, h1⟩ := h ls st σ q hq
  refine ⟨by rw [e0]; exact ⟨Nat.le_refl _, Nat.le_refl _⟩, ?_⟩
  intro p l e R s m args below meth c H locs cells slots Q D cs A ad lsM C h2 h3 hR hL h4 h5 k
  rw [e0] at h4 h5 k
  simp only [Nat.sub_self, Nat.add_zero] at h4 h5 k
  exact h1 p l e R s m args below meth c H locs cells slots Q D cs A ad lsM C h2 h3 h4 h5 hR hL (fun lsM' hL' => k ad H locs lsM' (fun _ _ => rfl) hR hL')
end
section
theorem ps_iconst {own : String} {cc : ByteArray} {nL pc : Nat} {n : Int} {v : Int32} (hd : decode cc pc = .ok (.iconst n, 1)) (hv : Int32.ofInt n = v) : px_Sq own cc nL pc (pi_const (pc + 1) (.int v)) := by
  intro ls st σ q h
  cases h
  refine ⟨rfl, ?_⟩
  intro p l e R s m args below meth c H locs cells slots Q D cs A ad lsM C hfr hlo hcc hss hR hL k
  exact lv_iconst C.1 C.2.1 hd hv (k lsM hL)
theorem ps_bipush {own : String} {cc : ByteArray} {nL pc : Nat} {n : Int} {v : Int32} (hd : decode cc pc = .ok (.bipush n, 2)) (hv : (Int8.ofInt n).toInt32 = v) : px_Sq own cc nL pc (pi_const (pc + 2) (.int v)) := by
  intro ls st σ q h
  cases h
  refine ⟨rfl, ?_⟩
  intro p l e R s m args below meth c H locs cells slots Q D cs A ad lsM C hfr hlo hcc hss hR hL k
  exact lv_bipush C.1 C.2.1 hd hv (k lsM hL)
theorem ps_sipush {own : String} {cc : ByteArray} {nL pc : Nat} {n : Int} {v : Int32} (hd : decode cc pc = .ok (.sipush n, 3)) (hv : (Int16.ofInt n).toInt32 = v) : px_Sq own cc nL pc (pi_const (pc + 3) (.int v)) := by
  intro ls st σ q h
  cases h
  refine ⟨rfl, ?_⟩
  intro p l e R s m args below meth c H locs cells slots Q D cs A ad lsM C hfr hlo hcc hss hR hL k
  exact lv_sipush C.1 C.2.1 hd hv (k lsM hL)
theorem ps_lconst {own : String} {cc : ByteArray} {nL pc : Nat} {n : Fin 2} {v : Int64} (hd : decode cc pc = .ok (.lconst n, 1)) (hv : Int64.ofNat (n : Nat) = v) : px_Sq own cc nL pc (pi_const (pc + 1) (.long v)) := by
  intro ls st σ q h
  cases h
  refine ⟨rfl, ?_⟩
  intro p l e R s m args below meth c H locs cells slots Q D cs A ad lsM C hfr hlo hcc hss hR hL k
  exact lv_lconst C.1 C.2.1 hd hv (k lsM hL)
theorem ps_ldc {own : String} {cc : ByteArray} {nL pc : Nat} {idx : Nat} {v : Int32} (hd : decode cc pc = .ok (.ldc idx, 2)) (hw : Cond.constant own idx v ∈ px_TB) : px_Sq own cc nL pc (pi_const (pc + 2) (.int v)) := by
  intro ls st σ q h
  cases h
  refine ⟨rfl, ?_⟩
  intro p l e R s m args below meth c H locs cells slots Q D cs A ad lsM C hfr hlo hcc hss hR hL k
  exact lv_ldc C.1 C.2.1 C.2.2.2.1 (C.2.2.2.2 _ hw) hd (k lsM hL)
theorem ps_ldc2 {own : String} {cc : ByteArray} {nL pc : Nat} {idx : Nat} {v : Int64} (hd : decode cc pc = .ok (.ldc2_w idx, 3)) (hw : Cond.constantLong own idx v ∈ px_TB) : px_Sq own cc nL pc (pi_const (pc + 3) (.long v)) := by
  intro ls st σ q h
  cases h
  refine ⟨rfl, ?_⟩
  intro p l e R s m args below meth c H locs cells slots Q D cs A ad lsM C hfr hlo hcc hss hR hL k
  exact lv_ldc2 C.1 C.2.1 C.2.2.2.1 (C.2.2.2.2 _ hw) hd (k lsM hL)
theorem ps_iload_n {own : String} {cc : ByteArray} {nL pc : Nat} {k0 : Fin 4} {i : Nat} (hd : decode cc pc = .ok (.iload_n k0, 1)) (hi : (k0 : Nat) = i) : px_Sq own cc nL pc (pi_iload (pc + 1) i) := by
  intro ls st σ q h
  unfold pi_iload at h
  split at h
  next x hx =>
    cases h
    refine ⟨rfl, ?_⟩
    intro p l e R s m args below meth c H locs cells slots Q D cs A ad lsM C hfr hlo hcc hss hR hL k
    exact lv_iload_n C.1 C.2.1 hd hi (hL.2.2 i _ hx (by simp)) (k lsM hL)
  next => cases h
theorem ps_iload {own : String} {cc : ByteArray} {nL pc : Nat} {i : Nat} (hd : decode cc pc = .ok (.iload i, 2)) : px_Sq own cc nL pc (pi_iload (pc + 2) i) := by
  intro ls st σ q h
  unfold pi_iload at h
  split at h
  next x hx =>
    cases h
    refine ⟨rfl, ?_⟩
    intro p l e R s m args below meth c H locs cells slots Q D cs A ad lsM C hfr hlo hcc hss hR hL k
    exact lv_iload C.1 C.2.1 hd (hL.2.2 i _ hx (by simp)) (k lsM hL)
  next => cases h
theorem ps_lload_n {own : String} {cc : ByteArray} {nL pc : Nat} {k0 : Fin 4} {i : Nat} (hd : decode cc pc = .ok (.lload_n k0, 1)) (hi : (k0 : Nat) = i) : px_Sq own cc nL pc (pi_lload (pc + 1) i) := by
  intro ls st σ q h
  unfold pi_lload at h
  split at h
  next x hx =>
    cases h
    refine ⟨rfl, ?_⟩
    intro p l e R s m args below meth c H locs cells slots Q D cs A ad lsM C hfr hlo hcc hss hR hL k
    exact lv_lload_n C.1 C.2.1 hd hi (hL.2.2 i _ hx (by simp)) (k lsM hL)
  next => cases h
theorem ps_lload {own : String} {cc : ByteArray} {nL pc : Nat} {i : Nat} (hd : decode cc pc = .ok (.lload i, 2)) : px_Sq own cc nL pc (pi_lload (pc + 2) i) := by
  intro ls st σ q h
  unfold pi_lload at h
  split at h
  next x hx =>
    cases h
    refine ⟨rfl, ?_⟩
    intro p l e R s m args below meth c H locs cells slots Q D cs A ad lsM C hfr hlo hcc hss hR hL k
    exact lv_lload C.1 C.2.1 hd (hL.2.2 i _ hx (by simp)) (k lsM hL)
  next => cases h
theorem ps_aload_n {own : String} {cc : ByteArray} {nL pc : Nat} {k0 : Fin 4} {i : Nat} (hd : decode cc pc = .ok (.aload_n k0, 1)) (hi : (k0 : Nat) = i) : px_Sq own cc nL pc (pi_aload (pc + 1) i) := by
  intro ls st σ q h
  unfold pi_aload at h
  split at h
  next x hx =>
    cases h
    refine ⟨rfl, ?_⟩
    intro p l e R s m args below meth c H locs cells slots Q D cs A ad lsM C hfr hlo hcc hss hR hL k
    exact lv_aload_n C.1 C.2.1 hd hi (hL.2.2 i _ hx (by simp)) (k lsM hL)
  next => cases h
theorem ps_aload {own : String} {cc : ByteArray} {nL pc : Nat} {i : Nat} (hd : decode cc pc = .ok (.aload i, 2)) : px_Sq own cc nL pc (pi_aload (pc + 2) i) := by
  intro ls st σ q h
  unfold pi_aload at h
  split at h
  next x hx =>
    cases h
    refine ⟨rfl, ?_⟩
    intro p l e R s m args below meth c H locs cells slots Q D cs A ad lsM C hfr hlo hcc hss hR hL k
    exact lv_aload C.1 C.2.1 hd (hL.2.2 i _ hx (by simp)) (k lsM hL)
  next => cases h
theorem ps_istore_n {own : String} {cc : ByteArray} {nL pc : Nat} {k0 : Fin 4} {i : Nat} (hd : decode cc pc = .ok (.istore_n k0, 1)) (hi : (k0 : Nat) = i) (hn : i < nL) : px_Sq own cc nL pc (pi_istore (pc + 1) i) := by
  intro ls st σ q h
  unfold pi_istore at h
  split at h
  next x st' =>
    cases h
    refine ⟨rfl, ?_⟩
    intro p l e R s m args below meth c H locs cells slots Q D cs A ad lsM C hfr hlo hcc hss hR hL k
    exact lv_istore_n C.1 C.2.1 hd hi hL.has hn rfl (fun ls' h' => k ls' (px_L.of_has (x := .int x) h'))
  next => cases h
theorem ps_istore {own : String} {cc : ByteArray} {nL pc : Nat} {i : Nat} (hd : decode cc pc = .ok (.istore i, 2)) (hn : i < nL) : px_Sq own cc nL pc (pi_istore (pc + 2) i) := by
  intro ls st σ q h
  unfold pi_istore at h
  split at h
  next x st' =>
    cases h
    refine ⟨rfl, ?_⟩
    intro p l e R s m args below meth c H locs cells slots Q D cs A ad lsM C hfr hlo hcc hss hR hL k
    exact lv_istore C.1 C.2.1 hd hL.has hn rfl (fun ls' h' => k ls' (px_L.of_has (x := .int x) h'))
  next => cases h
theorem ps_lstore_n {own : String} {cc : ByteArray} {nL pc : Nat} {k0 : Fin 4} {i : Nat} (hd : decode cc pc = .ok (.lstore_n k0, 1)) (hi : (k0 : Nat) = i) (hn : i + 1 < nL) : px_Sq own cc nL pc (pi_lstore (pc + 1) i) := by
  intro ls st σ q h
  unfold pi_lstore at h
  split at h
  next x st' =>
    cases h
    refine ⟨rfl, ?_⟩
    intro p l e R s m args below meth c H locs cells slots Q D cs A ad lsM C hfr hlo hcc hss hR hL k
    exact lv_lstore_n C.1 C.2.1 hd hi hL.has hn rfl (fun ls' h' => k ls' (px_L.of_has2 (x := .long x) h'))
  next => cases h
theorem ps_lstore {own : String} {cc : ByteArray} {nL pc : Nat} {i : Nat} (hd : decode cc pc = .ok (.lstore i, 2)) (hn : i + 1 < nL) : px_Sq own cc nL pc (pi_lstore (pc + 2) i) := by
  intro ls st σ q h
  unfold pi_lstore at h
  split at h
  next x st' =>
    cases h
    refine ⟨rfl, ?_⟩
    intro p l e R s m args below meth c H locs cells slots Q D cs A ad lsM C hfr hlo hcc hss hR hL k
    exact lv_lstore C.1 C.2.1 hd hL.has hn rfl (fun ls' h' => k ls' (px_L.of_has2 (x := .long x) h'))
  next => cases h
theorem ps_iinc {own : String} {cc : ByteArray} {nL pc : Nat} {i : Nat} {n : Int} {v : Int32} (hd : decode cc pc = .ok (.iinc i n, 3)) (hv : Int32.ofInt n = v) (hn : i < nL) : px_Sq own cc nL pc (pi_iinc (pc + 3) i v) := by
  intro ls st σ q h
  unfold pi_iinc at h
  split at h
  next x hx =>
    cases h
    refine ⟨rfl, ?_⟩
    intro p l e R s m args below meth c H locs cells slots Q D cs A ad lsM C hfr hlo hcc hss hR hL k
    obtain ⟨k9, hk9⟩ := List.getElem?_of_mem (px_asc_mem.mpr ⟨.int x, hx, by simp, rfl⟩ : (i, Value.int x) ∈ px_asc ad ls)
    exact lv_iinc C.1 C.2.1 hd hL.has hk9 (by rw [hv]) hn rfl (fun ls' h' => k ls' (px_L.of_has (x := .int (x + v)) h'))
  next => cases h
theorem ps_iadd {own : String} {cc : ByteArray} {nL pc : Nat} (hd : decode cc pc = .ok (.iadd, 1)) : px_Sq own cc nL pc (pi_bin (pc + 1) (fun x y => x + y)) := by
  intro ls st σ q h
  unfold pi_bin at h
  split at h
  next y x st' =>
    cases h
    refine ⟨rfl, ?_⟩
    intro p l e R s m args below meth c H locs cells slots Q D cs A ad lsM C hfr hlo hcc hss hR hL k
    exact lv_iadd C.1 C.2.1 hd (k lsM hL)
  next => cases h
theorem ps_isub {own : String} {cc : ByteArray} {nL pc : Nat} (hd : decode cc pc = .ok (.isub, 1)) : px_Sq own cc nL pc (pi_bin (pc + 1) (fun x y => x - y)) := by
  intro ls st σ q h
  unfold pi_bin at h
  split at h
  next y x st' =>
    cases h
    refine ⟨rfl, ?_⟩
    intro p l e R s m args below meth c H locs cells slots Q D cs A ad lsM C hfr hlo hcc hss hR hL k
    exact lv_isub C.1 C.2.1 hd (k lsM hL)
  next => cases h
theorem ps_imul {own : String} {cc : ByteArray} {nL pc : Nat} (hd : decode cc pc = .ok (.imul, 1)) : px_Sq own cc nL pc (pi_bin (pc + 1) (fun x y => x * y)) := by
  intro ls st σ q h
  unfold pi_bin at h
  split at h
  next y x st' =>
    cases h
    refine ⟨rfl, ?_⟩
    intro p l e R s m args below meth c H locs cells slots Q D cs A ad lsM C hfr hlo hcc hss hR hL k
    exact lv_imul C.1 C.2.1 hd (k lsM hL)
  next => cases h
theorem ps_iand {own : String} {cc : ByteArray} {nL pc : Nat} (hd : decode cc pc = .ok (.iand, 1)) : px_Sq own cc nL pc (pi_bin (pc + 1) (fun x y => x &&& y)) := by
  intro ls st σ q h
  unfold pi_bin at h
  split at h
  next y x st' =>
    cases h
    refine ⟨rfl, ?_⟩
    intro p l e R s m args below meth c H locs cells slots Q D cs A ad lsM C hfr hlo hcc hss hR hL k
    exact lv_iand C.1 C.2.1 hd (k lsM hL)
  next => cases h
theorem ps_ior {own : String} {cc : ByteArray} {nL pc : Nat} (hd : decode cc pc = .ok (.ior, 1)) : px_Sq own cc nL pc (pi_bin (pc + 1) (fun x y => x ||| y)) := by
  intro ls st σ q h
  unfold pi_bin at h
  split at h
  next y x st' =>
    cases h
    refine ⟨rfl, ?_⟩
    intro p l e R s m args below meth c H locs cells slots Q D cs A ad lsM C hfr hlo hcc hss hR hL k
    exact lv_ior C.1 C.2.1 hd (k lsM hL)
  next => cases h
theorem ps_ishl {own : String} {cc : ByteArray} {nL pc : Nat} (hd : decode cc pc = .ok (.ishl, 1)) : px_Sq own cc nL pc (pi_bin (pc + 1) (fun x y => x <<< (y &&& 31))) := by
  intro ls st σ q h
  unfold pi_bin at h
  split at h
  next y x st' =>
    cases h
    refine ⟨rfl, ?_⟩
    intro p l e R s m args below meth c H locs cells slots Q D cs A ad lsM C hfr hlo hcc hss hR hL k
    exact lv_ishl C.1 C.2.1 hd (k lsM hL)
  next => cases h
theorem ps_ishr {own : String} {cc : ByteArray} {nL pc : Nat} (hd : decode cc pc = .ok (.ishr, 1)) : px_Sq own cc nL pc (pi_bin (pc + 1) (fun x y => x >>> (y &&& 31))) := by
  intro ls st σ q h
  unfold pi_bin at h
  split at h
  next y x st' =>
    cases h
    refine ⟨rfl, ?_⟩
    intro p l e R s m args below meth c H locs cells slots Q D cs A ad lsM C hfr hlo hcc hss hR hL k
    exact lv_ishr C.1 C.2.1 hd (k lsM hL)
  next => cases h
theorem ps_iushr {own : String} {cc : ByteArray} {nL pc : Nat} (hd : decode cc pc = .ok (.iushr, 1)) : px_Sq own cc nL pc (pi_bin (pc + 1) (fun x y => (x.toUInt32 >>> (y.toUInt32 &&& Int32.toUInt32 31)).toInt32)) := by
  intro ls st σ q h
  unfold pi_bin at h
  split at h
  next y x st' =>
    cases h
    refine ⟨rfl, ?_⟩
    intro p l e R s m args below meth c H locs cells slots Q D cs A ad lsM C hfr hlo hcc hss hR hL k
    exact lv_iushr C.1 C.2.1 hd rfl (k lsM hL)
  next => cases h
theorem ps_idiv {own : String} {cc : ByteArray} {nL pc : Nat} (hd : decode cc pc = .ok (.idiv, 1)) : px_Sq own cc nL pc (pi_binz (pc + 1) (fun x y => x / y)) := by
  intro ls st σ q h
  unfold pi_binz at h
  split at h
  next y x st' =>
    split at h
    · cases h
    · rename_i hz
      cases h
      refine ⟨rfl, ?_⟩
      intro p l e R s m args below meth c H locs cells slots Q D cs A ad lsM C hfr hlo hcc hss hR hL k
      exact lv_idiv C.1 C.2.1 hd hz (k lsM hL)
  next => cases h
theorem ps_irem {own : String} {cc : ByteArray} {nL pc : Nat} (hd : decode cc pc = .ok (.irem, 1)) : px_Sq own cc nL pc (pi_binz (pc + 1) (fun x y => x - x / y * y)) := by
  intro ls st σ q h
  unfold pi_binz at h
  split at h
  next y x st' =>
    split at h
    · cases h
    · rename_i hz
      cases h
      refine ⟨rfl, ?_⟩
      intro p l e R s m args below meth c H locs cells slots Q D cs A ad lsM C hfr hlo hcc hss hR hL k
      exact lv_irem C.1 C.2.1 hd hz (k lsM hL)
  next => cases h
theorem ps_land {own : String} {cc : ByteArray} {nL pc : Nat} (hd : decode cc pc = .ok (.land, 1)) : px_Sq own cc nL pc (pi_lbin (pc + 1) (fun x y => x &&& y)) := by
  intro ls st σ q h
  unfold pi_lbin at h
  split at h
  next y x st' =>
    cases h
    refine ⟨rfl, ?_⟩
    intro p l e R s m args below meth c H locs cells slots Q D cs A ad lsM C hfr hlo hcc hss hR hL k
    exact lv_land C.1 C.2.1 hd (k lsM hL)
  next => cases h
theorem ps_lor {own : String} {cc : ByteArray} {nL pc : Nat} (hd : decode cc pc = .ok (.lor, 1)) : px_Sq own cc nL pc (pi_lbin (pc + 1) (fun x y => x ||| y)) := by
  intro ls st σ q h
  unfold pi_lbin at h
  split at h
  next y x st' =>
    cases h
    refine ⟨rfl, ?_⟩
    intro p l e R s m args below meth c H locs cells slots Q D cs A ad lsM C hfr hlo hcc hss hR hL k
    exact lv_lor C.1 C.2.1 hd (k lsM hL)
  next => cases h
theorem ps_lxor {own : String} {cc : ByteArray} {nL pc : Nat} (hd : decode cc pc = .ok (.lxor, 1)) : px_Sq own cc nL pc (pi_lbin (pc + 1) (fun x y => x ^^^ y)) := by
  intro ls st σ q h
  unfold pi_lbin at h
  split at h
  next y x st' =>
    cases h
    refine ⟨rfl, ?_⟩
    intro p l e R s m args below meth c H locs cells slots Q D cs A ad lsM C hfr hlo hcc hss hR hL k
    exact lv_lxor C.1 C.2.1 hd (k lsM hL)
  next => cases h
theorem ps_lushr {own : String} {cc : ByteArray} {nL pc : Nat} (hd : decode cc pc = .ok (.lushr, 1)) : px_Sq own cc nL pc (pi_lsh (pc + 1) (fun x y => (x.toUInt64 >>> (y.toInt64.toUInt64 &&& Int64.toUInt64 63)).toInt64)) := by
  intro ls st σ q h
  unfold pi_lsh at h
  split at h
  next y x st' =>
    cases h
    refine ⟨rfl, ?_⟩
    intro p l e R s m args below meth c H locs cells slots Q D cs A ad lsM C hfr hlo hcc hss hR hL k
    exact lv_lushr C.1 C.2.1 hd rfl (k lsM hL)
  next => cases h
theorem ps_lshl {own : String} {cc : ByteArray} {nL pc : Nat} (hd : decode cc pc = .ok (.lshl, 1)) : px_Sq own cc nL pc (pi_lsh (pc + 1) (fun x y => x <<< (y.toInt64 &&& 63))) := by
  intro ls st σ q h
  unfold pi_lsh at h
  split at h
  next y x st' =>
    cases h
    refine ⟨rfl, ?_⟩
    intro p l e R s m args below meth c H locs cells slots Q D cs A ad lsM C hfr hlo hcc hss hR hL k
    exact lv_lshl C.1 C.2.1 hd rfl (k lsM hL)
  next => cases h
theorem ps_lshr {own : String} {cc : ByteArray} {nL pc : Nat} (hd : decode cc pc = .ok (.lshr, 1)) : px_Sq own cc nL pc (pi_lsh (pc + 1) (fun x y => x >>> (y.toInt64 &&& 63))) := by
  intro ls st σ q h
  unfold pi_lsh at h
  split at h
  next y x st' =>
    cases h
    refine ⟨rfl, ?_⟩
    intro p l e R s m args below meth c H locs cells slots Q D cs A ad lsM C hfr hlo hcc hss hR hL k
    exact lv_lshr C.1 C.2.1 hd rfl (k lsM hL)
  next => cases h
theorem ps_ineg {own : String} {cc : ByteArray} {nL pc : Nat} (hd : decode cc pc = .ok (.ineg, 1)) : px_Sq own cc nL pc (pi_un (pc + 1) (fun x => -x)) := by
  intro ls st σ q h
  unfold pi_un at h
  split at h
  next x st' =>
    cases h
    refine ⟨rfl, ?_⟩
    intro p l e R s m args below meth c H locs cells slots Q D cs A ad lsM C hfr hlo hcc hss hR hL k
    exact lv_ineg C.1 C.2.1 hd (k lsM hL)
  next => cases h
theorem ps_i2l {own : String} {cc : ByteArray} {nL pc : Nat} (hd : decode cc pc = .ok (.i2l, 1)) : px_Sq own cc nL pc (pi_i2l (pc + 1)) := by
  intro ls st σ q h
  unfold pi_i2l at h
  split at h
  next x st' =>
    cases h
    refine ⟨rfl, ?_⟩
    intro p l e R s m args below meth c H locs cells slots Q D cs A ad lsM C hfr hlo hcc hss hR hL k
    exact lv_i2l C.1 C.2.1 hd rfl (k lsM hL)
  next => cases h
theorem ps_l2i {own : String} {cc : ByteArray} {nL pc : Nat} (hd : decode cc pc = .ok (.l2i, 1)) : px_Sq own cc nL pc (pi_l2i (pc + 1)) := by
  intro ls st σ q h
  unfold pi_l2i at h
  split at h
  next x st' =>
    cases h
    refine ⟨rfl, ?_⟩
    intro p l e R s m args below meth c H locs cells slots Q D cs A ad lsM C hfr hlo hcc hss hR hL k
    exact lv_l2i C.1 C.2.1 hd rfl (k lsM hL)
  next => cases h
theorem ps_lcmp {own : String} {cc : ByteArray} {nL pc : Nat} (hd : decode cc pc = .ok (.lcmp, 1)) : px_Sq own cc nL pc (pi_lcmp (pc + 1)) := by
  intro ls st σ q h
  unfold pi_lcmp at h
  split at h
  next y x st' =>
    cases h
    refine ⟨rfl, ?_⟩
    intro p l e R s m args below meth c H locs cells slots Q D cs A ad lsM C hfr hlo hcc hss hR hL k
    exact W.lcmp C.1 C.2.1 hd (k lsM hL)
  next => cases h
theorem ps_dup {own : String} {cc : ByteArray} {nL pc : Nat} (hd : decode cc pc = .ok (.dup, 1)) : px_Sq own cc nL pc (pi_dup (pc + 1)) := by
  intro ls st σ q h
  unfold pi_dup at h
  split at h
  next v st' =>
    split at h
    · rename_i hv
      cases h
      refine ⟨rfl, ?_⟩
      intro p l e R s m args below meth c H locs cells slots Q D cs A ad lsM C hfr hlo hcc hss hR hL k
      exact lv_dup C.1 C.2.1 hd ((px_mv_cat ad v).trans hv) (k lsM hL)
    · cases h
  next => cases h
theorem ps_pop {own : String} {cc : ByteArray} {nL pc : Nat} (hd : decode cc pc = .ok (.pop, 1)) : px_Sq own cc nL pc (pi_pop (pc + 1)) := by
  intro ls st σ q h
  unfold pi_pop at h
  split at h
  next v st' =>
    split at h
    · rename_i hv
      cases h
      refine ⟨rfl, ?_⟩
      intro p l e R s m args below meth c H locs cells slots Q D cs A ad lsM C hfr hlo hcc hss hR hL k
      exact lv_pop C.1 C.2.1 hd ((px_mv_cat ad v).trans hv) (k lsM hL)
    · cases h
  next => cases h
theorem ps_dup2 {own : String} {cc : ByteArray} {nL pc : Nat} (hd : decode cc pc = .ok (.dup2, 1)) : px_Sq own cc nL pc (pi_dup2 (pc + 1)) := by
  intro ls st σ q h
  unfold pi_dup2 at h
  split at h
  next v w st' =>
    split at h
    · rename_i hv
      cases h
      refine ⟨rfl, ?_⟩
      intro p l e R s m args below meth c H locs cells slots Q D cs A ad lsM C hfr hlo hcc hss hR hL k
      exact lv_dup2_11 C.1 C.2.1 hd ((px_mv_cat ad v).trans hv.1) ((px_mv_cat ad w).trans hv.2) (k lsM hL)
    · cases h
  next => cases h
theorem ps_if_eq {own : String} {cc : ByteArray} {nL pc tgt : Nat} {off : Int} (hd : decode cc pc = .ok (.ifCond .eq off, 3)) (ht : (pc : Int) + off = (tgt : Int)) : px_Sq own cc nL pc (pi_if (pc + 3) tgt (fun x => x = 0)) := by
  intro ls st σ q h
  unfold pi_if at h
  split at h
  next x st' =>
    cases h
    refine ⟨rfl, ?_⟩
    intro p l e R s m args below meth c H locs cells slots Q D cs A ad lsM C hfr hlo hcc hss hR hL k
    dsimp only at k
    exact lv_if_eq C.1 C.2.1 hd ht (fun z => by have k := k lsM hL; rw [if_pos z] at k; exact k) (fun z => by have k := k lsM hL; rw [if_neg z] at k; exact k)
  next => cases h
theorem ps_if_ne {own : String} {cc : ByteArray} {nL pc tgt : Nat} {off : Int} (hd : decode cc pc = .ok (.ifCond .ne off, 3)) (ht : (pc : Int) + off = (tgt : Int)) : px_Sq own cc nL pc (pi_if (pc + 3) tgt (fun x => ¬ x = 0)) := by
  intro ls st σ q h
  unfold pi_if at h
  split at h
  next x st' =>
    cases h
    refine ⟨rfl, ?_⟩
    intro p l e R s m args below meth c H locs cells slots Q D cs A ad lsM C hfr hlo hcc hss hR hL k
    dsimp only at k
    exact lv_if_ne C.1 C.2.1 hd ht (fun z => by have k := k lsM hL; rw [if_pos z] at k; exact k) (fun z => by have k := k lsM hL; rw [if_neg (fun w => w z)] at k; exact k)
  next => cases h
theorem ps_if_lt {own : String} {cc : ByteArray} {nL pc tgt : Nat} {off : Int} (hd : decode cc pc = .ok (.ifCond .lt off, 3)) (ht : (pc : Int) + off = (tgt : Int)) : px_Sq own cc nL pc (pi_if (pc + 3) tgt (fun x => x < 0)) := by
  intro ls st σ q h
  unfold pi_if at h
  split at h
  next x st' =>
    cases h
    refine ⟨rfl, ?_⟩
    intro p l e R s m args below meth c H locs cells slots Q D cs A ad lsM C hfr hlo hcc hss hR hL k
    dsimp only at k
    exact lv_if_lt C.1 C.2.1 hd ht (fun z => by have k := k lsM hL; rw [if_pos z] at k; exact k) (fun z => by have k := k lsM hL; rw [if_neg z] at k; exact k)
  next => cases h
theorem ps_if_ge {own : String} {cc : ByteArray} {nL pc tgt : Nat} {off : Int} (hd : decode cc pc = .ok (.ifCond .ge off, 3)) (ht : (pc : Int) + off = (tgt : Int)) : px_Sq own cc nL pc (pi_if (pc + 3) tgt (fun x => 0 ≤ x)) := by
  intro ls st σ q h
  unfold pi_if at h
  split at h
  next x st' =>
    cases h
    refine ⟨rfl, ?_⟩
    intro p l e R s m args below meth c H locs cells slots Q D cs A ad lsM C hfr hlo hcc hss hR hL k
    dsimp only at k
    exact lv_if_ge C.1 C.2.1 hd ht (fun z => by have k := k lsM hL; rw [if_pos z] at k; exact k) (fun z => by have k := k lsM hL; rw [if_neg z] at k; exact k)
  next => cases h
theorem ps_if_gt {own : String} {cc : ByteArray} {nL pc tgt : Nat} {off : Int} (hd : decode cc pc = .ok (.ifCond .gt off, 3)) (ht : (pc : Int) + off = (tgt : Int)) : px_Sq own cc nL pc (pi_if (pc + 3) tgt (fun x => 0 < x)) := by
  intro ls st σ q h
  unfold pi_if at h
  split at h
  next x st' =>
    cases h
    refine ⟨rfl, ?_⟩
    intro p l e R s m args below meth c H locs cells slots Q D cs A ad lsM C hfr hlo hcc hss hR hL k
    dsimp only at k
    exact lv_if_gt C.1 C.2.1 hd ht (fun z => by have k := k lsM hL; rw [if_pos z] at k; exact k) (fun z => by have k := k lsM hL; rw [if_neg z] at k; exact k)
  next => cases h
theorem ps_if_le {own : String} {cc : ByteArray} {nL pc tgt : Nat} {off : Int} (hd : decode cc pc = .ok (.ifCond .le off, 3)) (ht : (pc : Int) + off = (tgt : Int)) : px_Sq own cc nL pc (pi_if (pc + 3) tgt (fun x => x ≤ 0)) := by
  intro ls st σ q h
  unfold pi_if at h
  split at h
  next x st' =>
    cases h
    refine ⟨rfl, ?_⟩
    intro p l e R s m args below meth c H locs cells slots Q D cs A ad lsM C hfr hlo hcc hss hR hL k
    dsimp only at k
    exact lv_if_le C.1 C.2.1 hd ht (fun z => by have k := k lsM hL; rw [if_pos z] at k; exact k) (fun z => by have k := k lsM hL; rw [if_neg z] at k; exact k)
  next => cases h
theorem ps_icmp_eq {own : String} {cc : ByteArray} {nL pc tgt : Nat} {off : Int} (hd : decode cc pc = .ok (.if_icmp .eq off, 3)) (ht : (pc : Int) + off = (tgt : Int)) : px_Sq own cc nL pc (pi_icmp (pc + 3) tgt (fun x y => x = y)) := by
  intro ls st σ q h
  unfold pi_icmp at h
  split at h
  next y x st' =>
    cases h
    refine ⟨rfl, ?_⟩
    intro p l e R s m args below meth c H locs cells slots Q D cs A ad lsM C hfr hlo hcc hss hR hL k
    dsimp only at k
    exact lv_icmp_eq C.1 C.2.1 hd ht (fun z => by have k := k lsM hL; rw [if_pos z] at k; exact k) (fun z => by have k := k lsM hL; rw [if_neg z] at k; exact k)
  next => cases h
theorem ps_icmp_ne {own : String} {cc : ByteArray} {nL pc tgt : Nat} {off : Int} (hd : decode cc pc = .ok (.if_icmp .ne off, 3)) (ht : (pc : Int) + off = (tgt : Int)) : px_Sq own cc nL pc (pi_icmp (pc + 3) tgt (fun x y => ¬ x = y)) := by
  intro ls st σ q h
  unfold pi_icmp at h
  split at h
  next y x st' =>
    cases h
    refine ⟨rfl, ?_⟩
    intro p l e R s m args below meth c H locs cells slots Q D cs A ad lsM C hfr hlo hcc hss hR hL k
    dsimp only at k
    exact lv_icmp_ne C.1 C.2.1 hd ht (fun z => by have k := k lsM hL; rw [if_pos z] at k; exact k) (fun z => by have k := k lsM hL; rw [if_neg (fun w => w z)] at k; exact k)
  next => cases h
theorem ps_icmp_lt {own : String} {cc : ByteArray} {nL pc tgt : Nat} {off : Int} (hd : decode cc pc = .ok (.if_icmp .lt off, 3)) (ht : (pc : Int) + off = (tgt : Int)) : px_Sq own cc nL pc (pi_icmp (pc + 3) tgt (fun x y => x < y)) := by
  intro ls st σ q h
  unfold pi_icmp at h
  split at h
  next y x st' =>
    cases h
    refine ⟨rfl, ?_⟩
    intro p l e R s m args below meth c H locs cells slots Q D cs A ad lsM C hfr hlo hcc hss hR hL k
    dsimp only at k
    exact lv_icmp_lt C.1 C.2.1 hd ht (fun z => by have k := k lsM hL; rw [if_pos z] at k; exact k) (fun z => by have k := k lsM hL; rw [if_neg z] at k; exact k)
  next => cases h
theorem ps_icmp_ge {own : String} {cc : ByteArray} {nL pc tgt : Nat} {off : Int} (hd : decode cc pc = .ok (.if_icmp .ge off, 3)) (ht : (pc : Int) + off = (tgt : Int)) : px_Sq own cc nL pc (pi_icmp (pc + 3) tgt (fun x y => y ≤ x)) := by
  intro ls st σ q h
  unfold pi_icmp at h
  split at h
  next y x st' =>
    cases h
    refine ⟨rfl, ?_⟩
    intro p l e R s m args below meth c H locs cells slots Q D cs A ad lsM C hfr hlo hcc hss hR hL k
    dsimp only at k
    exact lv_icmp_ge C.1 C.2.1 hd ht (fun z => by have k := k lsM hL; rw [if_pos z] at k; exact k) (fun z => by have k := k lsM hL; rw [if_neg z] at k; exact k)
  next => cases h
theorem ps_icmp_gt {own : String} {cc : ByteArray} {nL pc tgt : Nat} {off : Int} (hd : decode cc pc = .ok (.if_icmp .gt off, 3)) (ht : (pc : Int) + off = (tgt : Int)) : px_Sq own cc nL pc (pi_icmp (pc + 3) tgt (fun x y => y < x)) := by
  intro ls st σ q h
  unfold pi_icmp at h
  split at h
  next y x st' =>
    cases h
    refine ⟨rfl, ?_⟩
    intro p l e R s m args below meth c H locs cells slots Q D cs A ad lsM C hfr hlo hcc hss hR hL k
    dsimp only at k
    exact lv_icmp_gt C.1 C.2.1 hd ht (fun z => by have k := k lsM hL; rw [if_pos z] at k; exact k) (fun z => by have k := k lsM hL; rw [if_neg z] at k; exact k)
  next => cases h
theorem ps_icmp_le {own : String} {cc : ByteArray} {nL pc tgt : Nat} {off : Int} (hd : decode cc pc = .ok (.if_icmp .le off, 3)) (ht : (pc : Int) + off = (tgt : Int)) : px_Sq own cc nL pc (pi_icmp (pc + 3) tgt (fun x y => x ≤ y)) := by
  intro ls st σ q h
  unfold pi_icmp at h
  split at h
  next y x st' =>
    cases h
    refine ⟨rfl, ?_⟩
    intro p l e R s m args below meth c H locs cells slots Q D cs A ad lsM C hfr hlo hcc hss hR hL k
    dsimp only at k
    exact lv_icmp_le C.1 C.2.1 hd ht (fun z => by have k := k lsM hL; rw [if_pos z] at k; exact k) (fun z => by have k := k lsM hL; rw [if_neg z] at k; exact k)
  next => cases h
theorem ps_goto {own : String} {cc : ByteArray} {nL pc tgt : Nat} {off : Int} (hd : decode cc pc = .ok (.goto off, 3)) (ht : (pc : Int) + off = (tgt : Int)) : px_Sq own cc nL pc (pi_goto tgt) := by
  intro ls st σ q h
  cases h
  refine ⟨rfl, ?_⟩
  intro p l e R s m args below meth c H locs cells slots Q D cs A ad lsM C hfr hlo hcc hss hR hL k
  exact lv_goto C.1 C.2.1 hd ht (k lsM hL)
theorem ps_tsw {own : String} {cc : ByteArray} {nL pc : Nat} {lo hi dflt : Int} {offs : Array Int} {len dt : Nat} {ts : List Nat} (hd : decode cc pc = .ok (.tableswitch dflt lo hi offs, len)) (ht : (pc : Int) + dflt = (dt : Int)) (hts : offs.toList.map (fun o => (pc : Int) + o) = ts.map (fun (t : Nat) => (t : Int))) : px_Sq own cc nL pc (pi_tsw lo hi dt ts) := by
  intro ls st σ q h
  unfold pi_tsw at h
  split at h
  next x st' =>
    split at h
    · rename_i hz
      cases h
      refine ⟨rfl, ?_⟩
      intro p l e R s m args below meth c H locs cells slots Q D cs A ad lsM C hfr hlo hcc hss hR hL k
      exact lv_tableOut C.1 C.2.1 hd hz ht (k lsM hL)
    · rename_i hz
      split at h
      next t htt =>
        cases h
        refine ⟨rfl, ?_⟩
        intro p l e R s m args below meth c H locs cells slots Q D cs A ad lsM C hfr hlo hcc hss hR hL k
        have h1 : (ts.map (fun (t : Nat) => (t : Int)))[(x.toInt - lo).toNat]? = some (t : Int) := by rw [List.getElem?_map, htt]; rfl
        rw [← hts, List.getElem?_map] at h1
        cases ho : offs.toList[(x.toInt - lo).toNat]? with
        | none => rw [ho] at h1; cases h1
        | some o =>
          rw [ho] at h1
          exact lv_tableIn C.1 C.2.1 hd (fun z => hz (Or.inl z)) (fun z => hz (Or.inr z)) (by rw [← Array.getElem?_toList]; exact ho) (Option.some.inj h1) (k lsM hL)
      next => cases h
  next => cases h
end
section
/-! ===== steps on the heap ===== -/
theorem px_W_get {cs : px_C} {ad : Nat → Nat} {σ : px_S} {k : Nat} (hk : k < 59) : (px_W cs ad σ)[k]? = some (ad k, px_E cs ad σ k) := by
  unfold px_W
  rw [List.getElem?_map, List.getElem?_range hk]
  rfl
theorem px_W_set {cs : px_C} {ad : Nat → Nat} {σ τ : px_S} {k : Nat} {E : va_E} (hE : px_E cs ad τ k = E) (ho : ∀ j, j ≠ k → px_E cs ad τ j = px_E cs ad σ j) : (px_W cs ad σ).set k (ad k, E) = px_W cs ad τ := by
  apply List.ext_getElem?
  intro j
  by_cases hj : j < 59
  · rw [px_W_get hj]
    by_cases hjk : j = k
    · subst hjk
      rw [List.getElem?_set_self (by simp [px_W]; exact hj), hE]
    · rw [List.getElem?_set_ne (Ne.symm hjk), px_W_get hj, ho j hjk]
  · have h1 : ∀ l : va_W, l.length = 59 → l[j]? = none := fun l hl => List.getElem?_eq_none (by omega)
    rw [h1 _ (by simp [px_W]), h1 _ (by simp [px_W])]
theorem px_ob_lt {k : Nat} {o : Nat × List (Nat × Nat)} (h : px_ob[k]? = some o) : k < 10 := (List.getElem?_eq_some_iff.mp h).1
theorem px_ar_lt {k : Nat} {o : Nat × Nat} (h : px_ar[k]? = some o) : k < 59 := (List.getElem?_eq_some_iff.mp h).1
theorem px_E_ob {cs : px_C} {ad : Nat → Nat} {σ : px_S} {k : Nat} {o : Nat × List (Nat × Nat)} (h : px_ob[k]? = some o) : px_E cs ad σ k = .inr (o.1, o.2.mapIdx fun j d => px_fv ad σ k d j) := by
  unfold px_E; rw [h]
theorem px_E_ar {cs : px_C} {ad : Nat → Nat} {σ : px_S} {k : Nat} {a : Nat × Nat} (h0 : px_ob[k]? = none) (h : px_ar[k]? = some a) : px_E cs ad σ k = if a.1 = 1 then .inl (cs.2.1, (px_len σ k a.2, .inr (.inl (σ.2.1 k)))) else if a.1 = 2 then .inl (cs.2.2, (px_len σ k a.2, .inl (σ.1 k))) else .inl (cs.1, (px_len σ k a.2, .inl (σ.1 k))) := by
  unfold px_E; rw [h0]; dsimp only; rw [h]
theorem px_E_uI {cs : px_C} {ad : Nat → Nat} {σ : px_S} {k i : Nat} {x : Int32} {j : Nat} (hj : j ≠ k) : px_E cs ad (px_uI σ k i x) j = px_E cs ad σ j := by
  have e : (px_uI σ k i x).1 j = σ.1 j := by simp [px_uI, hj]
  have e2 : (px_uI σ k i x).2 = σ.2 := rfl
  unfold px_E px_fv px_len
  rw [e, e2]
theorem px_E_uL {cs : px_C} {ad : Nat → Nat} {σ : px_S} {k i : Nat} {x : Int64} {j : Nat} (hj : j ≠ k) : px_E cs ad (px_uL σ k i x) j = px_E cs ad σ j := by
  have e : (px_uL σ k i x).2.1 j = σ.2.1 j := by simp [px_uL, hj]
  have e1 : (px_uL σ k i x).1 = σ.1 := rfl
  have e2 : (px_uL σ k i x).2.2 = σ.2.2 := rfl
  unfold px_E px_fv px_len
  rw [e, e1, e2]
theorem px_fv_mv (ad : Nat → Nat) (σ : px_S) (k : Nat) (d : Nat × Nat) (j : Nat) : px_mv ad (px_fv (fun k => k) σ k d j) = px_fv ad σ k d j := by
  unfold px_fv
  split
  · rfl
  · split <;> rfl
/-- a step that makes no cell -/
def px_Sm (own : String) (cc : ByteArray) (nL pc : Nat) (f : px_F) : Prop :=
  ∀ (ls st : List Value) (σ : px_S) (q : Nat × List Value × List Value × px_S), f ls st σ = some q → q.2.2.2.2.2 = σ.2.2 ∧
    ∀ (p : Program) (l : Launch) (e : Env) (R : Room) (s : State) (m : MethodId) (args : Array Value) (below : List Frame) (meth : Method) (c : Code) (H : Heap) (locs : List Loc) (cells slots : Nat) (Q : State → Prop) (D : va_G) (cs : px_C) (A : Nat → Prop) (ad : Nat → Nat) (lsM : Array Slot),
      CallFix p m c cc nL s args px_TB own → 1 ≤ R.frames → 44 ≤ R.locals → cells ≤ R.cells → slots ≤ R.slots → px_R D cs A s ad σ H locs → px_L ad nL ls lsM →
      (∀ (H' : Heap) (locs' : List Loc) (lsM' : Array Slot), px_R D cs A s ad q.2.2.2 H' locs' → px_L ad nL q.2.1 lsM' → W p l e R s m args below meth c H' locs' cells slots Q (F0 m q.1 lsM' (q.2.2.1.map (px_mv ad)))) →
      W p l e R s m args below meth c H locs cells slots Q (F0 m pc lsM (st.map (px_mv ad)))
theorem px_Sp.ofm {own : String} {cc : ByteArray} {nL pc : Nat} {f : px_F} (h : px_Sm own cc nL pc f) : px_Sp own cc nL pc f := by
  intro ls st σ q hq
  obtain ⟨e0, h1⟩ := h ls st σ q hq
  have e1 : px_cc q.2.2.2 = px_cc σ := by show q.2.2.2.2.2.2.1 = _; rw [e0]
  have e2 : px_cs q.2.2.2 = px_cs σ := by show q.2.2.2.2.2.2.2 = _; rw [e0]
  refine ⟨⟨by rw [e1]; exact Nat.le_refl _, by rw [e2]; exact Nat.le_refl _⟩, ?_⟩
  intro p l e R s m args below meth c H locs cells slots Q D cs A ad lsM C h2 h3 hR hL h4 h5 k
  rw [e1] at h4 k
  rw [e2] at h5 k
  simp only [Nat.sub_self, Nat.add_zero] at h4 h5 k
  exact h1 p l e R s m args below meth c H locs cells slots Q D cs A ad lsM C h2 h3 h4 h5 hR hL (fun H' locs' lsM' hR' hL' => k ad H' locs' lsM' (fun _ _ => rfl) hR' hL')
/-- a class of the system, at the place ci -/
def px_Kc (ci : Nat) (C : String) (T : u_T) (N : Nat) : Prop := vwCl[ci]? = some (C, T, N) ∧ (∀ w ∈ u_ws C T N, w ∈ px_TB) ∧ (∀ a, a < N → ∀ b, b < N → a ≠ b → (T a).2.1 ≠ (T b).2.1) ∧ ∃ ty : Nat → FieldType, ∀ k, k < N → parseFieldDescriptor (T k).2.2.1 = some (ty k)
theorem ps_get {own : String} {cc : ByteArray} {nL pc : Nat} {idx ci j N : Nat} {C : String} {T : u_T} (hc : px_Kc ci C T N) (hj : j < N) (hw : Cond.fieldLink own idx (T j).1 (T j).2.1 (T j).2.2.1 ∈ px_TB) (hd : decode cc pc = .ok (.getfield idx, 3)) : px_Sq own cc nL pc (pi_get (pc + 3) ci j) := by
  intro ls st σ q h
  unfold pi_get at h
  split at h
  next k st' =>
    split at h
    next o ho =>
      split at h
      next hci =>
        split at h
        next d hdd =>
          cases h
          refine ⟨rfl, ?_⟩
          intro p l e R s m args below meth c H locs cells slots Q D cs A ad lsM Cf hfr hlo hcc hss hR hL kk
          have hk : k < 59 := Nat.lt_of_lt_of_le (px_ob_lt ho) (by decide)
          have he : (px_W cs ad σ)[k]? = some (ad k, .inr (ci, o.2.mapIdx fun j d => px_fv ad σ k d j)) := by rw [px_W_get hk, px_E_ob ho, hci]
          refine va_get (v := px_fv ad σ k d j) Cf.1 Cf.2.1 Cf.2.2.2.2 hc.2.1 Cf.2.2.2.1 hR.1 hR.2.1 k he hc.1 j hj (Cf.2.2.2.2 _ hw) (fun _ z => z) (by rw [List.getElem?_mapIdx, hdd]; rfl) hd ?_
          have k2 := kk lsM hL
          simp only [List.map_cons, px_fv_mv] at k2
          exact k2
        next => cases h
      next => cases h
    next => cases h
  next => cases h
theorem px_fs_set {ad : Nat → Nat} {σ τ : px_S} {k j : Nat} {fs : List (Nat × Nat)} {d : Nat × Nat} {v : Value} (hd : fs[j]? = some d) (hv : px_fv ad τ k d j = v) (ho : ∀ i e, i ≠ j → px_fv ad τ k e i = px_fv ad σ k e i) : (fs.mapIdx fun j d => px_fv ad σ k d j).set j v = fs.mapIdx fun j d => px_fv ad τ k d j := by
  apply List.ext_getElem?
  intro i
  have hjl : j < fs.length := (List.getElem?_eq_some_iff.mp hd).1
  by_cases hij : i = j
  · subst hij
    rw [List.getElem?_set_self (by simpa using hjl), List.getElem?_mapIdx, hd, ← hv]
    rfl
  · rw [List.getElem?_set_ne (Ne.symm hij), List.getElem?_mapIdx, List.getElem?_mapIdx]
    cases hf : fs[i]? with
    | none => rfl
    | some e => simp only [Option.map_some, ho i e hij]
theorem px_R.to {D : va_G} {cs : px_C} {A : Nat → Prop} {s : State} {ad : Nat → Nat} {σ τ : px_S} {H H1 : Heap} {locs locs1 : List Loc} (hR : px_R D cs A s ad σ H locs) {ws : va_W} (hw : ws = px_W cs ad τ) (hP : va_P D vwCl ws H1) (hD : va_D A ws) (hS : va_S A s.heap H1 locs1) : px_R D cs A s ad τ H1 locs1 := by
  subst hw
  exact ⟨hR.1, hP, hD, hS, hR.2.2.2.2.1, hR.2.2.2.2.2⟩
theorem px_nar_i {ty : FieldType} {x : Int32} (h : ty = .int ∨ (ty = .boolean ∧ (x = 0 ∨ x = 1))) : narrow ty (.int x) = .int x ∧ fits ty (.int x) = true := by
  rcases h with rfl | ⟨rfl, rfl | rfl⟩
  · exact ⟨rfl, rfl⟩
  · exact ⟨by decide +kernel, by decide +kernel⟩
  · exact ⟨by decide +kernel, by decide +kernel⟩
theorem ps_putI {own : String} {cc : ByteArray} {nL pc : Nat} {idx ci j N : Nat} {C : String} {T : u_T} {ty : FieldType} (hc : px_Kc ci C T N) (hj : j < N) (hw : Cond.fieldLink own idx (T j).1 (T j).2.1 (T j).2.2.1 ∈ px_TB) (hfin : (T j).2.2.2 = false) (hty : parseFieldDescriptor (T j).2.2.1 = some ty)
    (hkd : ∀ o ∈ px_ob, o.1 = ci → ∀ d, o.2[j]? = some d → (d.1 = 0 ∧ ty = .int) ∨ (d.1 = 3 ∧ ty = .boolean) ∨ (d.1 = 1 ∧ ty = .long)) (hd : decode cc pc = .ok (.putfield idx, 3)) : px_Sm own cc nL pc (pi_put (pc + 3) ci j) := by
  intro ls st σ q h
  unfold pi_put at h
  split at h
  next v k st' =>
    split at h
    next o ho =>
      split at h
      next hci =>
        split at h
        next d hdd =>
          have hk : k < 59 := Nat.lt_of_lt_of_le (px_ob_lt ho) (by decide)
          have hkk := hkd o (List.mem_of_getElem? ho) hci d hdd
          split at h
          next x =>
            split at h
            next hx =>
              cases h
              refine ⟨rfl, ?_⟩
              intro p l e R s m args below meth c H locs cells slots Q D cs A ad lsM Cf hfr hlo hcc hss hR hL kk
              have he : (px_W cs ad σ)[k]? = some (ad k, .inr (ci, o.2.mapIdx fun j d => px_fv ad σ k d j)) := by rw [px_W_get hk, px_E_ob ho, hci]
              have hn : narrow ty (.int x) = .int x ∧ fits ty (.int x) = true := by
                apply px_nar_i
                rcases hx with hx | ⟨hx, hx2⟩
                · rcases hkk with ⟨_, z⟩ | ⟨z, _⟩ | ⟨z, _⟩
                  · exact Or.inl z
                  · omega
                  · omega
                · rcases hkk with ⟨z, _⟩ | ⟨_, z⟩ | ⟨z, _⟩
                  · omega
                  · exact Or.inr ⟨z, hx2⟩
                  · omega
              have hd12 : ¬ d.1 = 1 ∧ ¬ d.1 = 2 := by rcases hx with hx | ⟨hx, _⟩ <;> omega
              obtain ⟨ty0, hty0⟩ := hc.2.2.2
              refine va_put (v := .int x) Cf.1 Cf.2.1 Cf.2.2.2.2 hc.2.1 ty0 hty0 hc.2.2.1 Cf.2.2.2.1 hR.1 hR.2.1 hR.2.2.1 hR.2.2.2.1 k he hc.1 j hj (Cf.2.2.2.2 _ hw) (fun _ z => z) hfin hty hn.1 hn.2 (by simpa using (List.getElem?_eq_some_iff.mp hdd).1) hd (fun H1 locs1 hP hD hS => ?_)
              refine kk H1 locs1 lsM (hR.to ?_ hP hD hS) hL
              refine px_W_set ?_ (fun i hi => px_E_uI hi)
              rw [px_E_ob ho, ← hci]
              congr 2
              refine (px_fs_set (σ := σ) (τ := px_uI σ k j x) hdd ?_ (fun i e hi => ?_)).symm
              · unfold px_fv; rw [if_neg hd12.1, if_neg hd12.2]; simp [px_uI, upd]
              · unfold px_fv; simp [px_uI, upd, hi]
            next => cases h
          next x =>
            split at h
            next hx =>
              cases h
              refine ⟨rfl, ?_⟩
              intro p l e R s m args below meth c H locs cells slots Q D cs A ad lsM Cf hfr hlo hcc hss hR hL kk
              have he : (px_W cs ad σ)[k]? = some (ad k, .inr (ci, o.2.mapIdx fun j d => px_fv ad σ k d j)) := by rw [px_W_get hk, px_E_ob ho, hci]
              have hn : ty = .long := by
                rcases hkk with ⟨z, _⟩ | ⟨z, _⟩ | ⟨_, z⟩
                · omega
                · omega
                · exact z
              subst hn
              obtain ⟨ty0, hty0⟩ := hc.2.2.2
              refine va_put (v := .long x) Cf.1 Cf.2.1 Cf.2.2.2.2 hc.2.1 ty0 hty0 hc.2.2.1 Cf.2.2.2.1 hR.1 hR.2.1 hR.2.2.1 hR.2.2.2.1 k he hc.1 j hj (Cf.2.2.2.2 _ hw) (fun _ z => z) hfin hty rfl rfl (by simpa using (List.getElem?_eq_some_iff.mp hdd).1) hd (fun H1 locs1 hP hD hS => ?_)
              refine kk H1 locs1 lsM (hR.to ?_ hP hD hS) hL
              refine px_W_set ?_ (fun i hi => px_E_uL hi)
              rw [px_E_ob ho, ← hci]
              congr 2
              refine (px_fs_set (σ := σ) (τ := px_uL σ k j x) hdd ?_ (fun i e hi => ?_)).symm
              · unfold px_fv; rw [if_pos hx]; simp [px_uL, vp_updL]
              · unfold px_fv; simp [px_uL, vp_updL, hi]
            next => cases h
          next => cases h
        next => cases h
      next => cases h
    next => cases h
  next => cases h
theorem px_at_spec {σ : px_S} {ty k N : Nat} (h : px_at σ ty k = some N) : k < 59 ∧ px_ob[k]? = none ∧ ∃ a, px_ar[k]? = some a ∧ a.1 = ty ∧ N = px_len σ k a.2 := by
  unfold px_at at h
  split at h
  · cases h
  · rename_i h0
    split at h
    · rename_i a ha
      split at h
      · rename_i h1
        cases h
        exact ⟨px_ar_lt ha, h0, a, ha, h1, rfl⟩
      · cases h
    · cases h
theorem ps_iald {own : String} {cc : ByteArray} {nL pc : Nat} (hd : decode cc pc = .ok (.iaload, 1)) : px_Sq own cc nL pc (pi_ald (pc + 1) 0) := by
  intro ls st σ q h
  unfold pi_ald at h
  split at h
  next i k st' =>
    split at h
    next N hN =>
      split at h
      next => cases h
      next hin =>
        cases h
        refine ⟨rfl, ?_⟩
        intro p l e R s m args below meth c H locs cells slots Q D cs A ad lsM Cf hfr hlo hcc hss hR hL kk
        obtain ⟨hk, h0, a, ha, hty, rfl⟩ := px_at_spec hN
        have he : (px_W cs ad σ)[k]? = some (ad k, .inl (cs.1, (px_len σ k a.2, .inl (σ.1 k)))) := by rw [px_W_get hk, px_E_ar h0 ha, hty]; rfl
        exact va_iald Cf.1 Cf.2.1 hR.1 hR.2.1 k 0 he rfl hin hd (kk lsM hL)
    next => cases h
  next => cases h
theorem ps_zald {own : String} {cc : ByteArray} {nL pc : Nat} (hd : decode cc pc = .ok (.baload, 1)) : px_Sq own cc nL pc (pi_ald (pc + 1) 2) := by
  intro ls st σ q h
  unfold pi_ald at h
  split at h
  next i k st' =>
    split at h
    next N hN =>
      split at h
      next => cases h
      next hin =>
        cases h
        refine ⟨rfl, ?_⟩
        intro p l e R s m args below meth c H locs cells slots Q D cs A ad lsM Cf hfr hlo hcc hss hR hL kk
        obtain ⟨hk, h0, a, ha, hty, rfl⟩ := px_at_spec hN
        have he : (px_W cs ad σ)[k]? = some (ad k, .inl (cs.2.2, (px_len σ k a.2, .inl (σ.1 k)))) := by rw [px_W_get hk, px_E_ar h0 ha, hty]; rfl
        exact va_zald Cf.1 Cf.2.1 hR.1 hR.2.1 k 2 he rfl hin hd (kk lsM hL)
    next => cases h
  next => cases h
theorem ps_lald {own : String} {cc : ByteArray} {nL pc : Nat} (hd : decode cc pc = .ok (.laload, 1)) : px_Sq own cc nL pc (pi_ald (pc + 1) 1) := by
  intro ls st σ q h
  unfold pi_ald at h
  split at h
  next i k st' =>
    split at h
    next N hN =>
      split at h
      next => cases h
      next hin =>
        cases h
        refine ⟨rfl, ?_⟩
        intro p l e R s m args below meth c H locs cells slots Q D cs A ad lsM Cf hfr hlo hcc hss hR hL kk
        obtain ⟨hk, h0, a, ha, hty, rfl⟩ := px_at_spec hN
        have he : (px_W cs ad σ)[k]? = some (ad k, .inl (cs.2.1, (px_len σ k a.2, .inr (.inl (σ.2.1 k))))) := by rw [px_W_get hk, px_E_ar h0 ha, hty]; rfl
        exact va_lald Cf.1 Cf.2.1 hR.1 hR.2.1 k 1 he rfl hin hd (kk lsM hL)
    next => cases h
  next => cases h
theorem ps_alen {own : String} {cc : ByteArray} {nL pc : Nat} (hd : decode cc pc = .ok (.arraylength, 1)) : px_Sq own cc nL pc (pi_alen (pc + 1)) := by
  intro ls st σ q h
  unfold pi_alen at h
  split at h
  next k st' =>
    split at h
    next N hN =>
      cases h
      refine ⟨rfl, ?_⟩
      intro p l e R s m args below meth c H locs cells slots Q D cs A ad lsM Cf hfr hlo hcc hss hR hL kk
      obtain ⟨hk, h0, a, ha, hty, rfl⟩ := px_at_spec hN
      have he : (px_W cs ad σ)[k]? = some (ad k, .inl (cs.1, (px_len σ k a.2, .inl (σ.1 k)))) := by rw [px_W_get hk, px_E_ar h0 ha, hty]; rfl
      exact va_alen Cf.1 Cf.2.1 hR.1 hR.2.1 k 0 he rfl rfl hd (kk lsM hL)
    next => cases h
  next => cases h
theorem px_uI_self (σ : px_S) (k j : Nat) (x : Int32) : (px_uI σ k j x).1 k = upd (σ.1 k) j x := by simp [px_uI]
theorem px_uL_self (σ : px_S) (k j : Nat) (x : Int64) : (px_uL σ k j x).2.1 k = vp_updL (σ.2.1 k) j x := by simp [px_uL]
theorem ps_iast {own : String} {cc : ByteArray} {nL pc : Nat} (hd : decode cc pc = .ok (.iastore, 1)) : px_Sm own cc nL pc (pi_ast (pc + 1) 0) := by
  intro ls st σ q h
  unfold pi_ast at h
  split at h
  next v i k st' =>
    split at h
    next N hN =>
      split at h
      next => cases h
      next hin =>
        split at h
        next x =>
          split at h
          next =>
            cases h
            refine ⟨rfl, ?_⟩
            intro p l e R s m args below meth c H locs cells slots Q D cs A ad lsM Cf hfr hlo hcc hss hR hL kk
            obtain ⟨hk, h0, a, ha, hty, rfl⟩ := px_at_spec hN
            have he : (px_W cs ad σ)[k]? = some (ad k, .inl (cs.1, (px_len σ k a.2, .inl (σ.1 k)))) := by rw [px_W_get hk, px_E_ar h0 ha, hty]; rfl
            refine va_iast Cf.1 Cf.2.1 hR.1 hR.2.1 hR.2.2.1 hR.2.2.2.1 k 0 he rfl hin hd (fun H1 locs1 hP hD hS => ?_)
            refine kk H1 locs1 lsM (hR.to (px_W_set ?_ (fun i hi => px_E_uI hi)) hP hD hS) hL
            rw [px_E_ar h0 ha, hty, px_uI_self]; rfl
          next => cases h
        next => split at h <;> first | (rename_i z; exact absurd z (by decide)) | cases h
        next => cases h
    next => cases h
  next => cases h
theorem ps_zast {own : String} {cc : ByteArray} {nL pc : Nat} (hd : decode cc pc = .ok (.bastore, 1)) : px_Sm own cc nL pc (pi_ast (pc + 1) 2) := by
  intro ls st σ q h
  unfold pi_ast at h
  split at h
  next v i k st' =>
    split at h
    next N hN =>
      split at h
      next => cases h
      next hin =>
        split at h
        next x =>
          split at h
          next hx =>
            cases h
            refine ⟨rfl, ?_⟩
            intro p l e R s m args below meth c H locs cells slots Q D cs A ad lsM Cf hfr hlo hcc hss hR hL kk
            obtain ⟨hk, h0, a, ha, hty, rfl⟩ := px_at_spec hN
            have he : (px_W cs ad σ)[k]? = some (ad k, .inl (cs.2.2, (px_len σ k a.2, .inl (σ.1 k)))) := by rw [px_W_get hk, px_E_ar h0 ha, hty]; rfl
            have hx2 : vp_nar .boolean x = x := by
              rcases hx with hx | ⟨-, rfl | rfl⟩
              · exact absurd hx (by decide)
              · decide +kernel
              · decide +kernel
            refine va_zast Cf.1 Cf.2.1 hR.1 hR.2.1 hR.2.2.1 hR.2.2.2.1 k 2 he rfl hin hd (fun H1 locs1 hP hD hS => ?_)
            rw [hx2] at hP hD
            refine kk H1 locs1 lsM (hR.to (px_W_set ?_ (fun i hi => px_E_uI hi)) hP hD hS) hL
            rw [px_E_ar h0 ha, hty, px_uI_self]; rfl
          next => cases h
        next => split at h <;> first | (rename_i z; exact absurd z (by decide)) | cases h
        next => cases h
    next => cases h
  next => cases h
theorem ps_last {own : String} {cc : ByteArray} {nL pc : Nat} (hd : decode cc pc = .ok (.lastore, 1)) : px_Sm own cc nL pc (pi_ast (pc + 1) 1) := by
  intro ls st σ q h
  unfold pi_ast at h
  split at h
  next v i k st' =>
    split at h
    next N hN =>
      split at h
      next => cases h
      next hin =>
        split at h
        next x =>
          split at h
          · rename_i z
            rcases z with z | ⟨z, -⟩ <;> exact absurd z (by decide)
          · cases h
        next x =>
          split at h
          next =>
            cases h
            refine ⟨rfl, ?_⟩
            intro p l e R s m args below meth c H locs cells slots Q D cs A ad lsM Cf hfr hlo hcc hss hR hL kk
            obtain ⟨hk, h0, a, ha, hty, rfl⟩ := px_at_spec hN
            have he : (px_W cs ad σ)[k]? = some (ad k, .inl (cs.2.1, (px_len σ k a.2, .inr (.inl (σ.2.1 k))))) := by rw [px_W_get hk, px_E_ar h0 ha, hty]; rfl
            refine va_last Cf.1 Cf.2.1 hR.1 hR.2.1 hR.2.2.1 hR.2.2.2.1 k 1 he rfl hin hd (fun H1 locs1 hP hD hS => ?_)
            refine kk H1 locs1 lsM (hR.to (px_W_set ?_ (fun i hi => px_E_uL hi)) hP hD hS) hL
            rw [px_E_ar h0 ha, hty, px_uL_self]; rfl
          next => cases h
        next => cases h
    next => cases h
  next => cases h
end
section
/-! ===== calls, returns, methods ===== -/
def px_rm (d mc ms : Nat) : Room := { frames := d, cells := mc, slots := ms, locals := 44 * d }
def px_ws (M : px_M) : List Cond := .code M.1 M.2.1 M.2.2.1 M.2.2.2.1 :: px_TB
def px_Pre (D : va_G) (cs : px_C) (ad : Nat → Nat) (σ : px_S) (vs : List Value) (sz : Nat) : Array Value → State → Prop :=
  va_Pc (vs.map (px_mv ad)) (fun U => U.heap.size = sz ∧ va_P D vwCl (px_W cs ad σ) U.heap ∧ va_K D vwCl (px_tys cs) U ∧ va_D (fun _ => True) (px_W cs ad σ) ∧ px_X ad (va_A (px_W cs ad σ) sz) U U.heap)
def px_Post (D : va_G) (cs : px_C) (ad : Nat → Nat) (σ : px_S) (sz : Nat) (r : Option Value) (τ : px_S) : Array Value → State → Outcome → State → Prop := fun _ st o t =>
  (∃ ad' : Nat → Nat, (∀ k, k ≠ 33 → ad' k = ad k) ∧ o = .returned (r.map (px_mv ad')) ∧ va_P D vwCl (px_W cs ad' τ) t.heap ∧ va_D (va_A (px_W cs ad σ) sz) (px_W cs ad' τ)) ∧ va_F (va_A (px_W cs ad σ) sz) st t
/-- what a method does on the pure machine, it does on the machine -/
def px_Met (l : Launch) (P : Nat → px_M) (d μ : Nat) : Prop := ∀ (f : Nat) (vs : List Value) (σ : px_S) (r : Option Value) (τ : px_S), px_call P d f μ vs σ = some (r, τ) → px_le σ τ ∧
  ∀ (D : va_G) (cs : px_C) (ad : Nat → Nat) (sz : Nat), Met l (P μ).1 (px_ws (P μ)) (px_rm d (px_cc τ - px_cc σ) (px_cs τ - px_cs σ)) (px_Pre D cs ad σ vs sz) (px_Post D cs ad σ sz r τ) (px_cc τ - px_cc σ) (px_cs τ - px_cs σ) (va_A (px_W cs ad σ) sz)
theorem px_blind {D : va_G} {cs : px_C} {ad : Nat → Nat} {σ : px_S} {vs : List Value} {sz : Nat} : FrameBlind (px_Pre D cs ad σ vs sz) := by
  intro a U g mk q
  obtain ⟨q0, q1, qP, qK, qD, qX⟩ := q
  exact ⟨q0, q1, qP, va_K.moved (u := U) (U := U.calling g mk a) (Vm.Alike.refl U.vm) qK, qD, px_X.same (s := U) (U := U.calling g mk a) rfl qX⟩
theorem px_A_le {D : va_G} {cs : px_C} {A : Nat → Prop} {s : State} {ad : Nat → Nat} {σ : px_S} {H : Heap} {locs : List Loc} (hR : px_R D cs A s ad σ H locs) : ∀ q, va_A (px_W cs ad σ) H.size q → A q := by
  intro q h
  rcases h with ⟨k, e, h⟩ | h
  · exact hR.2.2.1.2 k (q, e) h
  · exact hR.2.2.2.2.2 q (Nat.le_trans hR.2.2.2.1.1 h)
theorem px_pre_of {D : va_G} {cs : px_C} {A : Nat → Prop} {s : State} {ad : Nat → Nat} {σ : px_S} {H : Heap} {locs : List Loc} (hR : px_R D cs A s ad σ H locs) (vs : List Value) : ∀ U : State, U.heap = H → s.WarmedH U.vm → px_Pre D cs ad σ vs H.size (vs.map (px_mv ad)).toArray U := by
  intro U hU hW
  refine ⟨rfl, by rw [hU], by rw [hU]; exact hR.2.1, va_K.moved hW.alike hR.1, hR.2.2.1.weaken (fun _ _ _ _ => trivial), ?_⟩
  rw [hU]
  exact ((hR.2.2.2.2.1.kept (fun a ha hn => hR.2.2.2.1.2.1 a ha hn)).moved hW).narrow (px_A_le hR)
/-- behind a call -/
theorem px_behind {p : Program} {l : Launch} {e : Env} {R : Room} {s : State} {m : MethodId} {args : Array Value} {below : List Frame} {meth : Method} {c : Code} {H : Heap} {locs : List Loc} {cells slots mc ms pc : Nat} {Q : State → Prop} {D : va_G} {cs : px_C} {A : Nat → Prop} {ad : Nat → Nat} {σ τ : px_S} {lsM : Array Slot} {st0 rest : List Value} {r : Option Value} {a : Array Value}
    (hr : va_Run p l e R s m args below meth c H locs cells slots mc ms (F0 m pc lsM st0) rest (px_Post D cs ad σ H.size r τ a) (va_A (px_W cs ad σ) H.size)) (hR : px_R D cs A s ad σ H locs)
    (kk : ∀ (ad' : Nat → Nat) (H' : Heap) (locs' : List Loc), (∀ k, k ≠ 33 → ad' k = ad k) → px_R D cs A s ad' τ H' locs' → W p l e R s m args below meth c H' locs' (cells + mc) (slots + ms) Q (F0 m (pc + 3) lsM ((r.map (px_mv ad')).toList ++ rest))) :
    W p l e R s m args below meth c H locs cells slots Q (F0 m pc lsM st0) := by
  intro T hT X
  obtain ⟨v, st₀, t, T', L, h0, X', hL, e1, e2, ⟨⟨ad', hd, hv, hP, hD⟩, hz, hk⟩, st⟩ := hr T hT X
  cases hv
  rw [h0] at hz hk
  have hle := px_A_le hR
  obtain ⟨t2, a1, b1⟩ := kk ad' T'.heap (locs ++ L) hd ⟨hR.1, by rw [e1]; exact hP, hD.weaken (fun _ q _ h => hle q.1 h), ⟨Nat.le_trans hR.2.2.2.1.1 (by rw [e1]; exact hz), fun q h1 h2 => by rw [e1, hk q (Nat.lt_of_lt_of_le h1 hR.2.2.2.1.1) (fun z => h2 (hle q z))]; exact hR.2.2.2.1.2.1 q h1 h2, fun q hq => by
      rcases List.mem_append.mp hq with h | h
      · exact hR.2.2.2.1.2.2 q h
      · exact hle _ (hL q h)⟩, hR.2.2.2.2.1.ad hd, hR.2.2.2.2.2⟩ T' rfl X'
  exact ⟨t2, st t2 a1, b1⟩
/-- a call at a place: what the callee does, the machine does there -/
def px_Sc (l : Launch) (P : Nat → px_M) (d : Nat) (own : String) (cc : ByteArray) (nL pc : Nat) (q : Nat × Nat × Nat × Nat) : Prop :=
  ∀ (f : Nat) (ls st : List Value) (σ : px_S) (r : Option Value) (τ : px_S), q.2.1 ≤ st.length → px_okc q.2.2.1 (st.take q.2.1).reverse (st.drop q.2.1) ls = true → px_call P d f q.1 (st.take q.2.1).reverse σ = some (r, τ) → px_le σ τ ∧
    ∀ (p : Program) (e : Env) (R : Room) (s : State) (m : MethodId) (args : Array Value) (below : List Frame) (meth : Method) (c : Code) (H : Heap) (locs : List Loc) (cells slots : Nat) (Q : State → Prop) (D : va_G) (cs : px_C) (A : Nat → Prop) (ad : Nat → Nat) (lsM : Array Slot),
      CallFix p m c cc nL s args px_TB own → d + 1 ≤ R.frames → 44 * (d + 1) ≤ R.locals → px_R D cs A s ad σ H locs → px_L ad nL ls lsM →
      cells + (px_cc τ - px_cc σ) ≤ R.cells → slots + (px_cs τ - px_cs σ) ≤ R.slots →
      (∀ (ad' : Nat → Nat) (H' : Heap) (locs' : List Loc), (∀ k, k ≠ 33 → ad' k = ad k) → px_R D cs A s ad' τ H' locs' →
        W p l e R s m args below meth c H' locs' (cells + (px_cc τ - px_cc σ)) (slots + (px_cs τ - px_cs σ)) Q (F0 m q.2.2.2 lsM ((r.map (px_mv ad')).toList ++ (st.drop q.2.1).map (px_mv ad)))) →
      W p l e R s m args below meth c H locs cells slots Q (F0 m pc lsM (st.map (px_mv ad)))
theorem px_st_split (st : List Value) (n : Nat) (ad : Nat → Nat) : st.map (px_mv ad) = ((st.take n).reverse.map (px_mv ad)).reverse ++ (st.drop n).map (px_mv ad) := by
  rw [List.map_reverse, List.reverse_reverse, ← List.map_append, List.take_append_drop]
theorem px_cat_mv (ad : Nat → Nat) (st : List Value) : ((st.map (px_mv ad)).map fun v => v.category).sum = px_cat st := by
  unfold px_cat
  rw [List.map_map]
  congr 1
  exact List.map_congr_left fun v _ => px_mv_cat ad v
theorem px_okc_spec {ci : Nat} {as rest ls : List Value} (h : px_okc ci as rest ls = true) : px_cat rest ≤ 8 ∧ rest.all px_nc = true ∧ ls.all px_nc = true ∧ (ci = 0 ∨ (∃ k t o, as = .ref k :: t ∧ px_ob[k]? = some o ∧ o.1 + 1 = ci) ∨ (ci = 100 ∧ ∃ i t, as = .ref (110 + i) :: t ∧ i < 7)) := by
  unfold px_okc at h
  simp only [Bool.and_eq_true, Bool.or_eq_true, decide_eq_true_eq, beq_iff_eq] at h
  obtain ⟨⟨⟨h1, h2⟩, h3⟩, h4⟩ := h
  refine ⟨h2, h3, h4, ?_⟩
  rcases h1 with h1 | h1
  · exact Or.inl h1
  · right
    split at h1
    · rename_i k t
      split at h1
      · rename_i o ho
        exact Or.inl ⟨k, t, o, rfl, ho, by simpa using h1⟩
      · simp only [Bool.and_eq_true, beq_iff_eq, decide_eq_true_eq] at h1
        exact Or.inr ⟨h1.1, k - 110, t, by rw [Nat.add_sub_cancel' h1.2.1], Nat.sub_lt_left_of_lt_add h1.2.1 h1.2.2⟩
    · cases h1
/-- facts of a callee: its words are in the table -/
def px_Fc (P : Nat → px_M) (μ n : Nat) (own : String) (idx : Nat) : Prop := Cond.code (P μ).1 (P μ).2.1 (P μ).2.2.1 (P μ).2.2.2.1 ∈ px_TB ∧ Cond.initialized (P μ).1.cls ∈ px_TB ∧ (P μ).1.cls ≠ "java/lang/invoke/MethodHandle" ∧ (P μ).1.cls ≠ "java/lang/invoke/VarHandle" ∧ (parseMethodDescriptor (P μ).1.desc).map (fun d => d.parameters.length) = some n ∧ (P μ).2.2.1 ≤ 25
theorem px_gw {P : Nat → px_M} {μ n : Nat} {own : String} {idx : Nat} (hF : px_Fc P μ n own idx) : ∀ w ∈ px_ws (P μ), w ∈ px_TB := by
  intro w hw
  rcases List.mem_cons.mp hw with rfl | h
  · exact hF.1
  · exact h
theorem px_nocls {ci N : Nat} {C : String} {T : u_T} (hc : vwCl[ci]? = some (C, T, N)) : ci < 9 := (List.getElem?_eq_some_iff.mp hc).1
theorem ps_callV {l : Launch} {P : Nat → px_M} {d : Nat} {own : String} {cc : ByteArray} {nL pc μ n ci idx N : Nat} {C : String} {T : u_T} (IH : px_Met l P d μ) (hc : vwCl[ci]? = some (C, T, N)) (hC : (P μ).1.cls = C) (hF : px_Fc P μ n own idx) (hl : Cond.methodLink own idx (P μ).1 ∈ px_TB) (hi : Cond.instanceMethod (P μ).1 ∈ px_TB) (hs : Cond.selects C (P μ).1 (P μ).1 ∈ px_TB) (hd : decode cc pc = .ok (.invokevirtual idx, 3)) : px_Sc l P d own cc nL pc (μ, n + 1, ci + 1, pc + 3) := by
  intro f ls st σ r τ hlen hok hcall
  dsimp only at hlen hok hcall ⊢
  obtain ⟨hle, IH⟩ := IH f _ σ r τ hcall
  refine ⟨hle, ?_⟩
  intro p e R s m args below meth c H locs cells slots Q D cs A ad lsM Cf hfr hlo hR hL h4 h5 kk
  obtain ⟨hcat, -, -, hrec⟩ := px_okc_spec hok
  obtain ⟨k, t, o, hst, ho, hoc⟩ : ∃ k t o, (st.take (n + 1)).reverse = .ref k :: t ∧ px_ob[k]? = some o ∧ o.1 + 1 = ci + 1 := by
    rcases hrec with h | h | h
    · omega
    · exact h
    · have := px_nocls hc; omega
  have hk : k < 59 := Nat.lt_of_lt_of_le (px_ob_lt ho) (by decide)
  have hoi : o.1 = ci := by omega
  have he : (px_W cs ad σ)[k]? = some (ad k, .inr (ci, o.2.mapIdx fun j d => px_fv ad σ k d j)) := by rw [px_W_get hk, px_E_ob ho, hoi]
  have htl : (t.map (px_mv ad)).length = n := by
    have h1 : ((st.take (n + 1)).reverse).length = n + 1 := by simp; omega
    rw [hst] at h1
    simpa using h1
  rw [px_st_split st (n + 1) ad, hst]
  refine px_behind (va_runV (As := t.map (px_mv ad)) (b := ad k) (rest := (st.drop (n + 1)).map (px_mv ad)) (C := C) ⟨Cf.1, Cf.2.1, Cf.2.2.1, Cf.2.2.2.1, Cf.2.2.2.2⟩ (IH D cs ad H.size) (cwV n Cf.2.2.2.2 (px_good (fun w hw => ?_)) rfl rfl rfl ⟨hC, hF.2.2.1, hF.2.2.2.1, hF.2.2.2.2.1⟩ ⟨by show d + 1 ≤ R.frames; exact hfr, by show 8 + ((P μ).2.2.1 + 11) + 44 * d ≤ R.locals; have := hF.2.2.2.2.2; omega⟩) ⟨px_blind, va_recv hR.1 hR.2.1 (ci := ci) (q0 := k) hc he, ?_⟩ rfl htl (hL.1) ?_ (lv_room (by rw [px_cat_mv]; exact hcat)) hd ⟨h4, h5⟩) hR kk
  · unfold wsV at hw
    rcases List.mem_append.mp hw with h | h
    · simp only [List.mem_cons, List.not_mem_nil, or_false] at h
      rcases h with rfl | rfl | rfl | rfl
      · exact hl
      · exact hi
      · exact hs
      · rw [← hC]; exact hF.2.1
    · exact px_gw hF w h
  · intro U hU hW
    have := px_pre_of hR (.ref k :: t) U hU hW
    rw [hst]
    exact this
  · simp [px_mv]
theorem ps_callS {l : Launch} {P : Nat → px_M} {d : Nat} {own : String} {cc : ByteArray} {nL pc μ n idx : Nat} (IH : px_Met l P d μ) (hF : px_Fc P μ n own idx) (hl : Cond.methodLink own idx (P μ).1 ∈ px_TB) (hi : Cond.static (P μ).1 ∈ px_TB) (hd : decode cc pc = .ok (.invokestatic idx, 3)) : px_Sc l P d own cc nL pc (μ, n, 0, pc + 3) := by
  intro f ls st σ r τ hlen hok hcall
  dsimp only at hlen hok hcall ⊢
  obtain ⟨hle, IH⟩ := IH f _ σ r τ hcall
  refine ⟨hle, ?_⟩
  intro p e R s m args below meth c H locs cells slots Q D cs A ad lsM Cf hfr hlo hR hL h4 h5 kk
  obtain ⟨hcat, -, -, -⟩ := px_okc_spec hok
  rw [px_st_split st n ad]
  refine px_behind (va_runS (As := (st.take n).reverse.map (px_mv ad)) (rest := (st.drop n).map (px_mv ad)) ⟨Cf.1, Cf.2.1, Cf.2.2.1, Cf.2.2.2.1, Cf.2.2.2.2⟩ (IH D cs ad H.size) (va_cwS n Cf.2.2.2.2 (px_good (fun w hw => ?_)) rfl rfl rfl ⟨hF.2.2.1, hF.2.2.2.1, hF.2.2.2.2.1⟩ ⟨by show d + 1 ≤ R.frames; exact hfr, by show 8 + ((P μ).2.2.1 + 11) + 44 * d ≤ R.locals; have := hF.2.2.2.2.2; omega⟩) ⟨px_blind, px_pre_of hR _⟩ rfl (by simp; omega) (hL.1) rfl (lv_room (by rw [px_cat_mv]; exact hcat)) hd ⟨h4, h5⟩) hR kk
  unfold va_wsS at hw
  rcases List.mem_append.mp hw with h | h
  · simp only [List.mem_cons, List.not_mem_nil, or_false] at h
    rcases h with rfl | rfl | rfl
    · exact hl
    · exact hi
    · exact hF.2.1
  · exact px_gw hF w h
/-- a call of a method of String on a text of the program -/
theorem ps_callT {l : Launch} {P : Nat → px_M} {d : Nat} {own : String} {cc : ByteArray} {nL pc μ n idx : Nat} (IH : px_Met l P d μ) (hC : (P μ).1.cls = "java/lang/String") (hF : px_Fc P μ n own idx) (hl : Cond.methodLink own idx (P μ).1 ∈ px_TB) (hi : Cond.instanceMethod (P μ).1 ∈ px_TB) (hs : Cond.selects "java/lang/String" (P μ).1 (P μ).1 ∈ px_TB) (hd : decode cc pc = .ok (.invokevirtual idx, 3)) : px_Sc l P d own cc nL pc (μ, n + 1, 100, pc + 3) := by
  intro f ls st σ r τ hlen hok hcall
  dsimp only at hlen hok hcall ⊢
  obtain ⟨hle, IH⟩ := IH f _ σ r τ hcall
  refine ⟨hle, ?_⟩
  intro p e R s m args below meth c H locs cells slots Q D cs A ad lsM Cf hfr hlo hR hL h4 h5 kk
  obtain ⟨hcat, -, -, hrec⟩ := px_okc_spec hok
  obtain ⟨i, t, hst, hi7⟩ : ∃ i t, (st.take (n + 1)).reverse = .ref (110 + i) :: t ∧ i < 7 := by
    rcases hrec with h | ⟨k, t, o, -, ho, h⟩ | h
    · omega
    · exfalso
      have h10 := px_ob_lt ho
      have key : ∀ k : Fin 10, (px_ob.getD k.val (0, [])).1 < 9 := by decide +kernel
      have := key ⟨k, h10⟩
      rw [List.getD_eq_getElem?_getD, ho] at this
      have h2 : o.1 < 9 := this
      omega
    · exact h.2
  have htl : (t.map (px_mv ad)).length = n := by
    have h1 : ((st.take (n + 1)).reverse).length = n + 1 := by simp; omega
    rw [hst] at h1
    simpa using h1
  obtain ⟨-, -, -, c1, -⟩ := hR.2.2.2.2.1.kept (fun a ha hn => hR.2.2.2.1.2.1 a ha hn)
  obtain ⟨cell, o1, o2, o3, -⟩ := (c1.1 i hi7).1
  rw [px_st_split st (n + 1) ad, hst]
  refine px_behind (va_runV (As := t.map (px_mv ad)) (b := ad (110 + i)) (rest := (st.drop (n + 1)).map (px_mv ad)) (C := "java/lang/String") ⟨Cf.1, Cf.2.1, Cf.2.2.1, Cf.2.2.2.1, Cf.2.2.2.2⟩ (IH D cs ad H.size) (cwV n Cf.2.2.2.2 (px_good (fun w hw => ?_)) rfl rfl rfl ⟨hC, hF.2.2.1, hF.2.2.2.1, hF.2.2.2.2.1⟩ ⟨by show d + 1 ≤ R.frames; exact hfr, by show 8 + ((P μ).2.2.1 + 11) + 44 * d ≤ R.locals; have := hF.2.2.2.2.2; omega⟩) ⟨px_blind, ⟨cell, o1, o2, o3⟩, ?_⟩ rfl htl (hL.1) ?_ (lv_room (by rw [px_cat_mv]; exact hcat)) hd ⟨h4, h5⟩) hR kk
  · unfold wsV at hw
    rcases List.mem_append.mp hw with h | h
    · simp only [List.mem_cons, List.not_mem_nil, or_false] at h
      rcases h with rfl | rfl | rfl | rfl
      · exact hl
      · exact hi
      · exact hs
      · rw [← hC]; exact hF.2.1
    · exact px_gw hF w h
  · intro U hU hW
    have := px_pre_of hR (.ref (110 + i) :: t) U hU hW
    rw [hst]
    exact this
  · simp [px_mv]
/-- the nest's one: spotOf -/
theorem ps_callSN {l : Launch} {P : Nat → px_M} {d : Nat} {own : String} {cc : ByteArray} {nL pc μ n idx : Nat} (IH : px_Met l P d μ) (hF : px_Fc P μ n own idx) (hl : ∀ ad A U H, px_X ad A U H → va_Nw (.methodLinkNest own idx (P μ).1 RX8) U) (hi : Cond.static (P μ).1 ∈ px_TB) (hd : decode cc pc = .ok (.invokestatic idx, 3)) : px_Sc l P d own cc nL pc (μ, n, 0, pc + 3) := by
  intro f ls st σ r τ hlen hok hcall
  dsimp only at hlen hok hcall ⊢
  obtain ⟨hle, IH⟩ := IH f _ σ r τ hcall
  refine ⟨hle, ?_⟩
  intro p e R s m args below meth c H locs cells slots Q D cs A ad lsM Cf hfr hlo hR hL h4 h5 kk
  obtain ⟨hcat, -, -, -⟩ := px_okc_spec hok
  rw [px_st_split st n ad]
  exact px_behind (va_runSN (As := (st.take n).reverse.map (px_mv ad)) (rest := (st.drop n).map (px_mv ad)) ⟨Cf.1, Cf.2.1, Cf.2.2.1, Cf.2.2.2.1, Cf.2.2.2.2⟩ (IH D cs ad H.size) ⟨va_cnB n Cf.2.2.2.2 (px_good (px_gw hF)) rfl rfl rfl (hl _ _ _ _ hR.2.2.2.2.1) (Cf.2.2.2.2 _ hF.2.1) ⟨hF.2.2.1, hF.2.2.2.1, hF.2.2.2.2.1⟩ ⟨by show d + 1 ≤ R.frames; exact hfr, by show 8 + ((P μ).2.2.1 + 11) + 44 * d ≤ R.locals; have := hF.2.2.2.2.2; omega⟩, Cf.2.2.2.2 _ hi, trivial⟩ ⟨px_blind, px_pre_of hR _⟩ rfl (by simp; omega) (hL.1) rfl (lv_room (by rw [px_cat_mv]; exact hcat)) hd ⟨h4, h5⟩) hR kk
/-- a return -/
def px_Sr (cc : ByteArray) (ret : Option FieldType) (pc : Nat) (g : List Value → Option (Option Value)) : Prop :=
  ∀ (st : List Value) (r : Option Value), g st = some r →
    ∀ (p : Program) (l : Launch) (e : Env) (R : Room) (s : State) (m : MethodId) (args : Array Value) (below : List Frame) (meth : Method) (c : Code) (H : Heap) (locs : List Loc) (cells slots : Nat) (Qc : Array Value → State → Outcome → State → Prop) (free : Addr → Prop) (ad : Nat → Nat) (lsM : Array Slot),
      p.tables.exec = Jvm.exec → c.code = cc → meth.sig.returnType = ret → meth.locks = false →
      (∀ t : State, t.heap = H → s.WarmedH t.vm → Qc args s (.returned (r.map (px_mv ad))) t) → (∀ q ∈ locs, free q.base) →
      W p l e R s m args below meth c H locs cells slots (MQ below Qc args s cells slots free) (F0 m pc lsM (st.map (px_mv ad)))
theorem ps_iret {cc : ByteArray} {pc : Nat} (hd : decode cc pc = .ok (.ireturn, 1)) : px_Sr cc (some .int) pc pr_i := by
  intro st r h
  unfold pr_i at h
  split at h
  · cases h
    intro p l e R s m args below meth c H locs cells slots Qc free ad lsM hx hb hr hlk hq hf
    exact W.iret hx hb hr hq hf hd hlk
  · cases h
theorem ps_zret {cc : ByteArray} {pc : Nat} (hd : decode cc pc = .ok (.ireturn, 1)) : px_Sr cc (some .boolean) pc pr_z := by
  intro st r h
  unfold pr_z at h
  split at h
  · split at h
    · rename_i v hv
      cases h
      intro p l e R s m args below meth c H locs cells slots Qc free ad lsM hx hb hr hlk hq hf
      exact W.zret hx hb hr (px_nar_i (Or.inr ⟨rfl, hv⟩)).1 hq hf hd hlk
    · cases h
  · cases h
theorem ps_lret {cc : ByteArray} {pc : Nat} (hd : decode cc pc = .ok (.lreturn, 1)) : px_Sr cc (some .long) pc pr_l := by
  intro st r h
  unfold pr_l at h
  split at h
  · cases h
    intro p l e R s m args below meth c H locs cells slots Qc free ad lsM hx hb hr hlk hq hf
    exact W.lret hx hb hr hq hf hd hlk
  · cases h
theorem ps_vret {cc : ByteArray} {pc : Nat} (hd : decode cc pc = .ok (.return_, 1)) : px_Sr cc none pc pr_v := by
  intro st r h
  unfold pr_v at h
  split at h
  · cases h
    intro p l e R s m args below meth c H locs cells slots Qc free ad lsM hx hb hr hlk hq hf
    exact W.vret hx hb hr hq hf hd hlk
  · cases h
/-- every row of a method's table is right -/
def px_ok1 (l : Launch) (P : Nat → px_M) (d : Nat) (own : String) (cc : ByteArray) (nL : Nat) (ret : Option FieldType) (q : Nat × px_I) : Prop := match q.2 with
  | .inl f => px_Sp own cc nL q.1 f
  | .inr (.inl cq) => px_Sc l P d own cc nL q.1 cq
  | .inr (.inr g) => px_Sr cc ret q.1 g
def px_ok (l : Launch) (P : Nat → px_M) (d : Nat) (own : String) (cc : ByteArray) (nL : Nat) (ret : Option FieldType) : List (Nat × px_I) → Prop
  | [] => True
  | q :: t => px_ok1 l P d own cc nL ret q ∧ px_ok l P d own cc nL ret t
theorem px_ok_look {l : Launch} {P : Nat → px_M} {d : Nat} {own : String} {cc : ByteArray} {nL : Nat} {ret : Option FieldType} {I : px_I} {pc : Nat} : ∀ (tb : List (Nat × px_I)), px_ok l P d own cc nL ret tb → px_look tb pc = some I → px_ok1 l P d own cc nL ret (pc, I)
  | [], _, h => by cases h
  | q :: t, h0, h => by
    unfold px_look at h
    split at h
    · rename_i e
      cases h
      subst e
      exact h0.1
    · exact px_ok_look t h0.2 h
end
section
/-! ===== a method out of its table ===== -/
theorem px_lg_len (ad : Nat → Nat) : ∀ vs : List Value, (lg_sl (vs.map (px_mv ad))).length = (px_ents vs).length
  | [] => rfl
  | v :: t => by
    have ih := px_lg_len ad t
    unfold lg_sl at ih ⊢
    simp only [List.map_cons, List.flatMap_cons, List.length_append, ih, px_mv_cat]
    rw [px_ents]
    by_cases h : v.category = 2
    · rw [if_pos h, if_pos h]; simp only [List.length_cons, List.length_nil]; omega
    · rw [if_neg h, if_neg h]; simp only [List.length_cons, List.length_nil]; omega
theorem px_lg_get (ad : Nat → Nat) : ∀ (vs : List Value) (i : Nat) (v : Value), (px_ents vs)[i]? = some v → v ≠ .null → (lg_sl (vs.map (px_mv ad)))[i]? = some (.val (px_mv ad v))
  | [], i, v, h, _ => by simp [px_ents] at h
  | w :: t, i, v, h, hn => by
    have ih := px_lg_get ad t
    unfold lg_sl at ih ⊢
    simp only [List.map_cons, List.flatMap_cons, px_mv_cat]
    rw [px_ents] at h
    by_cases hc : w.category = 2
    · rw [if_pos hc] at h ⊢
      match i, h with
      | 0, h => simp at h; subst h; simp
      | 1, h => simp at h; exact absurd h.symm hn
      | i + 2, h => simp at h; simpa using ih i v h hn
    · rw [if_neg hc] at h ⊢
      match i, h with
      | 0, h => simp at h; subst h; simp
      | i + 1, h => simp at h; simpa using ih i v h hn
theorem px_entry (ad : Nat → Nat) (vs : List Value) {n : Nat} (h : (px_ents vs).length ≤ n) : px_L ad n (px_ents vs ++ List.replicate (n - (px_ents vs).length) .null) ((lg_sl (vs.map (px_mv ad)) ++ List.replicate (n - (lg_sl (vs.map (px_mv ad))).length) Slot.unset).toArray) := by
  obtain ⟨h1, h2, -⟩ := lv_entry (vs.map (px_mv ad)) (n := n) (by rw [px_lg_len]; exact h)
  refine ⟨h1, h2, fun i v hv hn => ?_⟩
  by_cases hi : i < (px_ents vs).length
  · rw [List.getElem?_append_left hi] at hv
    rw [List.getElem?_toArray, List.getElem?_append_left (by rw [px_lg_len]; exact hi)]
    exact px_lg_get ad vs i v hv hn
  · rw [List.getElem?_append_right (by omega)] at hv
    have := List.eq_of_mem_replicate (List.mem_of_getElem? hv)
    exact absurd this hn
section PM
variable {l : Launch} {P : Nat → px_M} {d : Nat} {own : String} {cc : ByteArray} {nL : Nat} {ret : Option FieldType} {tb : List (Nat × px_I)}
theorem px_le_trans {a b c : px_S} (h1 : px_le a b) (h2 : px_le b c) : px_le a c := ⟨Nat.le_trans h1.1 h2.1, Nat.le_trans h1.2 h2.2⟩
theorem px_run_mono (hok : px_ok l P d own cc nL ret tb) (f : Nat) {r : Option Value} {τ : px_S} : ∀ (n pc : Nat) (ls st : List Value) (σ : px_S), px_run (px_call P d f) tb n pc ls st σ = some (r, τ) → px_le σ τ
  | 0, _, _, _, _, h => by cases h
  | n + 1, pc, ls, st, σ, h => by
    unfold px_run at h
    split at h
    · cases h
    · rename_i g hg
      have h1 := px_ok_look tb hok hg
      split at h
      · cases h
      · rename_i q hq
        exact px_le_trans (h1 ls st σ q hq).1 (px_run_mono hok f n _ _ _ _ h)
    · rename_i q hg
      have h1 := px_ok_look tb hok hg
      split at h
      · rename_i hc
        split at h
        · cases h
        · rename_i z hz
          exact px_le_trans (h1 f ls st σ z.1 z.2 hc.1 hc.2 hz).1 (px_run_mono hok f n _ _ _ _ h)
      · cases h
    · split at h
      · cases h
      · cases h
        exact ⟨Nat.le_refl _, Nat.le_refl _⟩
theorem px_run_W (hok : px_ok l P d own cc nL ret tb) (f : Nat) {r : Option Value} {τ : px_S} {p : Program} {e : Env} {R : Room} {s : State} {m : MethodId} {args : Array Value} {below : List Frame} {meth : Method} {c : Code} {D : va_G} {cs : px_C} {A : Nat → Prop} {ad0 : Nat → Nat} {Qc : Array Value → State → Outcome → State → Prop} {free : Addr → Prop}
    (C : CallFix p m c cc nL s args px_TB own) (hr : meth.sig.returnType = ret) (hlk : meth.locks = false) (hfr : d + 1 ≤ R.frames) (hlo : 44 * (d + 1) ≤ R.locals) (hfree : ∀ q, A q → free q)
    (hq : ∀ (ad : Nat → Nat) (H : Heap) (locs : List Loc), (∀ k, k ≠ 33 → ad k = ad0 k) → px_R D cs A s ad τ H locs → ∀ t : State, t.heap = H → s.WarmedH t.vm → Qc args s (.returned (r.map (px_mv ad))) t) :
    ∀ (n pc : Nat) (ls st : List Value) (σ : px_S) (ad : Nat → Nat) (H : Heap) (locs : List Loc) (cells slots : Nat) (lsM : Array Slot), px_run (px_call P d f) tb n pc ls st σ = some (r, τ) → (∀ k, k ≠ 33 → ad k = ad0 k) → px_R D cs A s ad σ H locs → px_L ad nL ls lsM →
      cells + (px_cc τ - px_cc σ) = R.cells → slots + (px_cs τ - px_cs σ) = R.slots →
      W p l e R s m args below meth c H locs cells slots (MQ below Qc args s R.cells R.slots free) (F0 m pc lsM (st.map (px_mv ad)))
  | 0, _, _, _, _, _, _, _, _, _, _, h => by cases h
  | n + 1, pc, ls, st, σ, ad, H, locs, cells, slots, lsM, h => by
    intro had hR hL hcc hss
    unfold px_run at h
    split at h
    · cases h
    · rename_i g hg
      have h1 := px_ok_look tb hok hg
      split at h
      · cases h
      · rename_i q hqq
        obtain ⟨hle, h2⟩ := h1 ls st σ q hqq
        have hle2 := px_run_mono hok f n _ _ _ _ h
        have e1 := hle.1; have e2 := hle.2; have e3 := hle2.1; have e4 := hle2.2
        refine h2 p l e R s m args below meth c H locs cells slots _ D cs A ad lsM C (by omega) (by omega) hR hL (by omega) (by omega) (fun ad' H' locs' lsM' had' hR' hL' => ?_)
        exact px_run_W hok f C hr hlk hfr hlo hfree hq n _ _ _ _ ad' H' locs' _ _ lsM' h (fun k hk => (had' k hk).trans (had k hk)) hR' hL' (by omega) (by omega)
    · rename_i q hg
      have h1 := px_ok_look tb hok hg
      split at h
      · rename_i hc
        split at h
        · cases h
        · rename_i z hz
          obtain ⟨hle, h2⟩ := h1 f ls st σ z.1 z.2 hc.1 hc.2 hz
          have hle2 := px_run_mono hok f n _ _ _ _ h
          have e1 := hle.1; have e2 := hle.2; have e3 := hle2.1; have e4 := hle2.2
          obtain ⟨-, hn1, hn2, -⟩ := px_okc_spec hc.2
          refine h2 p e R s m args below meth c H locs cells slots _ D cs A ad lsM C hfr hlo hR hL (by omega) (by omega) (fun ad' H' locs' had' hR' => ?_)
          have h3 := px_run_W (e := e) (below := below) hok f C hr hlk hfr hlo hfree hq n _ _ _ _ ad' H' locs' (cells + (px_cc z.2 - px_cc σ)) (slots + (px_cs z.2 - px_cs σ)) lsM h (fun k hk => (had' k hk).trans (had k hk)) hR' (hL.ad had' hn2) (by omega) (by omega)
          rw [List.map_append, px_mv_ncs had' hn1] at h3
          have e5 : (z.1.map (px_mv ad')).toList = z.1.toList.map (px_mv ad') := by cases z.1 <;> rfl
          rw [e5]
          exact h3
      · cases h
    · rename_i g hg
      have h1 := px_ok_look tb hok hg
      split at h
      · cases h
      · rename_i r' hr'
        cases h
        have h3 := h1 st r hr' p l e R s m args below meth c H locs cells slots Qc free ad lsM C.1 C.2.1 hr hlk (hq ad H locs had hR) (fun q hq' => hfree _ (hR.2.2.2.1.2.2 q hq'))
        have e1 : cells = R.cells := by omega
        have e2 : slots = R.slots := by omega
        rw [← e1, ← e2]
        exact h3
/-- a method whose table is right does on the machine what it does on the pure machine -/
theorem px_met {μ : Nat} (hown : (P μ).1.cls = own) (hpl : plainName own = true) (hok : px_ok l P d own (P μ).2.1 (P μ).2.2.1 (P μ).2.2.2.1 (P μ).2.2.2.2) : px_Met l P (d + 1) μ := by
  intro f vs σ r τ hcall
  unfold px_call at hcall
  split at hcall
  · rename_i hlen
    refine ⟨px_run_mono hok f _ _ _ _ _ hcall, ?_⟩
    intro D cs ad sz
    refine Met.ofW (cc := (P μ).2.1) (maxL := (P μ).2.2.1) (ret := (P μ).2.2.2.1) (by rw [hown]; exact hpl) rfl ?_
    intro p e s m args below meth c s₁ B hml hv
    obtain ⟨rfl, hsz, hP, hK, hD0, hX⟩ := hv
    subst hsz
    have hts := atoms_spec (ws := px_ws (P μ)) B.pre
    have hown' : s.vm.findClass own = some m.cls := by rw [← hown]; exact findClass_of_methodNamed B.named
    have hR : px_R D cs (va_A (px_W cs ad σ) s.heap.size) s ad σ s.heap [] := ⟨hK, hP, hD0.self, va_S.rf, hX, fun q h => Or.inr h⟩
    rw [lg_entry_eq]
    have h1 := px_run_W (e := e) (below := below) (R := (headSpec (px_ws (P μ)) (px_rm (d + 1) (px_cc τ - px_cc σ) (px_cs τ - px_cs σ))).room) (ad0 := ad) (Qc := px_Post D cs ad σ s.heap.size r τ) (free := va_A (px_W cs ad σ) s.heap.size) hok f ⟨B.exec, B.bytes, hml, hown', fun w hw => hts w (List.mem_cons_of_mem _ hw)⟩ B.returns B.notSynchronized (Nat.le_refl _) (Nat.le_refl _) (fun q h => h) (fun ad' H locs had hR' t ht hW => ⟨⟨ad', had, rfl, by rw [ht]; exact hR'.2.1, hR'.2.2.1⟩, hR'.2.2.2.1.F ht⟩) _ _ _ _ _ ad s.heap [] 0 0 _ hcall (fun _ _ => rfl) hR (px_entry ad vs hlen) (Nat.zero_add _) (Nat.zero_add _)
    exact h1
  · cases hcall
end PM
end
section
/-! ===== the library's own: max, min, arraycopy; static rows; texts; 'cells' made anew ===== -/
def pi_max (n : Nat) : px_F := fun ls st σ => match st with
  | .int y :: .int x :: st => if px_cat st ≤ 8 then some (n, ls, .int (if x < y then y else x) :: st, σ) else none
  | _ => none
def pi_min (n : Nat) : px_F := fun ls st σ => match st with
  | .int y :: .int x :: st => if px_cat st ≤ 8 then some (n, ls, .int (if y < x then y else x) :: st, σ) else none
  | _ => none
theorem ps_max {own : String} {cc : ByteArray} {nL pc idx : Nat} (h1 : Cond.methodLink own idx Lib.Math.max.name ∈ px_TB) (h2 : Cond.static Lib.Math.max.name ∈ px_TB) (h3 : Cond.initialized "java/lang/Math" ∈ px_TB) (h4 : Cond.code Lib.Math.max.name Lib.Math.max.code 2 (some .int) ∈ px_TB) (hd : decode cc pc = .ok (.invokestatic idx, 3)) : px_Sq own cc nL pc (pi_max (pc + 3)) := by
  intro ls st σ q h
  unfold pi_max at h
  split at h
  next y x st' =>
    split at h
    · rename_i hz
      cases h
      refine ⟨rfl, ?_⟩
      intro p l e R s m args below meth c H locs cells slots Q D cs A ad lsM C hfr hlo hcc hss hR hL k
      exact va_mmax C.1 C.2.1 (C.2.2.1.trans hL.1.symm) C.2.2.2.1 (C.2.2.2.2 _ h1) (C.2.2.2.2 _ h2) (C.2.2.2.2 _ h3) (C.2.2.2.2 _ h4) hfr (by rw [px_cat_mv]; omega) hcc hss hd (k lsM hL)
    · cases h
  next => cases h
theorem ps_min {own : String} {cc : ByteArray} {nL pc idx : Nat} (h1 : Cond.methodLink own idx Lib.Math.min.name ∈ px_TB) (h2 : Cond.static Lib.Math.min.name ∈ px_TB) (h3 : Cond.initialized "java/lang/Math" ∈ px_TB) (h4 : Cond.code Lib.Math.min.name Lib.Math.min.code 2 (some .int) ∈ px_TB) (hd : decode cc pc = .ok (.invokestatic idx, 3)) : px_Sq own cc nL pc (pi_min (pc + 3)) := by
  intro ls st σ q h
  unfold pi_min at h
  split at h
  next y x st' =>
    split at h
    · rename_i hz
      cases h
      refine ⟨rfl, ?_⟩
      intro p l e R s m args below meth c H locs cells slots Q D cs A ad lsM C hfr hlo hcc hss hR hL k
      exact va_mmin C.1 C.2.1 (C.2.2.1.trans hL.1.symm) C.2.2.2.1 (C.2.2.2.2 _ h1) (C.2.2.2.2 _ h2) (C.2.2.2.2 _ h3) (C.2.2.2.2 _ h4) hfr (by rw [px_cat_mv]; omega) hcc hss hd (k lsM hL)
    · cases h
  next => cases h
/-- a whole row of ints put in place of another's first ones -/
def px_cp (σ : px_S) (k : Nat) (f : Nat → Int32) (n : Nat) : px_S := (fun a => if a = k then va_cpy f (σ.1 k) 0 0 n else σ.1 a, σ.2)
/-- arraycopy of the first n of one int row to another's -/
def pi_copy (nx : Nat) : px_F := fun ls st σ => match st with
  | .int n :: .int dp :: .ref b :: .int sp :: .ref a :: st => (match px_at σ 0 a, px_at σ 0 b with
    | some M, some N => if sp = 0 ∧ dp = 0 ∧ ¬ n < 0 ∧ n.toNatClampNeg ≤ M ∧ n.toNatClampNeg ≤ N ∧ px_cat st ≤ 8 then some (nx, ls, st, px_cp σ b (σ.1 a) n.toNatClampNeg) else none
    | _, _ => none)
  | _ => none
/-- the same out of FIRST_RULES -/
def pi_copyF (nx : Nat) : px_F := fun ls st σ => match st with
  | .int n :: .int dp :: .ref b :: .int sp :: .ref a :: st => (match px_at σ 0 b with
    | some N => if a = 100 ∧ sp = 0 ∧ dp = 0 ∧ ¬ n < 0 ∧ n.toNatClampNeg ≤ 5 ∧ n.toNatClampNeg ≤ N ∧ px_cat st ≤ 8 then some (nx, ls, st, px_cp σ b px_FR n.toNatClampNeg) else none
    | _ => none)
  | _ => none
theorem px_E_cp {cs : px_C} {ad : Nat → Nat} {σ : px_S} {k n : Nat} {f : Nat → Int32} {j : Nat} (hj : j ≠ k) : px_E cs ad (px_cp σ k f n) j = px_E cs ad σ j := by
  have e : (px_cp σ k f n).1 j = σ.1 j := by simp [px_cp, hj]
  have e2 : (px_cp σ k f n).2 = σ.2 := rfl
  unfold px_E px_fv px_len
  rw [e, e2]
theorem px_cp_self (σ : px_S) (k n : Nat) (f : Nat → Int32) : (px_cp σ k f n).1 k = va_cpy f (σ.1 k) 0 0 n := by simp [px_cp]
theorem ps_copy {own : String} {cc : ByteArray} {nL pc idx : Nat} (h1 : Cond.methodLink own idx arraycopyName ∈ px_TB) (h2 : Cond.native arraycopyName ∈ px_TB) (h3 : Cond.static arraycopyName ∈ px_TB) (h4 : Cond.initialized "java/lang/System" ∈ px_TB) (hd : decode cc pc = .ok (.invokestatic idx, 3)) : px_Sm own cc nL pc (pi_copy (pc + 3)) := by
  intro ls st σ q h
  unfold pi_copy at h
  split at h
  next n dp b sp a st' =>
    split at h
    next M N hM hN =>
      split at h
      next hz =>
        obtain ⟨rfl, rfl, hn, hnM, hnN, hcat⟩ := hz
        cases h
        refine ⟨rfl, ?_⟩
        intro p l e R s m args below meth c H locs cells slots Q D cs A ad lsM C hfr hlo hcc hss hR hL k
        obtain ⟨hk, h0, aa, ha, hty, rfl⟩ := px_at_spec hM
        obtain ⟨hk', h0', ab, hb, htb, rfl⟩ := px_at_spec hN
        have he : (px_W cs ad σ)[a]? = some (ad a, .inl (cs.1, (px_len σ a aa.2, .inl (σ.1 a)))) := by rw [px_W_get hk, px_E_ar h0 ha, hty]; rfl
        have he' : (px_W cs ad σ)[b]? = some (ad b, .inl (cs.1, (px_len σ b ab.2, .inl (σ.1 b)))) := by rw [px_W_get hk', px_E_ar h0' hb, htb]; rfl
        have z0 : (0 : Int32).toNatClampNeg = 0 := by decide
        have z1 : ¬ (0 : Int32) < 0 := by decide
        have hnw : nativeFrameWords "java/lang/System" "arraycopy" 5 + 11 ≤ 36 := by decide +kernel
        have hlo2 : ((st'.map (px_mv ad)).map fun v => v.category).sum + (nativeFrameWords "java/lang/System" "arraycopy" 5 + 11) ≤ R.locals := by rw [px_cat_mv]; omega
        refine va_copyi (ty := .int) (sp := 0) (dp := 0) (n := n) (rest := st'.map (px_mv ad)) C.1 C.2.1 (C.2.2.1.trans hL.1.symm) C.2.2.2.1 (C.2.2.2.2 _ h1) (C.2.2.2.2 _ h2) (C.2.2.2.2 _ h3) (C.2.2.2.2 _ h4) hR.1 hR.2.1 hR.2.2.1 hR.2.2.2.1 a b 0 0 he he' rfl rfl rfl z1 z1 hn (by rw [z0]; omega) (by rw [z0]; omega) (fun _ _ => rfl) hfr hlo2 hd (fun H1 locs1 hP hD hS => ?_)
        refine k H1 locs1 lsM (hR.to (px_W_set ?_ (fun i hi => px_E_cp hi)) hP hD hS) hL
        rw [px_E_ar h0' hb, htb, px_cp_self]; rfl
      next => cases h
    next => cases h
  next => cases h
theorem ps_copyF {own : String} {cc : ByteArray} {nL pc idx : Nat} (h1 : Cond.methodLink own idx arraycopyName ∈ px_TB) (h2 : Cond.native arraycopyName ∈ px_TB) (h3 : Cond.static arraycopyName ∈ px_TB) (h4 : Cond.initialized "java/lang/System" ∈ px_TB) (hd : decode cc pc = .ok (.invokestatic idx, 3)) : px_Sm own cc nL pc (pi_copyF (pc + 3)) := by
  intro ls st σ q h
  unfold pi_copyF at h
  split at h
  next n dp b sp a st' =>
    split at h
    next N hN =>
      split at h
      next hz =>
        obtain ⟨rfl, rfl, rfl, hn, hnM, hnN, hcat⟩ := hz
        cases h
        refine ⟨rfl, ?_⟩
        intro p l e R s m args below meth c H locs cells slots Q D cs A ad lsM C hfr hlo hcc hss hR hL k
        obtain ⟨hk', h0', ab, hb, htb, rfl⟩ := px_at_spec hN
        have he' : (px_W cs ad σ)[b]? = some (ad b, .inl (cs.1, (px_len σ b ab.2, .inl (σ.1 b)))) := by rw [px_W_get hk', px_E_ar h0' hb, htb]; rfl
        have z0 : (0 : Int32).toNatClampNeg = 0 := by decide
        have z1 : ¬ (0 : Int32) < 0 := by decide
        have hnw : nativeFrameWords "java/lang/System" "arraycopy" 5 + 11 ≤ 36 := by decide +kernel
        have hlo2 : ((st'.map (px_mv ad)).map fun v => v.category).sum + (nativeFrameWords "java/lang/System" "arraycopy" 5 + 11) ≤ R.locals := by rw [px_cat_mv]; omega
        have hX := hR.2.2.2.2.1.2.1.2.1
        have hlt : ad 100 < s.heap.size := by
          obtain ⟨scr, h9, -⟩ := hX.1
          exact (Array.getElem?_eq_some_iff.mp h9).1
        refine va_copyx (sp := 0) (dp := 0) (n := n) (rest := st'.map (px_mv ad)) C.1 C.2.1 (C.2.2.1.trans hL.1.symm) C.2.2.2.1 (C.2.2.2.2 _ h1) (C.2.2.2.2 _ h2) (C.2.2.2.2 _ h3) (C.2.2.2.2 _ h4) hR.1 hR.2.1 hR.2.2.1 hR.2.2.2.1 hX.1 hlt hX.2 b 0 he' rfl z1 z1 hn (by rw [z0]; omega) (by rw [z0]; omega) hfr hlo2 hd (fun H1 locs1 hP hD hS => ?_)
        refine k H1 locs1 lsM (hR.to (px_W_set ?_ (fun i hi => px_E_cp hi)) hP hD hS) hL
        rw [px_E_ar h0' hb, htb, px_cp_self]; rfl
      next => cases h
    next => cases h
  next => cases h
theorem ps_getsF {cc : ByteArray} {nL pc : Nat} (hd : decode cc pc = .ok (.getstatic 25, 3)) : px_Sq RX6 cc nL pc (pi_const (pc + 3) (.ref 100)) := by
  intro ls st σ q h
  cases h
  refine ⟨rfl, ?_⟩
  intro p l e R s m args below meth c H locs cells slots Q D cs A ad lsM C hfr hlo hcc hss hR hL k
  obtain ⟨⟨-, -, -, -, a5, -⟩, ⟨b1, -⟩, -⟩ := hR.2.2.2.2.1
  exact va_getsN C.1 C.2.1 b1 hR.2.2.2.1 C.2.2.2.1 (a5.use rfl) (fun _ z => z) hd (k lsM hL)
theorem ps_getsB {cc : ByteArray} {nL pc : Nat} (hd : decode cc pc = .ok (.getstatic 83, 3)) : px_Sq RX6 cc nL pc (pi_const (pc + 3) (.ref 101)) := by
  intro ls st σ q h
  cases h
  refine ⟨rfl, ?_⟩
  intro p l e R s m args below meth c H locs cells slots Q D cs A ad lsM C hfr hlo hcc hss hR hL k
  obtain ⟨⟨-, -, -, -, -, a6⟩, ⟨-, -, b3, -⟩, -⟩ := hR.2.2.2.2.1
  exact va_getsN C.1 C.2.1 b3 hR.2.2.2.1 C.2.2.2.1 (a6.use rfl) (fun _ z => z) hd (k lsM hL)
/-- a place of RULE_BOUNDS -/
def pi_rb (n : Nat) : px_F := fun ls st σ => match st with
  | .int i :: .ref k :: st => if k = 101 ∧ ¬ (i < 0 ∨ 5 ≤ i.toNatClampNeg) then some (n, ls, .int (px_RB i.toNatClampNeg) :: st, σ) else none
  | _ => none
theorem ps_rb {own : String} {cc : ByteArray} {nL pc : Nat} (hd : decode cc pc = .ok (.iaload, 1)) : px_Sq own cc nL pc (pi_rb (pc + 1)) := by
  intro ls st σ q h
  unfold pi_rb at h
  split at h
  next i k st' =>
    split at h
    next hz =>
      obtain ⟨rfl, hin⟩ := hz
      cases h
      refine ⟨rfl, ?_⟩
      intro p l e R s m args below meth c H locs cells slots Q D cs A ad lsM C hfr hlo hcc hss hR hL k
      obtain ⟨-, ⟨-, -, -, b4⟩, -⟩ := hR.2.2.2.2.1
      exact va_ti C.1 C.2.1 b4 hR.2.2.2.1 hin rfl hd (k lsM hL)
    next => cases h
  next => cases h
/-- a text of the program -/
theorem ps_ldcS {cc : ByteArray} {nL pc : Nat} (i : Nat) (hi : i < 7) (hd : decode cc pc = .ok (.ldc (px_si i), 2)) : px_Sq RX6 cc nL pc (pi_const (pc + 2) (.ref (110 + i))) := by
  intro ls st σ q h
  cases h
  refine ⟨rfl, ?_⟩
  intro p l e R s m args below meth c H locs cells slots Q D cs A ad lsM C hfr hlo hcc hss hR hL k
  obtain ⟨-, -, -, -, c2⟩ := hR.2.2.2.2.1
  exact va_ldcS C.1 C.2.1 C.2.2.2.1 (c2 i hi) hd (k lsM hL)
theorem ps_aret {cc : ByteArray} {pc : Nat} {n : String} (hd : decode cc pc = .ok (.areturn, 1)) : px_Sr cc (some (.object n)) pc pr_a := by
  intro st r h
  unfold pr_a at h
  split at h
  · cases h
    intro p l e R s m args below meth c H locs cells slots Qc free ad lsM hx hb hr hlk hq hf
    exact W.aret hx hb hr (Or.inl ⟨n, rfl⟩) (Or.inr ⟨_, rfl⟩) hq hf hd hlk
  · cases h
end
section
/-! ===== 'cells' made anew: new int[n], put into the field ===== -/
def px_nw (σ : px_S) (N : Nat) : px_S := (fun a => if a = 33 then (fun _ => 0) else σ.1 a, σ.2.1, N, px_cc σ + 1, px_cs σ + N)
def pi_newc (n : Nat) : px_F := fun ls st σ => match st with
  | .int x :: .ref k :: st => if k = 6 ∧ ¬ x < 0 ∧ x.toNatClampNeg ≤ 100000 ∧ ls.all px_nc = true ∧ st.all px_nc = true then some (n, ls, st, px_nw σ x.toNatClampNeg) else none
  | _ => none
theorem px_ob_33 : ∀ k o, px_ob[k]? = some o → k ≠ 6 → ∀ d ∈ o.2, d.1 = 2 → d.2 ≠ 33 := by
  intro k o h hk d hd
  have hk10 := px_ob_lt h
  have key : ∀ k : Fin 10, k.val ≠ 6 → ∀ d ∈ (px_ob.getD k.val (0, [])).2, d.1 = 2 → d.2 ≠ 33 := by decide +kernel
  have := key ⟨k, hk10⟩ hk d
  rw [List.getD_eq_getElem?_getD, h] at this
  exact this hd
theorem px_E_nw {cs : px_C} {ad : Nat → Nat} {σ : px_S} {q N j : Nat} (hj : j ≠ 33) (h6 : j ≠ 6) : px_E cs (va_up ad 33 q) (px_nw σ N) j = px_E cs ad σ j := by
  have e : (px_nw σ N).1 j = σ.1 j := by simp [px_nw, hj]
  have e2 : (px_nw σ N).2.1 = σ.2.1 := rfl
  cases h : px_ob[j]? with
  | some o =>
    rw [px_E_ob h, px_E_ob h]
    congr 2
    apply List.ext_getElem?
    intro i
    rw [List.getElem?_mapIdx, List.getElem?_mapIdx]
    cases hd : o.2[i]? with
    | none => rfl
    | some d =>
      have h33 := px_ob_33 j o h h6 d (List.mem_of_getElem? hd)
      simp only [Option.map_some, px_fv, e, e2]
      by_cases h1 : d.1 = 1
      · simp [h1]
      · by_cases h2 : d.1 = 2
        · simp [h2, va_up_ne _ _ (h33 h2)]
        · simp [h1, h2]
  | none =>
    cases ha : px_ar[j]? with
    | none => unfold px_E; rw [h]; dsimp only; rw [ha]
    | some a =>
      rw [px_E_ar h ha, px_E_ar h ha, e, e2]
      simp only [px_len, hj, if_false]
theorem ps_newc {cc : ByteArray} {nL pc idx : Nat} (h1 : Cond.arrayClass .int ∈ px_TB) (hc : px_Kc 5 RX5 TX5 7) (hw : Cond.fieldLink RX5 idx RX5 "cells" "[I" ∈ px_TB) (hd1 : decode cc pc = .ok (.newarray .int, 2)) (hd2 : decode cc (pc + 2) = .ok (.putfield idx, 3)) : px_Sp RX5 cc nL pc (pi_newc (pc + 5)) := by
  intro ls st σ q h
  unfold pi_newc at h
  split at h
  next x k st' =>
    split at h
    next hz =>
      obtain ⟨rfl, hx, hN, hnl, hns⟩ := hz
      cases h
      refine ⟨⟨Nat.le_succ _, Nat.le_add_right _ _⟩, ?_⟩
      intro p l e R s m args below meth c H locs cells slots Q D cs A ad lsM Cf hfr hlo hR hL h4 h5 kk
      have e4 : px_cc (px_nw σ x.toNatClampNeg) - px_cc σ = 1 := by show px_cc σ + 1 - px_cc σ = 1; omega
      have e5 : px_cs (px_nw σ x.toNatClampNeg) - px_cs σ = x.toNatClampNeg := by show px_cs σ + x.toNatClampNeg - px_cs σ = _; omega
      dsimp only at h4 h5 kk
      rw [e4] at h4 kk
      rw [e5] at h5 kk
      refine va_newa (atype := .int) (ty := .int) (a0 := (x.toNatClampNeg, .inl (fun _ => 0))) Cf.1 Cf.2.1 (Cf.2.2.2.2 _ h1) rfl hR.1 hR.2.1 hR.2.2.1 hR.2.2.2.1 hR.2.2.2.2.2 (fun cA => rfl) hx rfl (by show x.toNatClampNeg * 4 ≤ _; omega) h4 h5 hd1 (fun q cA H1 hK1 hP1 hD1 hS1 => ?_)
      have hcA : cA = cs.1 := by
        have g1 := (hK1.2 3 (cA, .int) rfl).2
        have g2 := (hK1.2 0 (cs.1, .int) rfl).2
        exact Option.some.inj (g1.symm.trans g2)
      subst hcA
      have ho : px_ob[6]? = some (5, [(2, 29), (2, 30), (2, 31), (2, 32), (0, 0), (0, 0), (2, 33)]) := rfl
      have hlen : (px_W cs ad σ).length = 59 := by simp [px_W]
      have he : (px_W cs ad σ ++ [(q, Sum.inl (cs.1, (x.toNatClampNeg, .inl (fun _ => 0))))])[6]? = some (ad 6, .inr (5, ([(2, 29), (2, 30), (2, 31), (2, 32), (0, 0), (0, 0), (2, 33)] : List (Nat × Nat)).mapIdx fun j d => px_fv ad σ 6 d j)) := by
        rw [List.getElem?_append_left (by rw [hlen]; decide), px_W_get (by decide), px_E_ob ho]
      obtain ⟨ty0, hty0⟩ := hc.2.2.2
      refine va_put (v := .ref q) (ty := .array .int) Cf.1 Cf.2.1 Cf.2.2.2.2 hc.2.1 ty0 hty0 hc.2.2.1 Cf.2.2.2.1 hK1 hP1 hD1 hS1 6 he hc.1 6 (by decide) (Cf.2.2.2.2 _ hw) (fun _ z => z) rfl (by decide +kernel) rfl rfl (by simp) hd2 (fun H2 locs2 hP2 hD2 hS2 => ?_)
      have had : ∀ k, k ≠ 33 → va_up ad 33 q k = ad k := fun k hk => va_up_ne _ _ hk
      have key : ∀ (k : Nat) (z : Nat × va_E), (px_W cs (va_up ad 33 q) (px_nw σ x.toNatClampNeg))[k]? = some z → ((px_W cs ad σ ++ [((q, Sum.inl (cs.1, (x.toNatClampNeg, Sum.inl (fun _ => 0)))) : Nat × va_E)]).set 6 (ad 6, .inr (5, (([(2, 29), (2, 30), (2, 31), (2, 32), (0, 0), (0, 0), (2, 33)] : List (Nat × Nat)).mapIdx fun j d => px_fv ad σ 6 d j).set 6 (.ref q))))[if k = 33 then 59 else k]? = some z := by
        intro k z hk
        have hk59 : k < 59 := by
          have := (List.getElem?_eq_some_iff.mp hk).1
          simpa [px_W] using this
        rw [px_W_get hk59] at hk
        cases hk
        by_cases h33 : k = 33
        · subst h33
          rw [if_pos rfl, List.getElem?_set_ne (by decide), List.getElem?_append_right (by rw [hlen]; decide), hlen]
          rw [px_E_ar (a := (0, 0)) rfl rfl, va_up_self]
          rfl
        · rw [if_neg h33]
          by_cases h6 : k = 6
          · subst h6
            rw [List.getElem?_set_self (by simp [px_W])]
            rw [px_E_ob ho, had 6 (by decide)]
            rfl
          · rw [List.getElem?_set_ne (Ne.symm h6), List.getElem?_append_left (by rw [hlen]; exact hk59), px_W_get hk59, px_E_nw h33 h6, had k h33]
      have hDn : va_D A (px_W cs (va_up ad 33 q) (px_nw σ x.toNatClampNeg)) := by
        refine ⟨fun i j y z hi hj hyz => ?_, fun k z hk => hD2.2 _ z (key k z hk)⟩
        have h9 := hD2.1 _ _ y z (key i y hi) (key j z hj) hyz
        have hi59 : i < 59 := by
          have := (List.getElem?_eq_some_iff.mp hi).1
          simpa [px_W] using this
        have hj59 : j < 59 := by
          have := (List.getElem?_eq_some_iff.mp hj).1
          simpa [px_W] using this
        split at h9 <;> split at h9 <;> omega
      have h9 := kk (va_up ad 33 q) H2 locs2 lsM had ⟨hR.1, fun k z hk => hP2 _ z (key k z hk), hDn, hS2, hR.2.2.2.2.1.ad had, hR.2.2.2.2.2⟩ (hL.ad had hnl)
      rw [px_mv_ncs had hns] at h9
      exact h9
    next => cases h
  next => cases h
end
section
/-! ===== texts of the program: String's own fields and rows ===== -/
def px_ix (b k : Nat) : Option Nat := if b ≤ k ∧ k < b + 7 then some (k - b) else none
theorem px_ix_spec {b k i : Nat} (h : px_ix b k = some i) : k = b + i ∧ i < 7 := by
  unfold px_ix at h
  split at h
  · cases h; omega
  · cases h
def pi_sval (n : Nat) : px_F := fun ls st σ => match st with
  | .ref k :: st => (match px_ix 110 k with
    | some i => some (n, ls, .ref (120 + i) :: st, σ)
    | none => none)
  | _ => none
def pi_scod (n : Nat) : px_F := fun ls st σ => match st with
  | .ref k :: st => (match px_ix 110 k with
    | some _ => some (n, ls, .int 0 :: st, σ)
    | none => none)
  | _ => none
def pi_slen (n : Nat) : px_F := fun ls st σ => match st with
  | .ref k :: st => (match px_ix 120 k with
    | some i => some (n, ls, .int (Int32.ofNat (px_sl.getD i 0)) :: st, σ)
    | none => none)
  | _ => none
def pi_sald (n : Nat) : px_F := fun ls st σ => match st with
  | .int j :: .ref k :: st => (match px_ix 120 k with
    | some i => if j < 0 ∨ px_sl.getD i 0 ≤ j.toNatClampNeg then none else some (n, ls, .int ((px_sb.getD i []).getD j.toNatClampNeg 0) :: st, σ)
    | none => none)
  | _ => none
def pr_b : List Value → Option (Option Value)
  | [.int v] => if v = 0 then some (some (.int v)) else none
  | _ => none
def pr_c : List Value → Option (Option Value)
  | [.int v] => if narrow .char (.int v) = .int v then some (some (.int v)) else none
  | _ => none
theorem ps_i2c {own : String} {cc : ByteArray} {nL pc : Nat} (hd : decode cc pc = .ok (.i2c, 1)) : px_Sq own cc nL pc (pi_un (pc + 1) (fun x => (x.toUInt32 % 65536).toInt32)) := by
  intro ls st σ q h
  unfold pi_un at h
  split at h
  next x st' =>
    cases h
    refine ⟨rfl, ?_⟩
    intro p l e R s m args below meth c H locs cells slots Q D cs A ad lsM C hfr hlo hcc hss hR hL k
    exact lv_i2c C.1 C.2.1 hd rfl (k lsM hL)
  next => cases h
theorem ps_getsC {cc : ByteArray} {nL pc : Nat} (hw : Cond.fieldLink RJ0 38 RJ0 "COMPACT_STRINGS" "Z" ∈ px_TB) (hd : decode cc pc = .ok (.getstatic 38, 3)) : px_Sq RJ0 cc nL pc (pi_const (pc + 3) (.int 1)) := by
  intro ls st σ q h
  cases h
  refine ⟨rfl, ?_⟩
  intro p l e R s m args below meth c H locs cells slots Q D cs A ad lsM C hfr hlo hcc hss hR hL k
  obtain ⟨-, -, ⟨b5, -⟩, -⟩ := hR.2.2.2.2.1
  exact va_gets C.1 C.2.1 b5 hR.2.2.2.1 C.2.2.2.1 (C.2.2.2.2 _ hw) (fun _ z => z) hd (k lsM hL)
theorem ps_getsS {cc : ByteArray} {nL pc : Nat} (hw : Cond.fieldLink RJ0 1053 RJ3 "SIOOBE_FORMATTER" "Ljava/util/function/BiFunction;" ∈ px_TB) (hd : decode cc pc = .ok (.getstatic 1053, 3)) : px_Sq RJ0 cc nL pc (pi_const (pc + 3) (.float 0)) := by
  intro ls st σ q h
  cases h
  refine ⟨rfl, ?_⟩
  intro p l e R s m args below meth c H locs cells slots Q D cs A ad lsM C hfr hlo hcc hss hR hL k
  obtain ⟨-, -, ⟨-, b6⟩, -⟩ := hR.2.2.2.2.1
  exact va_gets C.1 C.2.1 b6 hR.2.2.2.1 C.2.2.2.1 (C.2.2.2.2 _ hw) (fun _ z => z) hd (k lsM hL)
theorem ps_sval {cc : ByteArray} {nL pc : Nat} (hw : Cond.fieldLink RJ0 9 RJ0 "value" "[B" ∈ px_TB) (hd : decode cc pc = .ok (.getfield 9, 3)) : px_Sq RJ0 cc nL pc (pi_sval (pc + 3)) := by
  intro ls st σ q h
  unfold pi_sval at h
  split at h
  next k st' =>
    split at h
    next i hi =>
      obtain ⟨rfl, hi7⟩ := px_ix_spec hi
      cases h
      refine ⟨rfl, ?_⟩
      intro p l e R s m args below meth c H locs cells slots Q D cs A ad lsM C hfr hlo hcc hss hR hL k
      obtain ⟨-, -, -, c1, -⟩ := hR.2.2.2.2.1
      exact va_getX (N := 7) (ad := fun i => ad (110 + i)) (v := fun i => .ref (ad (120 + i))) (i := i) C.1 C.2.1 (fun j hj => (c1.1 j hj).2.2.1) hi7 hR.2.2.2.1 C.2.2.2.1 (C.2.2.2.2 _ hw) (fun _ z => z) hd (k lsM hL)
    next => cases h
  next => cases h
theorem ps_scod {cc : ByteArray} {nL pc : Nat} (hw : Cond.fieldLink RJ0 15 RJ0 "coder" "B" ∈ px_TB) (hd : decode cc pc = .ok (.getfield 15, 3)) : px_Sq RJ0 cc nL pc (pi_scod (pc + 3)) := by
  intro ls st σ q h
  unfold pi_scod at h
  split at h
  next k st' =>
    split at h
    next i hi =>
      obtain ⟨rfl, hi7⟩ := px_ix_spec hi
      cases h
      refine ⟨rfl, ?_⟩
      intro p l e R s m args below meth c H locs cells slots Q D cs A ad lsM C hfr hlo hcc hss hR hL k
      obtain ⟨-, -, -, c1, -⟩ := hR.2.2.2.2.1
      exact va_getX (N := 7) (ad := fun i => ad (110 + i)) (v := fun i => .int 0) (i := i) C.1 C.2.1 (fun j hj => (c1.1 j hj).2.1) hi7 hR.2.2.2.1 C.2.2.2.1 (C.2.2.2.2 _ hw) (fun _ z => z) hd (k lsM hL)
    next => cases h
  next => cases h
theorem ps_slen {own : String} {cc : ByteArray} {nL pc : Nat} (hd : decode cc pc = .ok (.arraylength, 1)) : px_Sq own cc nL pc (pi_slen (pc + 1)) := by
  intro ls st σ q h
  unfold pi_slen at h
  split at h
  next k st' =>
    split at h
    next i hi =>
      obtain ⟨rfl, hi7⟩ := px_ix_spec hi
      cases h
      refine ⟨rfl, ?_⟩
      intro p l e R s m args below meth c H locs cells slots Q D cs A ad lsM C hfr hlo hcc hss hR hL k
      obtain ⟨-, -, -, c1, -⟩ := hR.2.2.2.2.1
      exact va_tlen C.1 C.2.1 (c1.1 i hi7).2.2.2 hR.2.2.2.1 rfl hd (k lsM hL)
    next => cases h
  next => cases h
theorem ps_sald {own : String} {cc : ByteArray} {nL pc : Nat} (hd : decode cc pc = .ok (.baload, 1)) : px_Sq own cc nL pc (pi_sald (pc + 1)) := by
  intro ls st σ q h
  unfold pi_sald at h
  split at h
  next j k st' =>
    split at h
    next i hi =>
      split at h
      next => cases h
      next hin =>
        obtain ⟨rfl, hi7⟩ := px_ix_spec hi
        cases h
        refine ⟨rfl, ?_⟩
        intro p l e R s m args below meth c H locs cells slots Q D cs A ad lsM C hfr hlo hcc hss hR hL k
        obtain ⟨-, -, -, c1, -⟩ := hR.2.2.2.2.1
        exact va_tb C.1 C.2.1 (c1.1 i hi7).2.2.2 hR.2.2.2.1 hin rfl hd (k lsM hL)
    next => cases h
  next => cases h
theorem ps_bret {cc : ByteArray} {pc : Nat} (hd : decode cc pc = .ok (.ireturn, 1)) : px_Sr cc (some .byte) pc pr_b := by
  intro st r h
  unfold pr_b at h
  split at h
  · split at h
    · rename_i v hv
      subst hv
      cases h
      intro p l e R s m args below meth c H locs cells slots Qc free ad lsM hx hb hr hlk hq hf
      exact W.zret hx hb hr (by decide +kernel) hq hf hd hlk
    · cases h
  · cases h
theorem ps_cret {cc : ByteArray} {pc : Nat} (hd : decode cc pc = .ok (.ireturn, 1)) : px_Sr cc (some .char) pc pr_c := by
  intro st r h
  unfold pr_c at h
  split at h
  · split at h
    · rename_i v hv
      cases h
      intro p l e R s m args below meth c H locs cells slots Qc free ad lsM hx hb hr hlk hq hf
      exact W.zret hx hb hr hv hq hf hd hlk
    · cases h
  · cases h
end
