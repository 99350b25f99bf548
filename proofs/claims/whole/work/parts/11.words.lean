/-! ===== the words that the tables need, by their places; the classes ===== -/
theorem wa_int : Cond.arrayClass .int ∈ px_TB := px_in 161 (by decide +kernel) rfl
theorem wa_native : Cond.native arraycopyName ∈ px_TB := px_in 100 (by decide +kernel) rfl
theorem wc_max : Cond.code Lib.Math.max.name Lib.Math.max.code 2 (some .int) ∈ px_TB := px_in 493 (by decide +kernel) rfl
theorem wc_min : Cond.code Lib.Math.min.name Lib.Math.min.code 2 (some .int) ∈ px_TB := px_in 512 (by decide +kernel) rfl
theorem wc_yJ0_charAt_5068e : Cond.code yJ0_charAt_5068e cJ0_charAt_5068e 2 (some .char) ∈ px_TB := px_in 862 (by decide +kernel) rfl
theorem wc_yJ0_checkIndex_df160 : Cond.code yJ0_checkIndex_df160 cJ0_checkIndex_df160 2 (none) ∈ px_TB := px_in 872 (by decide +kernel) rfl
theorem wc_yJ0_coder_7d493 : Cond.code yJ0_coder_7d493 cJ0_coder_7d493 1 (some .byte) ∈ px_TB := px_in 856 (by decide +kernel) rfl
theorem wc_yJ0_isLatin1_aae02 : Cond.code yJ0_isLatin1_aae02 cJ0_isLatin1_aae02 1 (some .boolean) ∈ px_TB := px_in 866 (by decide +kernel) rfl
theorem wc_yJ0_length_8abf5 : Cond.code yJ0_length_8abf5 cJ0_length_8abf5 1 (some .int) ∈ px_TB := px_in 852 (by decide +kernel) rfl
theorem wc_yJ1_charAt_3b067 : Cond.code yJ1_charAt_3b067 cJ1_charAt_3b067 2 (some .char) ∈ px_TB := px_in 869 (by decide +kernel) rfl
theorem wc_yJ3_checkIndex_8e157 : Cond.code yJ3_checkIndex_8e157 cJ3_checkIndex_8e157 3 (some .int) ∈ px_TB := px_in 877 (by decide +kernel) rfl
theorem wc_yJ7_fill_53178 : Cond.code yJ7_fill_53178 cJ7_fill_53178 4 (none) ∈ px_TB := px_in 171 (by decide +kernel) rfl
theorem wc_yX0_distance : Cond.code yX0_distance cX0_distance 12 (some .int) ∈ px_TB := px_in 502 (by decide +kernel) rfl
theorem wc_yX0_forgetAll : Cond.code yX0_forgetAll cX0_forgetAll 1 (none) ∈ px_TB := px_in 923 (by decide +kernel) rfl
theorem wc_yX0_forgetLetter : Cond.code yX0_forgetLetter cX0_forgetLetter 3 (none) ∈ px_TB := px_in 414 (by decide +kernel) rfl
theorem wc_yX0_isLike : Cond.code yX0_isLike cX0_isLike 3 (some .boolean) ∈ px_TB := px_in 498 (by decide +kernel) rfl
theorem wc_yX0_mostPairs : Cond.code yX0_mostPairs cX0_mostPairs 8 (some .int) ∈ px_TB := px_in 490 (by decide +kernel) rfl
theorem wc_yX0_of : Cond.code yX0_of cX0_of 4 (some .int) ∈ px_TB := px_in 486 (by decide +kernel) rfl
theorem wc_yX1_addLetter : Cond.code yX1_addLetter cX1_addLetter 5 (some .int) ∈ px_TB := px_in 399 (by decide +kernel) rfl
theorem wc_yX1_addLine : Cond.code yX1_addLine cX1_addLine 6 (some .int) ∈ px_TB := px_in 407 (by decide +kernel) rfl
theorem wc_yX1_has : Cond.code yX1_has cX1_has 2 (some .boolean) ∈ px_TB := px_in 385 (by decide +kernel) rfl
theorem wc_yX1_hasLine : Cond.code yX1_hasLine cX1_hasLine 3 (some .boolean) ∈ px_TB := px_in 552 (by decide +kernel) rfl
theorem wc_yX1_isSeen : Cond.code yX1_isSeen cX1_isSeen 2 (some .boolean) ∈ px_TB := px_in 451 (by decide +kernel) rfl
theorem wc_yX1_isSeenWith : Cond.code yX1_isSeenWith cX1_isSeenWith 3 (some .boolean) ∈ px_TB := px_in 455 (by decide +kernel) rfl
theorem wc_yX1_isTaken : Cond.code yX1_isTaken cX1_isTaken 2 (some .boolean) ∈ px_TB := px_in 431 (by decide +kernel) rfl
theorem wc_yX1_quoteInto : Cond.code yX1_quoteInto cX1_quoteInto 8 (none) ∈ px_TB := px_in 422 (by decide +kernel) rfl
theorem wc_yX1_seenLetters : Cond.code yX1_seenLetters cX1_seenLetters 3 (some .int) ∈ px_TB := px_in 576 (by decide +kernel) rfl
theorem wc_yX1_turnTaken : Cond.code yX1_turnTaken cX1_turnTaken 2 (none) ∈ px_TB := px_in 435 (by decide +kernel) rfl
theorem wc_yX2_alteredLines : Cond.code yX2_alteredLines cX2_alteredLines 4 (some .int) ∈ px_TB := px_in 589 (by decide +kernel) rfl
theorem wc_yX2_childrenOf : Cond.code yX2_childrenOf cX2_childrenOf 4 (some .int) ∈ px_TB := px_in 538 (by decide +kernel) rfl
theorem wc_yX2_findHeld : Cond.code yX2_findHeld cX2_findHeld 5 (some .int) ∈ px_TB := px_in 521 (by decide +kernel) rfl
theorem wc_yX2_findParent : Cond.code yX2_findParent cX2_findParent 7 (some .int) ∈ px_TB := px_in 469 (by decide +kernel) rfl
theorem wc_yX2_greatestDayAbove : Cond.code yX2_greatestDayAbove cX2_greatestDayAbove 5 (some .int) ∈ px_TB := px_in 759 (by decide +kernel) rfl
theorem wc_yX2_holdLines : Cond.code yX2_holdLines cX2_holdLines 4 (none) ∈ px_TB := px_in 516 (by decide +kernel) rfl
theorem wc_yX2_isAfter : Cond.code yX2_isAfter cX2_isAfter 3 (some .boolean) ∈ px_TB := px_in 482 (by decide +kernel) rfl
theorem wc_yX2_isAltered : Cond.code yX2_isAltered cX2_isAltered 2 (some .boolean) ∈ px_TB := px_in 593 (by decide +kernel) rfl
theorem wc_yX2_isFree : Cond.code yX2_isFree cX2_isFree 3 (some .boolean) ∈ px_TB := px_in 474 (by decide +kernel) rfl
theorem wc_yX2_isQuarrel : Cond.code yX2_isQuarrel cX2_isQuarrel 2 (some .boolean) ∈ px_TB := px_in 636 (by decide +kernel) rfl
theorem wc_yX2_isSeen : Cond.code yX2_isSeen cX2_isSeen 2 (some .boolean) ∈ px_TB := px_in 465 (by decide +kernel) rfl
theorem wc_yX2_leadsTo : Cond.code yX2_leadsTo cX2_leadsTo 5 (some .boolean) ∈ px_TB := px_in 478 (by decide +kernel) rfl
theorem wc_yX2_leastDayBelow : Cond.code yX2_leastDayBelow cX2_leastDayBelow 4 (some .int) ∈ px_TB := px_in 764 (by decide +kernel) rfl
theorem wc_yX2_lettersOfThread : Cond.code yX2_lettersOfThread cX2_lettersOfThread 5 (some .int) ∈ px_TB := px_in 542 (by decide +kernel) rfl
theorem wc_yX2_linesFrom : Cond.code yX2_linesFrom cX2_linesFrom 5 (some .int) ∈ px_TB := px_in 597 (by decide +kernel) rfl
theorem wc_yX2_linesQuotedAlike : Cond.code yX2_linesQuotedAlike cX2_linesQuotedAlike 7 (some .int) ∈ px_TB := px_in 802 (by decide +kernel) rfl
theorem wc_yX2_nextToWrite : Cond.code yX2_nextToWrite cX2_nextToWrite 6 (some .int) ∈ px_TB := px_in 743 (by decide +kernel) rfl
theorem wc_yX2_quarrelAt : Cond.code yX2_quarrelAt cX2_quarrelAt 4 (some .int) ∈ px_TB := px_in 751 (by decide +kernel) rfl
theorem wc_yX2_quarrels : Cond.code yX2_quarrels cX2_quarrels 3 (some .int) ∈ px_TB := px_in 632 (by decide +kernel) rfl
theorem wc_yX2_refresh : Cond.code yX2_refresh cX2_refresh 3 (none) ∈ px_TB := px_in 460 (by decide +kernel) rfl
theorem wc_yX2_rootOf : Cond.code yX2_rootOf cX2_rootOf 4 (some .int) ∈ px_TB := px_in 530 (by decide +kernel) rfl
theorem wc_yX2_roots : Cond.code yX2_roots cX2_roots 3 (some .int) ∈ px_TB := px_in 585 (by decide +kernel) rfl
theorem wc_yX2_sourceOf : Cond.code yX2_sourceOf cX2_sourceOf 4 (some .int) ∈ px_TB := px_in 601 (by decide +kernel) rfl
theorem wc_yX2_stepsOf : Cond.code yX2_stepsOf cX2_stepsOf 4 (some .int) ∈ px_TB := px_in 534 (by decide +kernel) rfl
theorem wc_yX2_writtenAt : Cond.code yX2_writtenAt cX2_writtenAt 6 (some .int) ∈ px_TB := px_in 739 (by decide +kernel) rfl
theorem wc_yX3_gather : Cond.code yX3_gather cX3_gather 6 (some .int) ∈ px_TB := px_in 620 (by decide +kernel) rfl
theorem wc_yX3_handOverPiece : Cond.code yX3_handOverPiece cX3_handOverPiece 3 (none) ∈ px_TB := px_in 682 (by decide +kernel) rfl
theorem wc_yX3_has : Cond.code yX3_has cX3_has 2 (some .boolean) ∈ px_TB := px_in 662 (by decide +kernel) rfl
theorem wc_yX3_hasPiece : Cond.code yX3_hasPiece cX3_hasPiece 3 (some .boolean) ∈ px_TB := px_in 610 (by decide +kernel) rfl
theorem wc_yX3_isLarge : Cond.code yX3_isLarge cX3_isLarge 2 (some .boolean) ∈ px_TB := px_in 666 (by decide +kernel) rfl
theorem wc_yX3_isOfPiece : Cond.code yX3_isOfPiece cX3_isOfPiece 4 (some .boolean) ∈ px_TB := px_in 614 (by decide +kernel) rfl
theorem wc_yX3_makeRow : Cond.code yX3_makeRow cX3_makeRow 3 (none) ∈ px_TB := px_in 674 (by decide +kernel) rfl
theorem wc_yX3_pieceHas : Cond.code yX3_pieceHas cX3_pieceHas 5 (some .boolean) ∈ px_TB := px_in 628 (by decide +kernel) rfl
theorem wc_yX3_refresh : Cond.code yX3_refresh cX3_refresh 2 (none) ∈ px_TB := px_in 605 (by decide +kernel) rfl
theorem wc_yX3_rowLength : Cond.code yX3_rowLength cX3_rowLength 2 (some .int) ∈ px_TB := px_in 670 (by decide +kernel) rfl
theorem wc_yX3_rowText : Cond.code yX3_rowText cX3_rowText 3 (some .long) ∈ px_TB := px_in 731 (by decide +kernel) rfl
theorem wc_yX3_shareText : Cond.code yX3_shareText cX3_shareText 4 (some .boolean) ∈ px_TB := px_in 624 (by decide +kernel) rfl
theorem wc_yX4_addSign : Cond.code yX4_addSign cX4_addSign 2 (some .int) ∈ px_TB := px_in 773 (by decide +kernel) rfl
theorem wc_yX4_standsAt : Cond.code yX4_standsAt cX4_standsAt 5 (some .boolean) ∈ px_TB := px_in 793 (by decide +kernel) rfl
theorem wc_yX4_standsIn : Cond.code yX4_standsIn cX4_standsIn 5 (some .boolean) ∈ px_TB := px_in 788 (by decide +kernel) rfl
theorem wc_yX5_addPiece : Cond.code yX5_addPiece cX5_addPiece 1 (none) ∈ px_TB := px_in 686 (by decide +kernel) rfl
theorem wc_yX5_addText : Cond.code yX5_addText cX5_addText 4 (none) ∈ px_TB := px_in 690 (by decide +kernel) rfl
theorem wc_yX5_findRow : Cond.code yX5_findRow cX5_findRow 6 (none) ∈ px_TB := px_in 694 (by decide +kernel) rfl
theorem wc_yX5_goOn : Cond.code yX5_goOn cX5_goOn 9 (some .int) ∈ px_TB := px_in 698 (by decide +kernel) rfl
theorem wc_yX5_leastHeadAbove : Cond.code yX5_leastHeadAbove cX5_leastHeadAbove 6 (some .long) ∈ px_TB := px_in 706 (by decide +kernel) rfl
theorem wc_yX5_positionOf : Cond.code yX5_positionOf cX5_positionOf 2 (some .int) ∈ px_TB := px_in 701 (by decide +kernel) rfl
theorem wc_yX5_start : Cond.code yX5_start cX5_start 1 (none) ∈ px_TB := px_in 678 (by decide +kernel) rfl
theorem wc_yX5_stepBy : Cond.code yX5_stepBy cX5_stepBy 5 (some .int) ∈ px_TB := px_in 710 (by decide +kernel) rfl
theorem wc_yX5_textOfStep : Cond.code yX5_textOfStep cX5_textOfStep 5 (some .long) ∈ px_TB := px_in 719 (by decide +kernel) rfl
theorem wc_yX5_wipe : Cond.code yX5_wipe cX5_wipe 4 (none) ∈ px_TB := px_in 723 (by decide +kernel) rfl
theorem wc_yX5_writeRow : Cond.code yX5_writeRow cX5_writeRow 5 (none) ∈ px_TB := px_in 715 (by decide +kernel) rfl
theorem wc_yX6_addBytes : Cond.code yX6_addBytes cX6_addBytes 5 (some .int) ∈ px_TB := px_in 810 (by decide +kernel) rfl
theorem wc_yX6_blame : Cond.code yX6_blame cX6_blame 3 (some .boolean) ∈ px_TB := px_in 900 (by decide +kernel) rfl
theorem wc_yX6_endOfWord : Cond.code yX6_endOfWord cX6_endOfWord 2 (some .int) ∈ px_TB := px_in 832 (by decide +kernel) rfl
theorem wc_yX6_isFigure : Cond.code yX6_isFigure cX6_isFigure 1 (some .boolean) ∈ px_TB := px_in 913 (by decide +kernel) rfl
theorem wc_yX6_isWord : Cond.code yX6_isWord cX6_isWord 5 (some .boolean) ∈ px_TB := px_in 848 (by decide +kernel) rfl
theorem wc_yX6_kindOf : Cond.code yX6_kindOf cX6_kindOf 4 (some .int) ∈ px_TB := px_in 836 (by decide +kernel) rfl
theorem wc_yX6_nameOf : Cond.code yX6_nameOf cX6_nameOf 1 (some (.object "java/lang/String")) ∈ px_TB := px_in 839 (by decide +kernel) rfl
theorem wc_yX6_readClause : Cond.code yX6_readClause cX6_readClause 5 (some .boolean) ∈ px_TB := px_in 828 (by decide +kernel) rfl
theorem wc_yX6_readClauses : Cond.code yX6_readClauses cX6_readClauses 2 (some .int) ∈ px_TB := px_in 818 (by decide +kernel) rfl
theorem wc_yX6_readNumber : Cond.code yX6_readNumber cX6_readNumber 4 (some .boolean) ∈ px_TB := px_in 910 (by decide +kernel) rfl
theorem wc_yX6_readSemicolon : Cond.code yX6_readSemicolon cX6_readSemicolon 1 (some .boolean) ∈ px_TB := px_in 919 (by decide +kernel) rfl
theorem wc_yX6_readYes : Cond.code yX6_readYes cX6_readYes 3 (some .boolean) ∈ px_TB := px_in 904 (by decide +kernel) rfl
theorem wc_yX6_skipBlanks : Cond.code yX6_skipBlanks cX6_skipBlanks 1 (none) ∈ px_TB := px_in 824 (by decide +kernel) rfl
theorem wc_yX7_with : Cond.code yX7_with cX7_with 4 (some .long) ∈ px_TB := px_in 377 (by decide +kernel) rfl
theorem wc_yX7_wordAt : Cond.code yX7_wordAt cX7_wordAt 3 (some .int) ∈ px_TB := px_in 509 (by decide +kernel) rfl
theorem wc_yX7_wordOrNone : Cond.code yX7_wordOrNone cX7_wordOrNone 3 (some .int) ∈ px_TB := px_in 558 (by decide +kernel) rfl
theorem wc_yX7_wordsIn : Cond.code yX7_wordsIn cX7_wordsIn 5 (some .int) ∈ px_TB := px_in 505 (by decide +kernel) rfl
theorem wc_yX8_about : Cond.code yX8_about cX8_about 3 (some .int) ∈ px_TB := px_in 447 (by decide +kernel) rfl
theorem wc_yX8_aboutKin : Cond.code yX8_aboutKin cX8_aboutKin 3 (some .int) ∈ px_TB := px_in 526 (by decide +kernel) rfl
theorem wc_yX8_altered : Cond.code yX8_altered cX8_altered 3 (some .int) ∈ px_TB := px_in 645 (by decide +kernel) rfl
theorem wc_yX8_answer : Cond.code yX8_answer cX8_answer 5 (some .int) ∈ px_TB := px_in 418 (by decide +kernel) rfl
theorem wc_yX8_clear : Cond.code yX8_clear cX8_clear 2 (some .int) ∈ px_TB := px_in 777 (by decide +kernel) rfl
theorem wc_yX8_count : Cond.code yX8_count cX8_count 2 (some .int) ∈ px_TB := px_in 572 (by decide +kernel) rfl
theorem wc_yX8_countFindings : Cond.code yX8_countFindings cX8_countFindings 2 (some .int) ∈ px_TB := px_in 581 (by decide +kernel) rfl
theorem wc_yX8_differ : Cond.code yX8_differ cX8_differ 5 (some .int) ∈ px_TB := px_in 563 (by decide +kernel) rfl
theorem wc_yX8_echoes : Cond.code yX8_echoes cX8_echoes 3 (some .int) ∈ px_TB := px_in 650 (by decide +kernel) rfl
theorem wc_yX8_fault : Cond.code yX8_fault cX8_fault 1 (some .int) ∈ px_TB := px_in 928 (by decide +kernel) rfl
theorem wc_yX8_feed : Cond.code yX8_feed cX8_feed 4 (some .int) ∈ px_TB := px_in 806 (by decide +kernel) rfl
theorem wc_yX8_fit : Cond.code yX8_fit cX8_fit 3 (some .int) ∈ px_TB := px_in 568 (by decide +kernel) rfl
theorem wc_yX8_forgetFindings : Cond.code yX8_forgetFindings cX8_forgetFindings 1 (none) ∈ px_TB := px_in 395 (by decide +kernel) rfl
theorem wc_yX8_group : Cond.code yX8_group cX8_group 2 (some .int) ∈ px_TB := px_in 654 (by decide +kernel) rfl
theorem wc_yX8_isWhere : Cond.code yX8_isWhere cX8_isWhere 2 (some .boolean) ∈ px_TB := px_in 784 (by decide +kernel) rfl
theorem wc_yX8_isWrongDay : Cond.code yX8_isWrongDay cX8_isWrongDay 1 (some .boolean) ∈ px_TB := px_in 391 (by decide +kernel) rfl
theorem wc_yX8_isWrongWriter : Cond.code yX8_isWrongWriter cX8_isWrongWriter 1 (some .boolean) ∈ px_TB := px_in 388 (by decide +kernel) rfl
theorem wc_yX8_known : Cond.code yX8_known cX8_known 2 (some .int) ∈ px_TB := px_in 443 (by decide +kernel) rfl
theorem wc_yX8_letter : Cond.code yX8_letter cX8_letter 4 (some .int) ∈ px_TB := px_in 381 (by decide +kernel) rfl
theorem wc_yX8_line : Cond.code yX8_line cX8_line 4 (some .int) ∈ px_TB := px_in 403 (by decide +kernel) rfl
theorem wc_yX8_lost : Cond.code yX8_lost cX8_lost 3 (some .int) ∈ px_TB := px_in 658 (by decide +kernel) rfl
theorem wc_yX8_lostWord : Cond.code yX8_lostWord cX8_lostWord 6 (some .int) ∈ px_TB := px_in 727 (by decide +kernel) rfl
theorem wc_yX8_order : Cond.code yX8_order cX8_order 2 (some .int) ∈ px_TB := px_in 735 (by decide +kernel) rfl
theorem wc_yX8_origin : Cond.code yX8_origin cX8_origin 6 (some .int) ∈ px_TB := px_in 640 (by decide +kernel) rfl
theorem wc_yX8_put : Cond.code yX8_put cX8_put 2 (some .int) ∈ px_TB := px_in 439 (by decide +kernel) rfl
theorem wc_yX8_quarrel : Cond.code yX8_quarrel cX8_quarrel 2 (some .int) ∈ px_TB := px_in 747 (by decide +kernel) rfl
theorem wc_yX8_read : Cond.code yX8_read cX8_read 2 (some .int) ∈ px_TB := px_in 814 (by decide +kernel) rfl
theorem wc_yX8_rule : Cond.code yX8_rule cX8_rule 2 (some .int) ∈ px_TB := px_in 932 (by decide +kernel) rfl
theorem wc_yX8_seek : Cond.code yX8_seek cX8_seek 8 (some .int) ∈ px_TB := px_in 781 (by decide +kernel) rfl
theorem wc_yX8_sign : Cond.code yX8_sign cX8_sign 2 (some .int) ∈ px_TB := px_in 769 (by decide +kernel) rfl
theorem wc_yX8_span : Cond.code yX8_span cX8_span 3 (some .int) ∈ px_TB := px_in 755 (by decide +kernel) rfl
theorem wc_yX8_spotOf : Cond.code yX8_spotOf cX8_spotOf 2 (some .int) ∈ px_TB := px_in 410 (by decide +kernel) rfl
theorem wc_yX8_still : Cond.code yX8_still cX8_still 2 (some .int) ∈ px_TB := px_in 798 (by decide +kernel) rfl
theorem wc_yX8_take : Cond.code yX8_take cX8_take 2 (some .int) ∈ px_TB := px_in 427 (by decide +kernel) rfl
theorem wc_yX8_told : Cond.code yX8_told cX8_told 5 (some .int) ∈ px_TB := px_in 548 (by decide +kernel) rfl
theorem wc_yX8_word : Cond.code yX8_word cX8_word 2 (some .int) ∈ px_TB := px_in 374 (by decide +kernel) rfl
theorem wc_yX9_about : Cond.code yX9_about cX9_about 6 (some .int) ∈ px_TB := px_in 1128 (by decide +kernel) rfl
theorem wc_yX9_altered : Cond.code yX9_altered cX9_altered 3 (some .int) ∈ px_TB := px_in 1178 (by decide +kernel) rfl
theorem wc_yX9_answer : Cond.code yX9_answer cX9_answer 11 (some .int) ∈ px_TB := px_in 1080 (by decide +kernel) rfl
theorem wc_yX9_atFirst : Cond.code yX9_atFirst cX9_atFirst 1 (some .int) ∈ px_TB := px_in 942 (by decide +kernel) rfl
theorem wc_yX9_behind : Cond.code yX9_behind cX9_behind 6 (some .int) ∈ px_TB := px_in 1230 (by decide +kernel) rfl
theorem wc_yX9_clear : Cond.code yX9_clear cX9_clear 2 (some .int) ∈ px_TB := px_in 1265 (by decide +kernel) rfl
theorem wc_yX9_comesTo : Cond.code yX9_comesTo cX9_comesTo 4 (some .boolean) ∈ px_TB := px_in 1141 (by decide +kernel) rfl
theorem wc_yX9_count : Cond.code yX9_count cX9_count 9 (some .int) ∈ px_TB := px_in 1281 (by decide +kernel) rfl
theorem wc_yX9_differ : Cond.code yX9_differ cX9_differ 5 (some .int) ∈ px_TB := px_in 1100 (by decide +kernel) rfl
theorem wc_yX9_differBy : Cond.code yX9_differBy cX9_differBy 9 (some .int) ∈ px_TB := px_in 1108 (by decide +kernel) rfl
theorem wc_yX9_echoes : Cond.code yX9_echoes cX9_echoes 6 (some .int) ∈ px_TB := px_in 1186 (by decide +kernel) rfl
theorem wc_yX9_fault : Cond.code yX9_fault cX9_fault 1 (some .int) ∈ px_TB := px_in 1328 (by decide +kernel) rfl
theorem wc_yX9_feed : Cond.code yX9_feed cX9_feed 5 (some .int) ∈ px_TB := px_in 1286 (by decide +kernel) rfl
theorem wc_yX9_findGroups : Cond.code yX9_findGroups cX9_findGroups 4 (none) ∈ px_TB := px_in 1194 (by decide +kernel) rfl
theorem wc_yX9_findParents : Cond.code yX9_findParents cX9_findParents 4 (none) ∈ px_TB := px_in 1137 (by decide +kernel) rfl
theorem wc_yX9_findPieces : Cond.code yX9_findPieces cX9_findPieces 4 (none) ∈ px_TB := px_in 1214 (by decide +kernel) rfl
theorem wc_yX9_findRow : Cond.code yX9_findRow cX9_findRow 7 (none) ∈ px_TB := px_in 1218 (by decide +kernel) rfl
theorem wc_yX9_fit : Cond.code yX9_fit cX9_fit 3 (some .int) ∈ px_TB := px_in 1112 (by decide +kernel) rfl
theorem wc_yX9_fitOf : Cond.code yX9_fitOf cX9_fitOf 9 (some .int) ∈ px_TB := px_in 1120 (by decide +kernel) rfl
theorem wc_yX9_fitting : Cond.code yX9_fitting cX9_fitting 8 (some .int) ∈ px_TB := px_in 1145 (by decide +kernel) rfl
theorem wc_yX9_group : Cond.code yX9_group cX9_group 2 (some .int) ∈ px_TB := px_in 1190 (by decide +kernel) rfl
theorem wc_yX9_hasPiece : Cond.code yX9_hasPiece cX9_hasPiece 4 (some .boolean) ∈ px_TB := px_in 1198 (by decide +kernel) rfl
theorem wc_yX9_hasSigns : Cond.code yX9_hasSigns cX9_hasSigns 5 (some .boolean) ∈ px_TB := px_in 1273 (by decide +kernel) rfl
theorem wc_yX9_haveCommon : Cond.code yX9_haveCommon cX9_haveCommon 6 (some .boolean) ∈ px_TB := px_in 1206 (by decide +kernel) rfl
theorem wc_yX9_heldTo : Cond.code yX9_heldTo cX9_heldTo 6 (some .int) ∈ px_TB := px_in 1170 (by decide +kernel) rfl
theorem wc_yX9_in : Cond.code yX9_in cX9_in 6 (some .boolean) ∈ px_TB := px_in 1060 (by decide +kernel) rfl
theorem wc_yX9_isAltered : Cond.code yX9_isAltered cX9_isAltered 3 (some .boolean) ∈ px_TB := px_in 1182 (by decide +kernel) rfl
theorem wc_yX9_isLess : Cond.code yX9_isLess cX9_isLess 6 (some .boolean) ∈ px_TB := px_in 1237 (by decide +kernel) rfl
theorem wc_yX9_isLike : Cond.code yX9_isLike cX9_isLike 3 (some .boolean) ∈ px_TB := px_in 1124 (by decide +kernel) rfl
theorem wc_yX9_isPiece : Cond.code yX9_isPiece cX9_isPiece 2 (some .boolean) ∈ px_TB := px_in 1202 (by decide +kernel) rfl
theorem wc_yX9_isSame : Cond.code yX9_isSame cX9_isSame 5 (some .boolean) ∈ px_TB := px_in 1174 (by decide +kernel) rfl
theorem wc_yX9_isSeen : Cond.code yX9_isSeen cX9_isSeen 2 (some .boolean) ∈ px_TB := px_in 1116 (by decide +kernel) rfl
theorem wc_yX9_isWithin : Cond.code yX9_isWithin cX9_isWithin 2 (some .boolean) ∈ px_TB := px_in 1222 (by decide +kernel) rfl
theorem wc_yX9_isWord : Cond.code yX9_isWord cX9_isWord 9 (some .boolean) ∈ px_TB := px_in 1310 (by decide +kernel) rfl
theorem wc_yX9_kindOf : Cond.code yX9_kindOf cX9_kindOf 1 (some .int) ∈ px_TB := px_in 1306 (by decide +kernel) rfl
theorem wc_yX9_known : Cond.code yX9_known cX9_known 2 (some .int) ∈ px_TB := px_in 1096 (by decide +kernel) rfl
theorem wc_yX9_letter : Cond.code yX9_letter cX9_letter 4 (some .int) ∈ px_TB := px_in 1064 (by decide +kernel) rfl
theorem wc_yX9_line : Cond.code yX9_line cX9_line 5 (some .int) ∈ px_TB := px_in 1075 (by decide +kernel) rfl
theorem wc_yX9_look : Cond.code yX9_look cX9_look 1 (some .int) ∈ px_TB := px_in 1296 (by decide +kernel) rfl
theorem wc_yX9_lost : Cond.code yX9_lost cX9_lost 3 (some .int) ∈ px_TB := px_in 1210 (by decide +kernel) rfl
theorem wc_yX9_lostWord : Cond.code yX9_lostWord cX9_lostWord 5 (some .int) ∈ px_TB := px_in 1241 (by decide +kernel) rfl
theorem wc_yX9_noLetter : Cond.code yX9_noLetter cX9_noLetter 2 (some .boolean) ∈ px_TB := px_in 1068 (by decide +kernel) rfl
theorem wc_yX9_noLine : Cond.code yX9_noLine cX9_noLine 3 (some .boolean) ∈ px_TB := px_in 1104 (by decide +kernel) rfl
theorem wc_yX9_one : Cond.code yX9_one cX9_one 1 (some .int) ∈ px_TB := px_in 1084 (by decide +kernel) rfl
theorem wc_yX9_order : Cond.code yX9_order cX9_order 9 (some .int) ∈ px_TB := px_in 1245 (by decide +kernel) rfl
theorem wc_yX9_origin : Cond.code yX9_origin cX9_origin 5 (some .int) ∈ px_TB := px_in 1161 (by decide +kernel) rfl
theorem wc_yX9_originOf : Cond.code yX9_originOf cX9_originOf 3 (some .int) ∈ px_TB := px_in 1166 (by decide +kernel) rfl
theorem wc_yX9_put : Cond.code yX9_put cX9_put 2 (some .int) ∈ px_TB := px_in 1092 (by decide +kernel) rfl
theorem wc_yX9_quarrel : Cond.code yX9_quarrel cX9_quarrel 4 (some .int) ∈ px_TB := px_in 1249 (by decide +kernel) rfl
theorem wc_yX9_quarrels : Cond.code yX9_quarrels cX9_quarrels 3 (some .boolean) ∈ px_TB := px_in 1253 (by decide +kernel) rfl
theorem wc_yX9_quoted : Cond.code yX9_quoted cX9_quoted 4 (some .int) ∈ px_TB := px_in 1133 (by decide +kernel) rfl
theorem wc_yX9_read : Cond.code yX9_read cX9_read 4 (some .int) ∈ px_TB := px_in 1292 (by decide +kernel) rfl
theorem wc_yX9_readClause : Cond.code yX9_readClause cX9_readClause 4 (none) ∈ px_TB := px_in 1318 (by decide +kernel) rfl
theorem wc_yX9_rootOf : Cond.code yX9_rootOf cX9_rootOf 3 (some .int) ∈ px_TB := px_in 1149 (by decide +kernel) rfl
theorem wc_yX9_rule : Cond.code yX9_rule cX9_rule 2 (some .int) ∈ px_TB := px_in 1332 (by decide +kernel) rfl
theorem wc_yX9_seek : Cond.code yX9_seek cX9_seek 10 (some .int) ∈ px_TB := px_in 1269 (by decide +kernel) rfl
theorem wc_yX9_sign : Cond.code yX9_sign cX9_sign 2 (some .int) ∈ px_TB := px_in 1261 (by decide +kernel) rfl
theorem wc_yX9_span : Cond.code yX9_span cX9_span 6 (some .int) ∈ px_TB := px_in 1257 (by decide +kernel) rfl
theorem wc_yX9_step : Cond.code yX9_step cX9_step 1 (some .int) ∈ px_TB := px_in 1233 (by decide +kernel) rfl
theorem wc_yX9_stepsOf : Cond.code yX9_stepsOf cX9_stepsOf 4 (some .int) ∈ px_TB := px_in 1153 (by decide +kernel) rfl
theorem wc_yX9_still : Cond.code yX9_still cX9_still 7 (some .int) ∈ px_TB := px_in 1277 (by decide +kernel) rfl
theorem wc_yX9_take : Cond.code yX9_take cX9_take 2 (some .int) ∈ px_TB := px_in 1088 (by decide +kernel) rfl
theorem wc_yX9_takeNumber : Cond.code yX9_takeNumber cX9_takeNumber 6 (some .int) ∈ px_TB := px_in 1322 (by decide +kernel) rfl
theorem wc_yX9_takeWord : Cond.code yX9_takeWord cX9_takeWord 2 (none) ∈ px_TB := px_in 1300 (by decide +kernel) rfl
theorem wc_yX9_textAt : Cond.code yX9_textAt cX9_textAt 4 (some .int) ∈ px_TB := px_in 1226 (by decide +kernel) rfl
theorem wc_yX9_told : Cond.code yX9_told cX9_told 5 (some .int) ∈ px_TB := px_in 1157 (by decide +kernel) rfl
theorem wc_yX9_want : Cond.code yX9_want cX9_want 4 (some .boolean) ∈ px_TB := px_in 1314 (by decide +kernel) rfl
theorem wc_yX9_word : Cond.code yX9_word cX9_word 2 (some .int) ∈ px_TB := px_in 1056 (by decide +kernel) rfl
theorem wf_RJ0_1053 : Cond.fieldLink RJ0 1053 RJ3 "SIOOBE_FORMATTER" "Ljava/util/function/BiFunction;" ∈ px_TB := px_in 873 (by decide +kernel) rfl
theorem wf_RJ0_15 : Cond.fieldLink RJ0 15 RJ0 "coder" "B" ∈ px_TB := px_in 1335 (by decide +kernel) rfl
theorem wf_RJ0_38 : Cond.fieldLink RJ0 38 RJ0 "COMPACT_STRINGS" "Z" ∈ px_TB := px_in 857 (by decide +kernel) rfl
theorem wf_RJ0_9 : Cond.fieldLink RJ0 9 RJ0 "value" "[B" ∈ px_TB := px_in 1334 (by decide +kernel) rfl
theorem wf_RX0_15 : Cond.fieldLink RX0 15 RX0 "pairs" "[I" ∈ px_TB := px_in 175 (by decide +kernel) rfl
theorem wf_RX0_18 : Cond.fieldLink RX0 18 RX0 "changes" "[I" ∈ px_TB := px_in 176 (by decide +kernel) rfl
theorem wf_RX0_21 : Cond.fieldLink RX0 21 RX0 "heap" "LQuotedLetters$Heap;" ∈ px_TB := px_in 172 (by decide +kernel) rfl
theorem wf_RX0_25 : Cond.fieldLink RX0 25 RX0 "rules" "[I" ∈ px_TB := px_in 173 (by decide +kernel) rfl
theorem wf_RX0_38 : Cond.fieldLink RX0 38 RX1 "lines" "[I" ∈ px_TB := px_in 117 (by decide +kernel) rfl
theorem wf_RX0_55 : Cond.fieldLink RX0 55 RX1 "depth" "[I" ∈ px_TB := px_in 124 (by decide +kernel) rfl
theorem wf_RX0_58 : Cond.fieldLink RX0 58 RX1 "text" "[J" ∈ px_TB := px_in 129 (by decide +kernel) rfl
theorem wf_RX0_9 : Cond.fieldLink RX0 9 RX0 "measured" "[I" ∈ px_TB := px_in 174 (by decide +kernel) rfl
theorem wf_RX1_15 : Cond.fieldLink RX1 15 RX1 "day" "[I" ∈ px_TB := px_in 109 (by decide +kernel) rfl
theorem wf_RX1_18 : Cond.fieldLink RX1 18 RX1 "names" "[I" ∈ px_TB := px_in 112 (by decide +kernel) rfl
theorem wf_RX1_21 : Cond.fieldLink RX1 21 RX1 "lines" "[I" ∈ px_TB := px_in 115 (by decide +kernel) rfl
theorem wf_RX1_24 : Cond.fieldLink RX1 24 RX1 "quoted" "[I" ∈ px_TB := px_in 120 (by decide +kernel) rfl
theorem wf_RX1_27 : Cond.fieldLink RX1 27 RX1 "depth" "[I" ∈ px_TB := px_in 123 (by decide +kernel) rfl
theorem wf_RX1_30 : Cond.fieldLink RX1 30 RX1 "text" "[J" ∈ px_TB := px_in 128 (by decide +kernel) rfl
theorem wf_RX1_34 : Cond.fieldLink RX1 34 RX1 "limit" "I" ∈ px_TB := px_in 137 (by decide +kernel) rfl
theorem wf_RX1_38 : Cond.fieldLink RX1 38 RX1 "letters" "I" ∈ px_TB := px_in 133 (by decide +kernel) rfl
theorem wf_RX1_45 : Cond.fieldLink RX1 45 RX1 "taken" "J" ∈ px_TB := px_in 139 (by decide +kernel) rfl
theorem wf_RX1_9 : Cond.fieldLink RX1 9 RX1 "writer" "[I" ∈ px_TB := px_in 107 (by decide +kernel) rfl
theorem wf_RX2_101 : Cond.fieldLink RX2 101 RX1 "text" "[J" ∈ px_TB := px_in 131 (by decide +kernel) rfl
theorem wf_RX2_15 : Cond.fieldLink RX2 15 RX2 "held" "[I" ∈ px_TB := px_in 199 (by decide +kernel) rfl
theorem wf_RX2_18 : Cond.fieldLink RX2 18 RX2 "builtWith" "I" ∈ px_TB := px_in 203 (by decide +kernel) rfl
theorem wf_RX2_22 : Cond.fieldLink RX2 22 RX2 "heap" "LQuotedLetters$Heap;" ∈ px_TB := px_in 194 (by decide +kernel) rfl
theorem wf_RX2_26 : Cond.fieldLink RX2 26 RX2 "fits" "LQuotedLetters$Fits;" ∈ px_TB := px_in 195 (by decide +kernel) rfl
theorem wf_RX2_30 : Cond.fieldLink RX2 30 RX2 "rules" "[I" ∈ px_TB := px_in 196 (by decide +kernel) rfl
theorem wf_RX2_33 : Cond.fieldLink RX2 33 RX2 "fresh" "Z" ∈ px_TB := px_in 201 (by decide +kernel) rfl
theorem wf_RX2_37 : Cond.fieldLink RX2 37 RX2 "seen" "J" ∈ px_TB := px_in 204 (by decide +kernel) rfl
theorem wf_RX2_41 : Cond.fieldLink RX2 41 RX1 "letters" "I" ∈ px_TB := px_in 134 (by decide +kernel) rfl
theorem wf_RX2_62 : Cond.fieldLink RX2 62 RX1 "names" "[I" ∈ px_TB := px_in 113 (by decide +kernel) rfl
theorem wf_RX2_71 : Cond.fieldLink RX2 71 RX1 "quoted" "[I" ∈ px_TB := px_in 121 (by decide +kernel) rfl
theorem wf_RX2_86 : Cond.fieldLink RX2 86 RX1 "day" "[I" ∈ px_TB := px_in 110 (by decide +kernel) rfl
theorem wf_RX2_89 : Cond.fieldLink RX2 89 RX1 "lines" "[I" ∈ px_TB := px_in 119 (by decide +kernel) rfl
theorem wf_RX2_9 : Cond.fieldLink RX2 9 RX2 "parent" "[I" ∈ px_TB := px_in 197 (by decide +kernel) rfl
theorem wf_RX2_95 : Cond.fieldLink RX2 95 RX1 "depth" "[I" ∈ px_TB := px_in 126 (by decide +kernel) rfl
theorem wf_RX3_105 : Cond.fieldLink RX3 105 RX5 "rowLength" "I" ∈ px_TB := px_in 240 (by decide +kernel) rfl
theorem wf_RX3_108 : Cond.fieldLink RX3 108 RX5 "row" "[J" ∈ px_TB := px_in 238 (by decide +kernel) rfl
theorem wf_RX3_12 : Cond.fieldLink RX3 12 RX3 "finder" "LQuotedLetters$RowFinder;" ∈ px_TB := px_in 260 (by decide +kernel) rfl
theorem wf_RX3_18 : Cond.fieldLink RX3 18 RX3 "groupOf" "[I" ∈ px_TB := px_in 261 (by decide +kernel) rfl
theorem wf_RX3_22 : Cond.fieldLink RX3 22 RX3 "pieces" "[I" ∈ px_TB := px_in 263 (by decide +kernel) rfl
theorem wf_RX3_25 : Cond.fieldLink RX3 25 RX3 "least" "[I" ∈ px_TB := px_in 265 (by decide +kernel) rfl
theorem wf_RX3_28 : Cond.fieldLink RX3 28 RX3 "members" "[I" ∈ px_TB := px_in 267 (by decide +kernel) rfl
theorem wf_RX3_31 : Cond.fieldLink RX3 31 RX3 "groupOfRow" "I" ∈ px_TB := px_in 272 (by decide +kernel) rfl
theorem wf_RX3_35 : Cond.fieldLink RX3 35 RX3 "heap" "LQuotedLetters$Heap;" ∈ px_TB := px_in 258 (by decide +kernel) rfl
theorem wf_RX3_39 : Cond.fieldLink RX3 39 RX3 "kin" "LQuotedLetters$Kin;" ∈ px_TB := px_in 259 (by decide +kernel) rfl
theorem wf_RX3_43 : Cond.fieldLink RX3 43 RX3 "groups" "I" ∈ px_TB := px_in 268 (by decide +kernel) rfl
theorem wf_RX3_46 : Cond.fieldLink RX3 46 RX3 "fresh" "Z" ∈ px_TB := px_in 270 (by decide +kernel) rfl
theorem wf_RX3_56 : Cond.fieldLink RX3 56 RX1 "letters" "I" ∈ px_TB := px_in 136 (by decide +kernel) rfl
theorem wf_RX3_81 : Cond.fieldLink RX3 81 RX1 "depth" "[I" ∈ px_TB := px_in 125 (by decide +kernel) rfl
theorem wf_RX3_84 : Cond.fieldLink RX3 84 RX2 "held" "[I" ∈ px_TB := px_in 200 (by decide +kernel) rfl
theorem wf_RX3_87 : Cond.fieldLink RX3 87 RX1 "lines" "[I" ∈ px_TB := px_in 118 (by decide +kernel) rfl
theorem wf_RX3_93 : Cond.fieldLink RX3 93 RX1 "text" "[J" ∈ px_TB := px_in 130 (by decide +kernel) rfl
theorem wf_RX4_15 : Cond.fieldLink RX4 15 RX4 "length" "I" ∈ px_TB := px_in 301 (by decide +kernel) rfl
theorem wf_RX4_9 : Cond.fieldLink RX4 9 RX4 "signs" "[I" ∈ px_TB := px_in 300 (by decide +kernel) rfl
theorem wf_RX5_11 : Cond.fieldLink RX5 11 RX5 "texts" "[J" ∈ px_TB := px_in 234 (by decide +kernel) rfl
theorem wf_RX5_15 : Cond.fieldLink RX5 15 RX5 "lengths" "[I" ∈ px_TB := px_in 235 (by decide +kernel) rfl
theorem wf_RX5_19 : Cond.fieldLink RX5 19 RX5 "heads" "[J" ∈ px_TB := px_in 236 (by decide +kernel) rfl
theorem wf_RX5_22 : Cond.fieldLink RX5 22 RX5 "row" "[J" ∈ px_TB := px_in 237 (by decide +kernel) rfl
theorem wf_RX5_25 : Cond.fieldLink RX5 25 RX5 "cells" "[I" ∈ px_TB := px_in 242 (by decide +kernel) rfl
theorem wf_RX5_28 : Cond.fieldLink RX5 28 RX5 "pieces" "I" ∈ px_TB := px_in 241 (by decide +kernel) rfl
theorem wf_RX5_57 : Cond.fieldLink RX5 57 RX5 "rowLength" "I" ∈ px_TB := px_in 239 (by decide +kernel) rfl
theorem wf_RX6_15 : Cond.fieldLink RX6 15 RX6 "value" "[I" ∈ px_TB := px_in 315 (by decide +kernel) rfl
theorem wf_RX6_18 : Cond.fieldLink RX6 18 RX6 "faultAt" "I" ∈ px_TB := px_in 319 (by decide +kernel) rfl
theorem wf_RX6_22 : Cond.fieldLink RX6 22 RX6 "length" "I" ∈ px_TB := px_in 317 (by decide +kernel) rfl
theorem wf_RX6_34 : Cond.fieldLink RX6 34 RX6 "position" "I" ∈ px_TB := px_in 323 (by decide +kernel) rfl
theorem wf_RX6_37 : Cond.fieldLink RX6 37 RX6 "toldKinds" "I" ∈ px_TB := px_in 324 (by decide +kernel) rfl
theorem wf_RX6_40 : Cond.fieldLink RX6 40 RX6 "faultKind" "I" ∈ px_TB := px_in 321 (by decide +kernel) rfl
theorem wf_RX6_9 : Cond.fieldLink RX6 9 RX6 "bytes" "[I" ∈ px_TB := px_in 314 (by decide +kernel) rfl
theorem wf_RX8_107 : Cond.fieldLink RX8 107 RX1 "lines" "[I" ∈ px_TB := px_in 116 (by decide +kernel) rfl
theorem wf_RX8_128 : Cond.fieldLink RX8 128 RX1 "limit" "I" ∈ px_TB := px_in 138 (by decide +kernel) rfl
theorem wf_RX8_131 : Cond.fieldLink RX8 131 RX1 "writer" "[I" ∈ px_TB := px_in 108 (by decide +kernel) rfl
theorem wf_RX8_134 : Cond.fieldLink RX8 134 RX1 "day" "[I" ∈ px_TB := px_in 111 (by decide +kernel) rfl
theorem wf_RX8_137 : Cond.fieldLink RX8 137 RX1 "names" "[I" ∈ px_TB := px_in 114 (by decide +kernel) rfl
theorem wf_RX8_140 : Cond.fieldLink RX8 140 RX1 "quoted" "[I" ∈ px_TB := px_in 122 (by decide +kernel) rfl
theorem wf_RX8_160 : Cond.fieldLink RX8 160 RX1 "depth" "[I" ∈ px_TB := px_in 127 (by decide +kernel) rfl
theorem wf_RX8_163 : Cond.fieldLink RX8 163 RX1 "text" "[J" ∈ px_TB := px_in 132 (by decide +kernel) rfl
theorem wf_RX8_186 : Cond.fieldLink RX8 186 RX4 "length" "I" ∈ px_TB := px_in 302 (by decide +kernel) rfl
theorem wf_RX8_189 : Cond.fieldLink RX8 189 RX6 "length" "I" ∈ px_TB := px_in 318 (by decide +kernel) rfl
theorem wf_RX8_205 : Cond.fieldLink RX8 205 RX3 "groupOf" "[I" ∈ px_TB := px_in 262 (by decide +kernel) rfl
theorem wf_RX8_209 : Cond.fieldLink RX8 209 RX3 "pieces" "[I" ∈ px_TB := px_in 264 (by decide +kernel) rfl
theorem wf_RX8_212 : Cond.fieldLink RX8 212 RX3 "least" "[I" ∈ px_TB := px_in 266 (by decide +kernel) rfl
theorem wf_RX8_25 : Cond.fieldLink RX8 25 RX8 "heap" "LQuotedLetters$Heap;" ∈ px_TB := px_in 341 (by decide +kernel) rfl
theorem wf_RX8_257 : Cond.fieldLink RX8 257 RX6 "faultAt" "I" ∈ px_TB := px_in 320 (by decide +kernel) rfl
theorem wf_RX8_260 : Cond.fieldLink RX8 260 RX6 "faultKind" "I" ∈ px_TB := px_in 322 (by decide +kernel) rfl
theorem wf_RX8_263 : Cond.fieldLink RX8 263 RX6 "value" "[I" ∈ px_TB := px_in 316 (by decide +kernel) rfl
theorem wf_RX8_269 : Cond.fieldLink RX8 269 RX2 "fresh" "Z" ∈ px_TB := px_in 202 (by decide +kernel) rfl
theorem wf_RX8_273 : Cond.fieldLink RX8 273 RX3 "fresh" "Z" ∈ px_TB := px_in 271 (by decide +kernel) rfl
theorem wf_RX8_274 : Cond.fieldLink RX8 274 RX2 "parent" "[I" ∈ px_TB := px_in 198 (by decide +kernel) rfl
theorem wf_RX8_295 : Cond.fieldLink RX8 295 RX3 "groups" "I" ∈ px_TB := px_in 269 (by decide +kernel) rfl
theorem wf_RX8_34 : Cond.fieldLink RX8 34 RX8 "fits" "LQuotedLetters$Fits;" ∈ px_TB := px_in 342 (by decide +kernel) rfl
theorem wf_RX8_43 : Cond.fieldLink RX8 43 RX8 "now" "LQuotedLetters$Kin;" ∈ px_TB := px_in 343 (by decide +kernel) rfl
theorem wf_RX8_47 : Cond.fieldLink RX8 47 RX8 "trial" "LQuotedLetters$Kin;" ∈ px_TB := px_in 344 (by decide +kernel) rfl
theorem wf_RX8_55 : Cond.fieldLink RX8 55 RX8 "losts" "LQuotedLetters$LostLetters;" ∈ px_TB := px_in 345 (by decide +kernel) rfl
theorem wf_RX8_62 : Cond.fieldLink RX8 62 RX8 "pattern" "LQuotedLetters$Pattern;" ∈ px_TB := px_in 346 (by decide +kernel) rfl
theorem wf_RX8_69 : Cond.fieldLink RX8 69 RX8 "ruleText" "LQuotedLetters$RuleText;" ∈ px_TB := px_in 347 (by decide +kernel) rfl
theorem wf_RX8_73 : Cond.fieldLink RX8 73 RX8 "draftWords" "I" ∈ px_TB := px_in 349 (by decide +kernel) rfl
theorem wf_RX8_77 : Cond.fieldLink RX8 77 RX8 "draft" "J" ∈ px_TB := px_in 348 (by decide +kernel) rfl
theorem wf_RX8_9 : Cond.fieldLink RX8 9 RX8 "rules" "[I" ∈ px_TB := px_in 340 (by decide +kernel) rfl
theorem wf_RX8_97 : Cond.fieldLink RX8 97 RX1 "letters" "I" ∈ px_TB := px_in 135 (by decide +kernel) rfl
theorem wf_RX9_105 : Cond.fieldLink RX9 105 RX9 "drafts" "I" ∈ px_TB := px_in 953 (by decide +kernel) rfl
theorem wf_RX9_13 : Cond.fieldLink RX9 13 RX9 "writer" "[I" ∈ px_TB := px_in 945 (by decide +kernel) rfl
theorem wf_RX9_16 : Cond.fieldLink RX9 16 RX9 "day" "[I" ∈ px_TB := px_in 946 (by decide +kernel) rfl
theorem wf_RX9_184 : Cond.fieldLink RX9 184 RX9 "groups" "I" ∈ px_TB := px_in 961 (by decide +kernel) rfl
theorem wf_RX9_19 : Cond.fieldLink RX9 19 RX9 "names" "[I" ∈ px_TB := px_in 947 (by decide +kernel) rfl
theorem wf_RX9_190 : Cond.fieldLink RX9 190 RX9 "pieces" "I" ∈ px_TB := px_in 965 (by decide +kernel) rfl
theorem wf_RX9_205 : Cond.fieldLink RX9 205 RX9 "rowSize" "I" ∈ px_TB := px_in 968 (by decide +kernel) rfl
theorem wf_RX9_22 : Cond.fieldLink RX9 22 RX9 "size" "[I" ∈ px_TB := px_in 948 (by decide +kernel) rfl
theorem wf_RX9_221 : Cond.fieldLink RX9 221 RX9 "signs" "I" ∈ px_TB := px_in 969 (by decide +kernel) rfl
theorem wf_RX9_229 : Cond.fieldLink RX9 229 RX9 "textSize" "I" ∈ px_TB := px_in 972 (by decide +kernel) rfl
theorem wf_RX9_236 : Cond.fieldLink RX9 236 RX9 "here" "I" ∈ px_TB := px_in 973 (by decide +kernel) rfl
theorem wf_RX9_239 : Cond.fieldLink RX9 239 RX9 "faultOf" "I" ∈ px_TB := px_in 974 (by decide +kernel) rfl
theorem wf_RX9_246 : Cond.fieldLink RX9 246 RX9 "begin" "I" ∈ px_TB := px_in 976 (by decide +kernel) rfl
theorem wf_RX9_25 : Cond.fieldLink RX9 25 RX9 "isTaken" "[Z" ∈ px_TB := px_in 949 (by decide +kernel) rfl
theorem wf_RX9_253 : Cond.fieldLink RX9 253 RX9 "many" "I" ∈ px_TB := px_in 977 (by decide +kernel) rfl
theorem wf_RX9_29 : Cond.fieldLink RX9 29 RX9 "depth" "[I" ∈ px_TB := px_in 950 (by decide +kernel) rfl
theorem wf_RX9_32 : Cond.fieldLink RX9 32 RX9 "words" "[I" ∈ px_TB := px_in 951 (by decide +kernel) rfl
theorem wf_RX9_35 : Cond.fieldLink RX9 35 RX9 "word" "[I" ∈ px_TB := px_in 952 (by decide +kernel) rfl
theorem wf_RX9_38 : Cond.fieldLink RX9 38 RX9 "draft" "[I" ∈ px_TB := px_in 954 (by decide +kernel) rfl
theorem wf_RX9_41 : Cond.fieldLink RX9 41 RX9 "knownBy" "I" ∈ px_TB := px_in 955 (by decide +kernel) rfl
theorem wf_RX9_45 : Cond.fieldLink RX9 45 RX9 "asIf" "I" ∈ px_TB := px_in 956 (by decide +kernel) rfl
theorem wf_RX9_48 : Cond.fieldLink RX9 48 RX9 "far" "[I" ∈ px_TB := px_in 957 (by decide +kernel) rfl
theorem wf_RX9_51 : Cond.fieldLink RX9 51 RX9 "pairs" "[I" ∈ px_TB := px_in 958 (by decide +kernel) rfl
theorem wf_RX9_54 : Cond.fieldLink RX9 54 RX9 "parent" "[I" ∈ px_TB := px_in 959 (by decide +kernel) rfl
theorem wf_RX9_57 : Cond.fieldLink RX9 57 RX9 "groupOf" "[I" ∈ px_TB := px_in 960 (by decide +kernel) rfl
theorem wf_RX9_60 : Cond.fieldLink RX9 60 RX9 "pieceOf" "[I" ∈ px_TB := px_in 962 (by decide +kernel) rfl
theorem wf_RX9_63 : Cond.fieldLink RX9 63 RX9 "pieceSize" "[I" ∈ px_TB := px_in 963 (by decide +kernel) rfl
theorem wf_RX9_66 : Cond.fieldLink RX9 66 RX9 "piece" "[I" ∈ px_TB := px_in 964 (by decide +kernel) rfl
theorem wf_RX9_7 : Cond.fieldLink RX9 7 RX9 "rules" "[I" ∈ px_TB := px_in 943 (by decide +kernel) rfl
theorem wf_RX9_70 : Cond.fieldLink RX9 70 RX9 "wanted" "[I" ∈ px_TB := px_in 966 (by decide +kernel) rfl
theorem wf_RX9_73 : Cond.fieldLink RX9 73 RX9 "row" "[I" ∈ px_TB := px_in 967 (by decide +kernel) rfl
theorem wf_RX9_76 : Cond.fieldLink RX9 76 RX9 "sign" "[I" ∈ px_TB := px_in 970 (by decide +kernel) rfl
theorem wf_RX9_79 : Cond.fieldLink RX9 79 RX9 "text" "[I" ∈ px_TB := px_in 971 (by decide +kernel) rfl
theorem wf_RX9_82 : Cond.fieldLink RX9 82 RX9 "place" "I" ∈ px_TB := px_in 975 (by decide +kernel) rfl
theorem wf_RX9_85 : Cond.fieldLink RX9 85 RX9 "newRules" "[I" ∈ px_TB := px_in 978 (by decide +kernel) rfl
theorem wf_RX9_92 : Cond.fieldLink RX9 92 RX9 "letters" "I" ∈ px_TB := px_in 944 (by decide +kernel) rfl
theorem wi_yJ0_charAt_5068e : Cond.instanceMethod yJ0_charAt_5068e ∈ px_TB := px_in 860 (by decide +kernel) rfl
theorem wi_yJ0_coder_7d493 : Cond.instanceMethod yJ0_coder_7d493 ∈ px_TB := px_in 854 (by decide +kernel) rfl
theorem wi_yJ0_isLatin1_aae02 : Cond.instanceMethod yJ0_isLatin1_aae02 ∈ px_TB := px_in 864 (by decide +kernel) rfl
theorem wi_yJ0_length_8abf5 : Cond.instanceMethod yJ0_length_8abf5 ∈ px_TB := px_in 850 (by decide +kernel) rfl
theorem wi_yX0_distance : Cond.instanceMethod yX0_distance ∈ px_TB := px_in 500 (by decide +kernel) rfl
theorem wi_yX0_forgetAll : Cond.instanceMethod yX0_forgetAll ∈ px_TB := px_in 921 (by decide +kernel) rfl
theorem wi_yX0_forgetLetter : Cond.instanceMethod yX0_forgetLetter ∈ px_TB := px_in 412 (by decide +kernel) rfl
theorem wi_yX0_isLike : Cond.instanceMethod yX0_isLike ∈ px_TB := px_in 496 (by decide +kernel) rfl
theorem wi_yX0_mostPairs : Cond.instanceMethod yX0_mostPairs ∈ px_TB := px_in 489 (by decide +kernel) rfl
theorem wi_yX0_of : Cond.instanceMethod yX0_of ∈ px_TB := px_in 484 (by decide +kernel) rfl
theorem wi_yX1_addLetter : Cond.instanceMethod yX1_addLetter ∈ px_TB := px_in 397 (by decide +kernel) rfl
theorem wi_yX1_addLine : Cond.instanceMethod yX1_addLine ∈ px_TB := px_in 405 (by decide +kernel) rfl
theorem wi_yX1_has : Cond.instanceMethod yX1_has ∈ px_TB := px_in 383 (by decide +kernel) rfl
theorem wi_yX1_hasLine : Cond.instanceMethod yX1_hasLine ∈ px_TB := px_in 550 (by decide +kernel) rfl
theorem wi_yX1_isSeen : Cond.instanceMethod yX1_isSeen ∈ px_TB := px_in 449 (by decide +kernel) rfl
theorem wi_yX1_isSeenWith : Cond.instanceMethod yX1_isSeenWith ∈ px_TB := px_in 453 (by decide +kernel) rfl
theorem wi_yX1_isTaken : Cond.instanceMethod yX1_isTaken ∈ px_TB := px_in 429 (by decide +kernel) rfl
theorem wi_yX1_quoteInto : Cond.instanceMethod yX1_quoteInto ∈ px_TB := px_in 420 (by decide +kernel) rfl
theorem wi_yX1_seenLetters : Cond.instanceMethod yX1_seenLetters ∈ px_TB := px_in 574 (by decide +kernel) rfl
theorem wi_yX1_turnTaken : Cond.instanceMethod yX1_turnTaken ∈ px_TB := px_in 433 (by decide +kernel) rfl
theorem wi_yX2_alteredLines : Cond.instanceMethod yX2_alteredLines ∈ px_TB := px_in 587 (by decide +kernel) rfl
theorem wi_yX2_childrenOf : Cond.instanceMethod yX2_childrenOf ∈ px_TB := px_in 536 (by decide +kernel) rfl
theorem wi_yX2_findHeld : Cond.instanceMethod yX2_findHeld ∈ px_TB := px_in 520 (by decide +kernel) rfl
theorem wi_yX2_findParent : Cond.instanceMethod yX2_findParent ∈ px_TB := px_in 468 (by decide +kernel) rfl
theorem wi_yX2_greatestDayAbove : Cond.instanceMethod yX2_greatestDayAbove ∈ px_TB := px_in 757 (by decide +kernel) rfl
theorem wi_yX2_holdLines : Cond.instanceMethod yX2_holdLines ∈ px_TB := px_in 515 (by decide +kernel) rfl
theorem wi_yX2_isAfter : Cond.instanceMethod yX2_isAfter ∈ px_TB := px_in 481 (by decide +kernel) rfl
theorem wi_yX2_isAltered : Cond.instanceMethod yX2_isAltered ∈ px_TB := px_in 591 (by decide +kernel) rfl
theorem wi_yX2_isFree : Cond.instanceMethod yX2_isFree ∈ px_TB := px_in 473 (by decide +kernel) rfl
theorem wi_yX2_isQuarrel : Cond.instanceMethod yX2_isQuarrel ∈ px_TB := px_in 635 (by decide +kernel) rfl
theorem wi_yX2_isSeen : Cond.instanceMethod yX2_isSeen ∈ px_TB := px_in 463 (by decide +kernel) rfl
theorem wi_yX2_leadsTo : Cond.instanceMethod yX2_leadsTo ∈ px_TB := px_in 477 (by decide +kernel) rfl
theorem wi_yX2_leastDayBelow : Cond.instanceMethod yX2_leastDayBelow ∈ px_TB := px_in 762 (by decide +kernel) rfl
theorem wi_yX2_lettersOfThread : Cond.instanceMethod yX2_lettersOfThread ∈ px_TB := px_in 540 (by decide +kernel) rfl
theorem wi_yX2_linesFrom : Cond.instanceMethod yX2_linesFrom ∈ px_TB := px_in 595 (by decide +kernel) rfl
theorem wi_yX2_linesQuotedAlike : Cond.instanceMethod yX2_linesQuotedAlike ∈ px_TB := px_in 800 (by decide +kernel) rfl
theorem wi_yX2_nextToWrite : Cond.instanceMethod yX2_nextToWrite ∈ px_TB := px_in 742 (by decide +kernel) rfl
theorem wi_yX2_quarrelAt : Cond.instanceMethod yX2_quarrelAt ∈ px_TB := px_in 749 (by decide +kernel) rfl
theorem wi_yX2_quarrels : Cond.instanceMethod yX2_quarrels ∈ px_TB := px_in 630 (by decide +kernel) rfl
theorem wi_yX2_refresh : Cond.instanceMethod yX2_refresh ∈ px_TB := px_in 458 (by decide +kernel) rfl
theorem wi_yX2_rootOf : Cond.instanceMethod yX2_rootOf ∈ px_TB := px_in 528 (by decide +kernel) rfl
theorem wi_yX2_roots : Cond.instanceMethod yX2_roots ∈ px_TB := px_in 583 (by decide +kernel) rfl
theorem wi_yX2_sourceOf : Cond.instanceMethod yX2_sourceOf ∈ px_TB := px_in 599 (by decide +kernel) rfl
theorem wi_yX2_stepsOf : Cond.instanceMethod yX2_stepsOf ∈ px_TB := px_in 532 (by decide +kernel) rfl
theorem wi_yX2_writtenAt : Cond.instanceMethod yX2_writtenAt ∈ px_TB := px_in 737 (by decide +kernel) rfl
theorem wi_yX3_gather : Cond.instanceMethod yX3_gather ∈ px_TB := px_in 619 (by decide +kernel) rfl
theorem wi_yX3_handOverPiece : Cond.instanceMethod yX3_handOverPiece ∈ px_TB := px_in 681 (by decide +kernel) rfl
theorem wi_yX3_has : Cond.instanceMethod yX3_has ∈ px_TB := px_in 660 (by decide +kernel) rfl
theorem wi_yX3_hasPiece : Cond.instanceMethod yX3_hasPiece ∈ px_TB := px_in 609 (by decide +kernel) rfl
theorem wi_yX3_isLarge : Cond.instanceMethod yX3_isLarge ∈ px_TB := px_in 664 (by decide +kernel) rfl
theorem wi_yX3_isOfPiece : Cond.instanceMethod yX3_isOfPiece ∈ px_TB := px_in 613 (by decide +kernel) rfl
theorem wi_yX3_makeRow : Cond.instanceMethod yX3_makeRow ∈ px_TB := px_in 673 (by decide +kernel) rfl
theorem wi_yX3_pieceHas : Cond.instanceMethod yX3_pieceHas ∈ px_TB := px_in 627 (by decide +kernel) rfl
theorem wi_yX3_refresh : Cond.instanceMethod yX3_refresh ∈ px_TB := px_in 603 (by decide +kernel) rfl
theorem wi_yX3_rowLength : Cond.instanceMethod yX3_rowLength ∈ px_TB := px_in 668 (by decide +kernel) rfl
theorem wi_yX3_rowText : Cond.instanceMethod yX3_rowText ∈ px_TB := px_in 729 (by decide +kernel) rfl
theorem wi_yX3_shareText : Cond.instanceMethod yX3_shareText ∈ px_TB := px_in 623 (by decide +kernel) rfl
theorem wi_yX4_addSign : Cond.instanceMethod yX4_addSign ∈ px_TB := px_in 771 (by decide +kernel) rfl
theorem wi_yX4_standsAt : Cond.instanceMethod yX4_standsAt ∈ px_TB := px_in 792 (by decide +kernel) rfl
theorem wi_yX4_standsIn : Cond.instanceMethod yX4_standsIn ∈ px_TB := px_in 786 (by decide +kernel) rfl
theorem wi_yX5_addPiece : Cond.instanceMethod yX5_addPiece ∈ px_TB := px_in 684 (by decide +kernel) rfl
theorem wi_yX5_addText : Cond.instanceMethod yX5_addText ∈ px_TB := px_in 688 (by decide +kernel) rfl
theorem wi_yX5_findRow : Cond.instanceMethod yX5_findRow ∈ px_TB := px_in 692 (by decide +kernel) rfl
theorem wi_yX5_goOn : Cond.instanceMethod yX5_goOn ∈ px_TB := px_in 697 (by decide +kernel) rfl
theorem wi_yX5_leastHeadAbove : Cond.instanceMethod yX5_leastHeadAbove ∈ px_TB := px_in 705 (by decide +kernel) rfl
theorem wi_yX5_start : Cond.instanceMethod yX5_start ∈ px_TB := px_in 676 (by decide +kernel) rfl
theorem wi_yX5_stepBy : Cond.instanceMethod yX5_stepBy ∈ px_TB := px_in 709 (by decide +kernel) rfl
theorem wi_yX5_textOfStep : Cond.instanceMethod yX5_textOfStep ∈ px_TB := px_in 718 (by decide +kernel) rfl
theorem wi_yX5_wipe : Cond.instanceMethod yX5_wipe ∈ px_TB := px_in 722 (by decide +kernel) rfl
theorem wi_yX5_writeRow : Cond.instanceMethod yX5_writeRow ∈ px_TB := px_in 714 (by decide +kernel) rfl
theorem wi_yX6_addBytes : Cond.instanceMethod yX6_addBytes ∈ px_TB := px_in 808 (by decide +kernel) rfl
theorem wi_yX6_blame : Cond.instanceMethod yX6_blame ∈ px_TB := px_in 899 (by decide +kernel) rfl
theorem wi_yX6_endOfWord : Cond.instanceMethod yX6_endOfWord ∈ px_TB := px_in 831 (by decide +kernel) rfl
theorem wi_yX6_isWord : Cond.instanceMethod yX6_isWord ∈ px_TB := px_in 847 (by decide +kernel) rfl
theorem wi_yX6_kindOf : Cond.instanceMethod yX6_kindOf ∈ px_TB := px_in 835 (by decide +kernel) rfl
theorem wi_yX6_readClause : Cond.instanceMethod yX6_readClause ∈ px_TB := px_in 827 (by decide +kernel) rfl
theorem wi_yX6_readClauses : Cond.instanceMethod yX6_readClauses ∈ px_TB := px_in 816 (by decide +kernel) rfl
theorem wi_yX6_readNumber : Cond.instanceMethod yX6_readNumber ∈ px_TB := px_in 909 (by decide +kernel) rfl
theorem wi_yX6_readSemicolon : Cond.instanceMethod yX6_readSemicolon ∈ px_TB := px_in 918 (by decide +kernel) rfl
theorem wi_yX6_readYes : Cond.instanceMethod yX6_readYes ∈ px_TB := px_in 903 (by decide +kernel) rfl
theorem wi_yX6_skipBlanks : Cond.instanceMethod yX6_skipBlanks ∈ px_TB := px_in 823 (by decide +kernel) rfl
theorem wi_yX8_aboutKin : Cond.instanceMethod yX8_aboutKin ∈ px_TB := px_in 525 (by decide +kernel) rfl
theorem wi_yX8_countFindings : Cond.instanceMethod yX8_countFindings ∈ px_TB := px_in 580 (by decide +kernel) rfl
theorem wi_yX8_forgetFindings : Cond.instanceMethod yX8_forgetFindings ∈ px_TB := px_in 394 (by decide +kernel) rfl
theorem wi_yX9_behind : Cond.instanceMethod yX9_behind ∈ px_TB := px_in 1229 (by decide +kernel) rfl
theorem wi_yX9_comesTo : Cond.instanceMethod yX9_comesTo ∈ px_TB := px_in 1140 (by decide +kernel) rfl
theorem wi_yX9_differBy : Cond.instanceMethod yX9_differBy ∈ px_TB := px_in 1107 (by decide +kernel) rfl
theorem wi_yX9_findGroups : Cond.instanceMethod yX9_findGroups ∈ px_TB := px_in 1193 (by decide +kernel) rfl
theorem wi_yX9_findParents : Cond.instanceMethod yX9_findParents ∈ px_TB := px_in 1136 (by decide +kernel) rfl
theorem wi_yX9_findPieces : Cond.instanceMethod yX9_findPieces ∈ px_TB := px_in 1213 (by decide +kernel) rfl
theorem wi_yX9_findRow : Cond.instanceMethod yX9_findRow ∈ px_TB := px_in 1217 (by decide +kernel) rfl
theorem wi_yX9_fitOf : Cond.instanceMethod yX9_fitOf ∈ px_TB := px_in 1119 (by decide +kernel) rfl
theorem wi_yX9_fitting : Cond.instanceMethod yX9_fitting ∈ px_TB := px_in 1144 (by decide +kernel) rfl
theorem wi_yX9_hasPiece : Cond.instanceMethod yX9_hasPiece ∈ px_TB := px_in 1197 (by decide +kernel) rfl
theorem wi_yX9_hasSigns : Cond.instanceMethod yX9_hasSigns ∈ px_TB := px_in 1272 (by decide +kernel) rfl
theorem wi_yX9_haveCommon : Cond.instanceMethod yX9_haveCommon ∈ px_TB := px_in 1205 (by decide +kernel) rfl
theorem wi_yX9_heldTo : Cond.instanceMethod yX9_heldTo ∈ px_TB := px_in 1169 (by decide +kernel) rfl
theorem wi_yX9_isAltered : Cond.instanceMethod yX9_isAltered ∈ px_TB := px_in 1181 (by decide +kernel) rfl
theorem wi_yX9_isLess : Cond.instanceMethod yX9_isLess ∈ px_TB := px_in 1236 (by decide +kernel) rfl
theorem wi_yX9_isLike : Cond.instanceMethod yX9_isLike ∈ px_TB := px_in 1123 (by decide +kernel) rfl
theorem wi_yX9_isPiece : Cond.instanceMethod yX9_isPiece ∈ px_TB := px_in 1201 (by decide +kernel) rfl
theorem wi_yX9_isSame : Cond.instanceMethod yX9_isSame ∈ px_TB := px_in 1173 (by decide +kernel) rfl
theorem wi_yX9_isSeen : Cond.instanceMethod yX9_isSeen ∈ px_TB := px_in 1115 (by decide +kernel) rfl
theorem wi_yX9_isWithin : Cond.instanceMethod yX9_isWithin ∈ px_TB := px_in 1221 (by decide +kernel) rfl
theorem wi_yX9_isWord : Cond.instanceMethod yX9_isWord ∈ px_TB := px_in 1309 (by decide +kernel) rfl
theorem wi_yX9_kindOf : Cond.instanceMethod yX9_kindOf ∈ px_TB := px_in 1305 (by decide +kernel) rfl
theorem wi_yX9_letter : Cond.instanceMethod yX9_letter ∈ px_TB := px_in 1062 (by decide +kernel) rfl
theorem wi_yX9_look : Cond.instanceMethod yX9_look ∈ px_TB := px_in 1295 (by decide +kernel) rfl
theorem wi_yX9_noLetter : Cond.instanceMethod yX9_noLetter ∈ px_TB := px_in 1067 (by decide +kernel) rfl
theorem wi_yX9_noLine : Cond.instanceMethod yX9_noLine ∈ px_TB := px_in 1103 (by decide +kernel) rfl
theorem wi_yX9_originOf : Cond.instanceMethod yX9_originOf ∈ px_TB := px_in 1165 (by decide +kernel) rfl
theorem wi_yX9_quarrels : Cond.instanceMethod yX9_quarrels ∈ px_TB := px_in 1252 (by decide +kernel) rfl
theorem wi_yX9_quoted : Cond.instanceMethod yX9_quoted ∈ px_TB := px_in 1132 (by decide +kernel) rfl
theorem wi_yX9_readClause : Cond.instanceMethod yX9_readClause ∈ px_TB := px_in 1317 (by decide +kernel) rfl
theorem wi_yX9_rootOf : Cond.instanceMethod yX9_rootOf ∈ px_TB := px_in 1148 (by decide +kernel) rfl
theorem wi_yX9_stepsOf : Cond.instanceMethod yX9_stepsOf ∈ px_TB := px_in 1152 (by decide +kernel) rfl
theorem wi_yX9_takeNumber : Cond.instanceMethod yX9_takeNumber ∈ px_TB := px_in 1321 (by decide +kernel) rfl
theorem wi_yX9_takeWord : Cond.instanceMethod yX9_takeWord ∈ px_TB := px_in 1299 (by decide +kernel) rfl
theorem wi_yX9_textAt : Cond.instanceMethod yX9_textAt ∈ px_TB := px_in 1225 (by decide +kernel) rfl
theorem wi_yX9_want : Cond.instanceMethod yX9_want ∈ px_TB := px_in 1313 (by decide +kernel) rfl
theorem wk_RX5_36 : Cond.constant RX5 36 65535 ∈ px_TB := px_in 711 (by decide +kernel) rfl
theorem wk_RX5_47 : Cond.constantLong RX5 47 (-1) ∈ px_TB := px_in 702 (by decide +kernel) rfl
theorem wk_RX7_11 : Cond.constantLong RX7 11 63 ∈ px_TB := px_in 506 (by decide +kernel) rfl
theorem wk_RX9_103 : Cond.constantLong RX9 103 63 ∈ px_TB := px_in 1057 (by decide +kernel) rfl
theorem wk_RX9_108 : Cond.constantLong RX9 108 9 ∈ px_TB := px_in 1069 (by decide +kernel) rfl
theorem wk_RX9_110 : Cond.constantLong RX9 110 (-1) ∈ px_TB := px_in 1070 (by decide +kernel) rfl
theorem wk_RX9_112 : Cond.constantLong RX9 112 9999 ∈ px_TB := px_in 1071 (by decide +kernel) rfl
theorem wk_RX9_114 : Cond.constantLong RX9 114 5 ∈ px_TB := px_in 1076 (by decide +kernel) rfl
theorem wk_RX9_150 : Cond.constantLong RX9 150 11 ∈ px_TB := px_in 1129 (by decide +kernel) rfl
theorem wk_RX9_167 : Cond.constantLong RX9 167 2 ∈ px_TB := px_in 1162 (by decide +kernel) rfl
theorem wk_RX9_227 : Cond.constantLong RX9 227 4 ∈ px_TB := px_in 1282 (by decide +kernel) rfl
theorem wk_RX9_232 : Cond.constantLong RX9 232 8 ∈ px_TB := px_in 1287 (by decide +kernel) rfl
theorem wk_RX9_234 : Cond.constantLong RX9 234 255 ∈ px_TB := px_in 1288 (by decide +kernel) rfl
theorem wk_RX9_249 : Cond.constantLong RX9 249 97 ∈ px_TB := px_in 1301 (by decide +kernel) rfl
theorem wk_RX9_251 : Cond.constantLong RX9 251 122 ∈ px_TB := px_in 1302 (by decide +kernel) rfl
theorem wk_RX9_256 : Cond.constantLong RX9 256 48 ∈ px_TB := px_in 1323 (by decide +kernel) rfl
theorem wk_RX9_258 : Cond.constantLong RX9 258 57 ∈ px_TB := px_in 1324 (by decide +kernel) rfl
theorem wl_yJ0_charAt_5068e : Cond.selects RJ0 yJ0_charAt_5068e yJ0_charAt_5068e ∈ px_TB := px_in 861 (by decide +kernel) rfl
theorem wl_yJ0_coder_7d493 : Cond.selects RJ0 yJ0_coder_7d493 yJ0_coder_7d493 ∈ px_TB := px_in 855 (by decide +kernel) rfl
theorem wl_yJ0_isLatin1_aae02 : Cond.selects RJ0 yJ0_isLatin1_aae02 yJ0_isLatin1_aae02 ∈ px_TB := px_in 865 (by decide +kernel) rfl
theorem wl_yJ0_length_8abf5 : Cond.selects RJ0 yJ0_length_8abf5 yJ0_length_8abf5 ∈ px_TB := px_in 851 (by decide +kernel) rfl
theorem wl_yX0_distance : Cond.selects RX0 yX0_distance yX0_distance ∈ px_TB := px_in 501 (by decide +kernel) rfl
theorem wl_yX0_forgetAll : Cond.selects RX0 yX0_forgetAll yX0_forgetAll ∈ px_TB := px_in 922 (by decide +kernel) rfl
theorem wl_yX0_forgetLetter : Cond.selects RX0 yX0_forgetLetter yX0_forgetLetter ∈ px_TB := px_in 413 (by decide +kernel) rfl
theorem wl_yX0_isLike : Cond.selects RX0 yX0_isLike yX0_isLike ∈ px_TB := px_in 497 (by decide +kernel) rfl
theorem wl_yX0_mostPairs : Cond.selects RX0 yX0_mostPairs yX0_mostPairs ∈ px_TB := px_in 5 (by decide +kernel) rfl
theorem wl_yX0_of : Cond.selects RX0 yX0_of yX0_of ∈ px_TB := px_in 485 (by decide +kernel) rfl
theorem wl_yX1_addLetter : Cond.selects RX1 yX1_addLetter yX1_addLetter ∈ px_TB := px_in 398 (by decide +kernel) rfl
theorem wl_yX1_addLine : Cond.selects RX1 yX1_addLine yX1_addLine ∈ px_TB := px_in 406 (by decide +kernel) rfl
theorem wl_yX1_has : Cond.selects RX1 yX1_has yX1_has ∈ px_TB := px_in 384 (by decide +kernel) rfl
theorem wl_yX1_hasLine : Cond.selects RX1 yX1_hasLine yX1_hasLine ∈ px_TB := px_in 551 (by decide +kernel) rfl
theorem wl_yX1_isSeen : Cond.selects RX1 yX1_isSeen yX1_isSeen ∈ px_TB := px_in 450 (by decide +kernel) rfl
theorem wl_yX1_isSeenWith : Cond.selects RX1 yX1_isSeenWith yX1_isSeenWith ∈ px_TB := px_in 454 (by decide +kernel) rfl
theorem wl_yX1_isTaken : Cond.selects RX1 yX1_isTaken yX1_isTaken ∈ px_TB := px_in 430 (by decide +kernel) rfl
theorem wl_yX1_quoteInto : Cond.selects RX1 yX1_quoteInto yX1_quoteInto ∈ px_TB := px_in 421 (by decide +kernel) rfl
theorem wl_yX1_seenLetters : Cond.selects RX1 yX1_seenLetters yX1_seenLetters ∈ px_TB := px_in 575 (by decide +kernel) rfl
theorem wl_yX1_turnTaken : Cond.selects RX1 yX1_turnTaken yX1_turnTaken ∈ px_TB := px_in 434 (by decide +kernel) rfl
theorem wl_yX2_alteredLines : Cond.selects RX2 yX2_alteredLines yX2_alteredLines ∈ px_TB := px_in 588 (by decide +kernel) rfl
theorem wl_yX2_childrenOf : Cond.selects RX2 yX2_childrenOf yX2_childrenOf ∈ px_TB := px_in 537 (by decide +kernel) rfl
theorem wl_yX2_findHeld : Cond.selects RX2 yX2_findHeld yX2_findHeld ∈ px_TB := px_in 7 (by decide +kernel) rfl
theorem wl_yX2_findParent : Cond.selects RX2 yX2_findParent yX2_findParent ∈ px_TB := px_in 1 (by decide +kernel) rfl
theorem wl_yX2_greatestDayAbove : Cond.selects RX2 yX2_greatestDayAbove yX2_greatestDayAbove ∈ px_TB := px_in 758 (by decide +kernel) rfl
theorem wl_yX2_holdLines : Cond.selects RX2 yX2_holdLines yX2_holdLines ∈ px_TB := px_in 6 (by decide +kernel) rfl
theorem wl_yX2_isAfter : Cond.selects RX2 yX2_isAfter yX2_isAfter ∈ px_TB := px_in 4 (by decide +kernel) rfl
theorem wl_yX2_isAltered : Cond.selects RX2 yX2_isAltered yX2_isAltered ∈ px_TB := px_in 592 (by decide +kernel) rfl
theorem wl_yX2_isFree : Cond.selects RX2 yX2_isFree yX2_isFree ∈ px_TB := px_in 2 (by decide +kernel) rfl
theorem wl_yX2_isQuarrel : Cond.selects RX2 yX2_isQuarrel yX2_isQuarrel ∈ px_TB := px_in 15 (by decide +kernel) rfl
theorem wl_yX2_isSeen : Cond.selects RX2 yX2_isSeen yX2_isSeen ∈ px_TB := px_in 464 (by decide +kernel) rfl
theorem wl_yX2_leadsTo : Cond.selects RX2 yX2_leadsTo yX2_leadsTo ∈ px_TB := px_in 3 (by decide +kernel) rfl
theorem wl_yX2_leastDayBelow : Cond.selects RX2 yX2_leastDayBelow yX2_leastDayBelow ∈ px_TB := px_in 763 (by decide +kernel) rfl
theorem wl_yX2_lettersOfThread : Cond.selects RX2 yX2_lettersOfThread yX2_lettersOfThread ∈ px_TB := px_in 541 (by decide +kernel) rfl
theorem wl_yX2_linesFrom : Cond.selects RX2 yX2_linesFrom yX2_linesFrom ∈ px_TB := px_in 596 (by decide +kernel) rfl
theorem wl_yX2_linesQuotedAlike : Cond.selects RX2 yX2_linesQuotedAlike yX2_linesQuotedAlike ∈ px_TB := px_in 801 (by decide +kernel) rfl
theorem wl_yX2_nextToWrite : Cond.selects RX2 yX2_nextToWrite yX2_nextToWrite ∈ px_TB := px_in 24 (by decide +kernel) rfl
theorem wl_yX2_quarrelAt : Cond.selects RX2 yX2_quarrelAt yX2_quarrelAt ∈ px_TB := px_in 750 (by decide +kernel) rfl
theorem wl_yX2_quarrels : Cond.selects RX2 yX2_quarrels yX2_quarrels ∈ px_TB := px_in 631 (by decide +kernel) rfl
theorem wl_yX2_refresh : Cond.selects RX2 yX2_refresh yX2_refresh ∈ px_TB := px_in 459 (by decide +kernel) rfl
theorem wl_yX2_rootOf : Cond.selects RX2 yX2_rootOf yX2_rootOf ∈ px_TB := px_in 529 (by decide +kernel) rfl
theorem wl_yX2_roots : Cond.selects RX2 yX2_roots yX2_roots ∈ px_TB := px_in 584 (by decide +kernel) rfl
theorem wl_yX2_sourceOf : Cond.selects RX2 yX2_sourceOf yX2_sourceOf ∈ px_TB := px_in 600 (by decide +kernel) rfl
theorem wl_yX2_stepsOf : Cond.selects RX2 yX2_stepsOf yX2_stepsOf ∈ px_TB := px_in 533 (by decide +kernel) rfl
theorem wl_yX2_writtenAt : Cond.selects RX2 yX2_writtenAt yX2_writtenAt ∈ px_TB := px_in 738 (by decide +kernel) rfl
theorem wl_yX3_gather : Cond.selects RX3 yX3_gather yX3_gather ∈ px_TB := px_in 12 (by decide +kernel) rfl
theorem wl_yX3_handOverPiece : Cond.selects RX3 yX3_handOverPiece yX3_handOverPiece ∈ px_TB := px_in 17 (by decide +kernel) rfl
theorem wl_yX3_has : Cond.selects RX3 yX3_has yX3_has ∈ px_TB := px_in 661 (by decide +kernel) rfl
theorem wl_yX3_hasPiece : Cond.selects RX3 yX3_hasPiece yX3_hasPiece ∈ px_TB := px_in 10 (by decide +kernel) rfl
theorem wl_yX3_isLarge : Cond.selects RX3 yX3_isLarge yX3_isLarge ∈ px_TB := px_in 665 (by decide +kernel) rfl
theorem wl_yX3_isOfPiece : Cond.selects RX3 yX3_isOfPiece yX3_isOfPiece ∈ px_TB := px_in 11 (by decide +kernel) rfl
theorem wl_yX3_makeRow : Cond.selects RX3 yX3_makeRow yX3_makeRow ∈ px_TB := px_in 16 (by decide +kernel) rfl
theorem wl_yX3_pieceHas : Cond.selects RX3 yX3_pieceHas yX3_pieceHas ∈ px_TB := px_in 14 (by decide +kernel) rfl
theorem wl_yX3_refresh : Cond.selects RX3 yX3_refresh yX3_refresh ∈ px_TB := px_in 604 (by decide +kernel) rfl
theorem wl_yX3_rowLength : Cond.selects RX3 yX3_rowLength yX3_rowLength ∈ px_TB := px_in 669 (by decide +kernel) rfl
theorem wl_yX3_rowText : Cond.selects RX3 yX3_rowText yX3_rowText ∈ px_TB := px_in 730 (by decide +kernel) rfl
theorem wl_yX3_shareText : Cond.selects RX3 yX3_shareText yX3_shareText ∈ px_TB := px_in 13 (by decide +kernel) rfl
theorem wl_yX4_addSign : Cond.selects RX4 yX4_addSign yX4_addSign ∈ px_TB := px_in 772 (by decide +kernel) rfl
theorem wl_yX4_standsAt : Cond.selects RX4 yX4_standsAt yX4_standsAt ∈ px_TB := px_in 25 (by decide +kernel) rfl
theorem wl_yX4_standsIn : Cond.selects RX4 yX4_standsIn yX4_standsIn ∈ px_TB := px_in 787 (by decide +kernel) rfl
theorem wl_yX5_addPiece : Cond.selects RX5 yX5_addPiece yX5_addPiece ∈ px_TB := px_in 685 (by decide +kernel) rfl
theorem wl_yX5_addText : Cond.selects RX5 yX5_addText yX5_addText ∈ px_TB := px_in 689 (by decide +kernel) rfl
theorem wl_yX5_findRow : Cond.selects RX5 yX5_findRow yX5_findRow ∈ px_TB := px_in 693 (by decide +kernel) rfl
theorem wl_yX5_goOn : Cond.selects RX5 yX5_goOn yX5_goOn ∈ px_TB := px_in 18 (by decide +kernel) rfl
theorem wl_yX5_leastHeadAbove : Cond.selects RX5 yX5_leastHeadAbove yX5_leastHeadAbove ∈ px_TB := px_in 19 (by decide +kernel) rfl
theorem wl_yX5_start : Cond.selects RX5 yX5_start yX5_start ∈ px_TB := px_in 677 (by decide +kernel) rfl
theorem wl_yX5_stepBy : Cond.selects RX5 yX5_stepBy yX5_stepBy ∈ px_TB := px_in 20 (by decide +kernel) rfl
theorem wl_yX5_textOfStep : Cond.selects RX5 yX5_textOfStep yX5_textOfStep ∈ px_TB := px_in 22 (by decide +kernel) rfl
theorem wl_yX5_wipe : Cond.selects RX5 yX5_wipe yX5_wipe ∈ px_TB := px_in 23 (by decide +kernel) rfl
theorem wl_yX5_writeRow : Cond.selects RX5 yX5_writeRow yX5_writeRow ∈ px_TB := px_in 21 (by decide +kernel) rfl
theorem wl_yX6_addBytes : Cond.selects RX6 yX6_addBytes yX6_addBytes ∈ px_TB := px_in 809 (by decide +kernel) rfl
theorem wl_yX6_blame : Cond.selects RX6 yX6_blame yX6_blame ∈ px_TB := px_in 31 (by decide +kernel) rfl
theorem wl_yX6_endOfWord : Cond.selects RX6 yX6_endOfWord yX6_endOfWord ∈ px_TB := px_in 28 (by decide +kernel) rfl
theorem wl_yX6_isWord : Cond.selects RX6 yX6_isWord yX6_isWord ∈ px_TB := px_in 30 (by decide +kernel) rfl
theorem wl_yX6_kindOf : Cond.selects RX6 yX6_kindOf yX6_kindOf ∈ px_TB := px_in 29 (by decide +kernel) rfl
theorem wl_yX6_readClause : Cond.selects RX6 yX6_readClause yX6_readClause ∈ px_TB := px_in 27 (by decide +kernel) rfl
theorem wl_yX6_readClauses : Cond.selects RX6 yX6_readClauses yX6_readClauses ∈ px_TB := px_in 817 (by decide +kernel) rfl
theorem wl_yX6_readNumber : Cond.selects RX6 yX6_readNumber yX6_readNumber ∈ px_TB := px_in 33 (by decide +kernel) rfl
theorem wl_yX6_readSemicolon : Cond.selects RX6 yX6_readSemicolon yX6_readSemicolon ∈ px_TB := px_in 34 (by decide +kernel) rfl
theorem wl_yX6_readYes : Cond.selects RX6 yX6_readYes yX6_readYes ∈ px_TB := px_in 32 (by decide +kernel) rfl
theorem wl_yX6_skipBlanks : Cond.selects RX6 yX6_skipBlanks yX6_skipBlanks ∈ px_TB := px_in 26 (by decide +kernel) rfl
theorem wl_yX8_aboutKin : Cond.selects RX8 yX8_aboutKin yX8_aboutKin ∈ px_TB := px_in 8 (by decide +kernel) rfl
theorem wl_yX8_countFindings : Cond.selects RX8 yX8_countFindings yX8_countFindings ∈ px_TB := px_in 9 (by decide +kernel) rfl
theorem wl_yX8_forgetFindings : Cond.selects RX8 yX8_forgetFindings yX8_forgetFindings ∈ px_TB := px_in 0 (by decide +kernel) rfl
theorem wl_yX9_behind : Cond.selects RX9 yX9_behind yX9_behind ∈ px_TB := px_in 59 (by decide +kernel) rfl
theorem wl_yX9_comesTo : Cond.selects RX9 yX9_comesTo yX9_comesTo ∈ px_TB := px_in 43 (by decide +kernel) rfl
theorem wl_yX9_differBy : Cond.selects RX9 yX9_differBy yX9_differBy ∈ px_TB := px_in 37 (by decide +kernel) rfl
theorem wl_yX9_findGroups : Cond.selects RX9 yX9_findGroups yX9_findGroups ∈ px_TB := px_in 51 (by decide +kernel) rfl
theorem wl_yX9_findParents : Cond.selects RX9 yX9_findParents yX9_findParents ∈ px_TB := px_in 42 (by decide +kernel) rfl
theorem wl_yX9_findPieces : Cond.selects RX9 yX9_findPieces yX9_findPieces ∈ px_TB := px_in 55 (by decide +kernel) rfl
theorem wl_yX9_findRow : Cond.selects RX9 yX9_findRow yX9_findRow ∈ px_TB := px_in 56 (by decide +kernel) rfl
theorem wl_yX9_fitOf : Cond.selects RX9 yX9_fitOf yX9_fitOf ∈ px_TB := px_in 39 (by decide +kernel) rfl
theorem wl_yX9_fitting : Cond.selects RX9 yX9_fitting yX9_fitting ∈ px_TB := px_in 44 (by decide +kernel) rfl
theorem wl_yX9_hasPiece : Cond.selects RX9 yX9_hasPiece yX9_hasPiece ∈ px_TB := px_in 52 (by decide +kernel) rfl
theorem wl_yX9_hasSigns : Cond.selects RX9 yX9_hasSigns yX9_hasSigns ∈ px_TB := px_in 62 (by decide +kernel) rfl
theorem wl_yX9_haveCommon : Cond.selects RX9 yX9_haveCommon yX9_haveCommon ∈ px_TB := px_in 54 (by decide +kernel) rfl
theorem wl_yX9_heldTo : Cond.selects RX9 yX9_heldTo yX9_heldTo ∈ px_TB := px_in 48 (by decide +kernel) rfl
theorem wl_yX9_isAltered : Cond.selects RX9 yX9_isAltered yX9_isAltered ∈ px_TB := px_in 50 (by decide +kernel) rfl
theorem wl_yX9_isLess : Cond.selects RX9 yX9_isLess yX9_isLess ∈ px_TB := px_in 60 (by decide +kernel) rfl
theorem wl_yX9_isLike : Cond.selects RX9 yX9_isLike yX9_isLike ∈ px_TB := px_in 40 (by decide +kernel) rfl
theorem wl_yX9_isPiece : Cond.selects RX9 yX9_isPiece yX9_isPiece ∈ px_TB := px_in 53 (by decide +kernel) rfl
theorem wl_yX9_isSame : Cond.selects RX9 yX9_isSame yX9_isSame ∈ px_TB := px_in 49 (by decide +kernel) rfl
theorem wl_yX9_isSeen : Cond.selects RX9 yX9_isSeen yX9_isSeen ∈ px_TB := px_in 38 (by decide +kernel) rfl
theorem wl_yX9_isWithin : Cond.selects RX9 yX9_isWithin yX9_isWithin ∈ px_TB := px_in 57 (by decide +kernel) rfl
theorem wl_yX9_isWord : Cond.selects RX9 yX9_isWord yX9_isWord ∈ px_TB := px_in 66 (by decide +kernel) rfl
theorem wl_yX9_kindOf : Cond.selects RX9 yX9_kindOf yX9_kindOf ∈ px_TB := px_in 65 (by decide +kernel) rfl
theorem wl_yX9_letter : Cond.selects RX9 yX9_letter yX9_letter ∈ px_TB := px_in 1063 (by decide +kernel) rfl
theorem wl_yX9_look : Cond.selects RX9 yX9_look yX9_look ∈ px_TB := px_in 63 (by decide +kernel) rfl
theorem wl_yX9_noLetter : Cond.selects RX9 yX9_noLetter yX9_noLetter ∈ px_TB := px_in 35 (by decide +kernel) rfl
theorem wl_yX9_noLine : Cond.selects RX9 yX9_noLine yX9_noLine ∈ px_TB := px_in 36 (by decide +kernel) rfl
theorem wl_yX9_originOf : Cond.selects RX9 yX9_originOf yX9_originOf ∈ px_TB := px_in 47 (by decide +kernel) rfl
theorem wl_yX9_quarrels : Cond.selects RX9 yX9_quarrels yX9_quarrels ∈ px_TB := px_in 61 (by decide +kernel) rfl
theorem wl_yX9_quoted : Cond.selects RX9 yX9_quoted yX9_quoted ∈ px_TB := px_in 41 (by decide +kernel) rfl
theorem wl_yX9_readClause : Cond.selects RX9 yX9_readClause yX9_readClause ∈ px_TB := px_in 68 (by decide +kernel) rfl
theorem wl_yX9_rootOf : Cond.selects RX9 yX9_rootOf yX9_rootOf ∈ px_TB := px_in 45 (by decide +kernel) rfl
theorem wl_yX9_stepsOf : Cond.selects RX9 yX9_stepsOf yX9_stepsOf ∈ px_TB := px_in 46 (by decide +kernel) rfl
theorem wl_yX9_takeNumber : Cond.selects RX9 yX9_takeNumber yX9_takeNumber ∈ px_TB := px_in 69 (by decide +kernel) rfl
theorem wl_yX9_takeWord : Cond.selects RX9 yX9_takeWord yX9_takeWord ∈ px_TB := px_in 64 (by decide +kernel) rfl
theorem wl_yX9_textAt : Cond.selects RX9 yX9_textAt yX9_textAt ∈ px_TB := px_in 58 (by decide +kernel) rfl
theorem wl_yX9_want : Cond.selects RX9 yX9_want yX9_want ∈ px_TB := px_in 67 (by decide +kernel) rfl
theorem wm_RJ0_1059 : Cond.methodLink RJ0 1059 yJ3_checkIndex_8e157 ∈ px_TB := px_in 875 (by decide +kernel) rfl
theorem wm_RJ0_335 : Cond.methodLink RJ0 335 yJ0_coder_7d493 ∈ px_TB := px_in 853 (by decide +kernel) rfl
theorem wm_RJ0_492 : Cond.methodLink RJ0 492 yJ0_isLatin1_aae02 ∈ px_TB := px_in 863 (by decide +kernel) rfl
theorem wm_RJ0_495 : Cond.methodLink RJ0 495 yJ1_charAt_3b067 ∈ px_TB := px_in 867 (by decide +kernel) rfl
theorem wm_RJ1_9 : Cond.methodLink RJ1 9 yJ0_checkIndex_df160 ∈ px_TB := px_in 870 (by decide +kernel) rfl
theorem wm_RX0_28 : Cond.methodLink RX0 28 yJ7_fill_53178 ∈ px_TB := px_in 169 (by decide +kernel) rfl
theorem wm_RX0_34 : Cond.methodLink RX0 34 yX0_mostPairs ∈ px_TB := px_in 487 (by decide +kernel) rfl
theorem wm_RX0_43 : Cond.methodLink RX0 43 Lib.Math.max.name ∈ px_TB := px_in 491 (by decide +kernel) rfl
theorem wm_RX0_51 : Cond.methodLink RX0 51 yX0_isLike ∈ px_TB := px_in 495 (by decide +kernel) rfl
theorem wm_RX0_62 : Cond.methodLink RX0 62 yX0_distance ∈ px_TB := px_in 499 (by decide +kernel) rfl
theorem wm_RX0_66 : Cond.methodLink RX0 66 yX7_wordsIn ∈ px_TB := px_in 503 (by decide +kernel) rfl
theorem wm_RX0_72 : Cond.methodLink RX0 72 yX7_wordAt ∈ px_TB := px_in 507 (by decide +kernel) rfl
theorem wm_RX0_76 : Cond.methodLink RX0 76 Lib.Math.min.name ∈ px_TB := px_in 510 (by decide +kernel) rfl
theorem wm_RX1_41 : Cond.methodLink RX1 41 yX1_has ∈ px_TB := px_in 553 (by decide +kernel) rfl
theorem wm_RX1_49 : Cond.methodLink RX1 49 yX1_isSeenWith ∈ px_TB := px_in 452 (by decide +kernel) rfl
theorem wm_RX1_53 : Cond.methodLink RX1 53 yX1_isTaken ∈ px_TB := px_in 456 (by decide +kernel) rfl
theorem wm_RX1_56 : Cond.methodLink RX1 56 yX1_isSeen ∈ px_TB := px_in 577 (by decide +kernel) rfl
theorem wm_RX1_63 : Cond.methodLink RX1 63 yX1_addLine ∈ px_TB := px_in 423 (by decide +kernel) rfl
theorem wm_RX2_105 : Cond.methodLink RX2 105 yX0_isLike ∈ px_TB := px_in 522 (by decide +kernel) rfl
theorem wm_RX2_108 : Cond.methodLink RX2 108 yX2_rootOf ∈ px_TB := px_in 543 (by decide +kernel) rfl
theorem wm_RX2_111 : Cond.methodLink RX2 111 yX2_isAltered ∈ px_TB := px_in 590 (by decide +kernel) rfl
theorem wm_RX2_114 : Cond.methodLink RX2 114 yX2_sourceOf ∈ px_TB := px_in 598 (by decide +kernel) rfl
theorem wm_RX2_117 : Cond.methodLink RX2 117 yX2_nextToWrite ∈ px_TB := px_in 740 (by decide +kernel) rfl
theorem wm_RX2_121 : Cond.methodLink RX2 121 yX2_isQuarrel ∈ px_TB := px_in 633 (by decide +kernel) rfl
theorem wm_RX2_124 : Cond.methodLink RX2 124 Lib.Math.max.name ∈ px_TB := px_in 760 (by decide +kernel) rfl
theorem wm_RX2_129 : Cond.methodLink RX2 129 Lib.Math.min.name ∈ px_TB := px_in 765 (by decide +kernel) rfl
theorem wm_RX2_46 : Cond.methodLink RX2 46 yX1_isSeenWith ∈ px_TB := px_in 461 (by decide +kernel) rfl
theorem wm_RX2_50 : Cond.methodLink RX2 50 yX2_isSeen ∈ px_TB := px_in 462 (by decide +kernel) rfl
theorem wm_RX2_54 : Cond.methodLink RX2 54 yX2_findParent ∈ px_TB := px_in 466 (by decide +kernel) rfl
theorem wm_RX2_58 : Cond.methodLink RX2 58 yX2_holdLines ∈ px_TB := px_in 513 (by decide +kernel) rfl
theorem wm_RX2_65 : Cond.methodLink RX2 65 yX1_has ∈ px_TB := px_in 470 (by decide +kernel) rfl
theorem wm_RX2_68 : Cond.methodLink RX2 68 yX2_isFree ∈ px_TB := px_in 471 (by decide +kernel) rfl
theorem wm_RX2_74 : Cond.methodLink RX2 74 yX2_isAfter ∈ px_TB := px_in 479 (by decide +kernel) rfl
theorem wm_RX2_77 : Cond.methodLink RX2 77 yX0_of ∈ px_TB := px_in 483 (by decide +kernel) rfl
theorem wm_RX2_83 : Cond.methodLink RX2 83 yX2_leadsTo ∈ px_TB := px_in 475 (by decide +kernel) rfl
theorem wm_RX2_98 : Cond.methodLink RX2 98 yX2_findHeld ∈ px_TB := px_in 518 (by decide +kernel) rfl
theorem wm_RX3_101 : Cond.methodLink RX3 101 yX3_makeRow ∈ px_TB := px_in 671 (by decide +kernel) rfl
theorem wm_RX3_113 : Cond.methodLink RX3 113 yX5_start ∈ px_TB := px_in 675 (by decide +kernel) rfl
theorem wm_RX3_116 : Cond.methodLink RX3 116 yX3_handOverPiece ∈ px_TB := px_in 679 (by decide +kernel) rfl
theorem wm_RX3_119 : Cond.methodLink RX3 119 yX5_findRow ∈ px_TB := px_in 691 (by decide +kernel) rfl
theorem wm_RX3_122 : Cond.methodLink RX3 122 yX5_addPiece ∈ px_TB := px_in 683 (by decide +kernel) rfl
theorem wm_RX3_125 : Cond.methodLink RX3 125 yX5_addText ∈ px_TB := px_in 687 (by decide +kernel) rfl
theorem wm_RX3_50 : Cond.methodLink RX3 50 yJ7_fill_53178 ∈ px_TB := px_in 606 (by decide +kernel) rfl
theorem wm_RX3_61 : Cond.methodLink RX3 61 yX3_hasPiece ∈ px_TB := px_in 607 (by decide +kernel) rfl
theorem wm_RX3_65 : Cond.methodLink RX3 65 yX3_gather ∈ px_TB := px_in 617 (by decide +kernel) rfl
theorem wm_RX3_69 : Cond.methodLink RX3 69 yX3_shareText ∈ px_TB := px_in 621 (by decide +kernel) rfl
theorem wm_RX3_76 : Cond.methodLink RX3 76 yX2_isSeen ∈ px_TB := px_in 616 (by decide +kernel) rfl
theorem wm_RX3_90 : Cond.methodLink RX3 90 yX3_isOfPiece ∈ px_TB := px_in 611 (by decide +kernel) rfl
theorem wm_RX3_97 : Cond.methodLink RX3 97 yX3_pieceHas ∈ px_TB := px_in 625 (by decide +kernel) rfl
theorem wm_RX4_19 : Cond.methodLink RX4 19 yX7_wordsIn ∈ px_TB := px_in 789 (by decide +kernel) rfl
theorem wm_RX4_25 : Cond.methodLink RX4 25 yX4_standsAt ∈ px_TB := px_in 790 (by decide +kernel) rfl
theorem wm_RX4_29 : Cond.methodLink RX4 29 yX7_wordAt ∈ px_TB := px_in 794 (by decide +kernel) rfl
theorem wm_RX5_32 : Cond.methodLink RX5 32 yX5_goOn ∈ px_TB := px_in 695 (by decide +kernel) rfl
theorem wm_RX5_37 : Cond.methodLink RX5 37 yX5_writeRow ∈ px_TB := px_in 712 (by decide +kernel) rfl
theorem wm_RX5_41 : Cond.methodLink RX5 41 yX5_wipe ∈ px_TB := px_in 720 (by decide +kernel) rfl
theorem wm_RX5_44 : Cond.methodLink RX5 44 yX5_positionOf ∈ px_TB := px_in 699 (by decide +kernel) rfl
theorem wm_RX5_49 : Cond.methodLink RX5 49 yX5_leastHeadAbove ∈ px_TB := px_in 703 (by decide +kernel) rfl
theorem wm_RX5_53 : Cond.methodLink RX5 53 yX5_stepBy ∈ px_TB := px_in 707 (by decide +kernel) rfl
theorem wm_RX5_60 : Cond.methodLink RX5 60 yX5_textOfStep ∈ px_TB := px_in 716 (by decide +kernel) rfl
theorem wm_RX6_100 : Cond.methodLink RX6 100 yJ0_length_8abf5 ∈ px_TB := px_in 849 (by decide +kernel) rfl
theorem wm_RX6_104 : Cond.methodLink RX6 104 yJ0_charAt_5068e ∈ px_TB := px_in 859 (by decide +kernel) rfl
theorem wm_RX6_28 : Cond.methodLink RX6 28 arraycopyName ∈ px_TB := px_in 820 (by decide +kernel) rfl
theorem wm_RX6_43 : Cond.methodLink RX6 43 yX6_skipBlanks ∈ px_TB := px_in 821 (by decide +kernel) rfl
theorem wm_RX6_46 : Cond.methodLink RX6 46 yX6_readClause ∈ px_TB := px_in 825 (by decide +kernel) rfl
theorem wm_RX6_50 : Cond.methodLink RX6 50 yX6_endOfWord ∈ px_TB := px_in 829 (by decide +kernel) rfl
theorem wm_RX6_54 : Cond.methodLink RX6 54 yX6_kindOf ∈ px_TB := px_in 833 (by decide +kernel) rfl
theorem wm_RX6_58 : Cond.methodLink RX6 58 yX6_blame ∈ px_TB := px_in 897 (by decide +kernel) rfl
theorem wm_RX6_62 : Cond.methodLink RX6 62 yX6_readYes ∈ px_TB := px_in 901 (by decide +kernel) rfl
theorem wm_RX6_65 : Cond.methodLink RX6 65 yX6_readNumber ∈ px_TB := px_in 907 (by decide +kernel) rfl
theorem wm_RX6_69 : Cond.methodLink RX6 69 yX6_readSemicolon ∈ px_TB := px_in 916 (by decide +kernel) rfl
theorem wm_RX6_74 : Cond.methodLink RX6 74 yX6_isWord ∈ px_TB := px_in 845 (by decide +kernel) rfl
theorem wm_RX6_80 : Cond.methodLink RX6 80 yX6_isFigure ∈ px_TB := px_in 911 (by decide +kernel) rfl
theorem wm_RX6_86 : Cond.methodLink RX6 86 yX6_nameOf ∈ px_TB := px_in 837 (by decide +kernel) rfl
theorem wm_RX7_13 : Cond.methodLink RX7 13 yX7_wordAt ∈ px_TB := px_in 559 (by decide +kernel) rfl
theorem wm_RX8_100 : Cond.methodLink RX8 100 yX8_forgetFindings ∈ px_TB := px_in 392 (by decide +kernel) rfl
theorem wm_RX8_103 : Cond.methodLink RX8 103 yX1_addLetter ∈ px_TB := px_in 396 (by decide +kernel) rfl
theorem wm_RX8_110 : Cond.methodLink RX8 110 yX1_addLine ∈ px_TB := px_in 404 (by decide +kernel) rfl
theorem wm_RX8_114 : Cond.methodLink RX8 114 yX0_forgetLetter ∈ px_TB := px_in 411 (by decide +kernel) rfl
theorem wm_RX8_118 : Cond.methodLink RX8 118 yX1_quoteInto ∈ px_TB := px_in 419 (by decide +kernel) rfl
theorem wm_RX8_122 : Cond.methodLink RX8 122 yX1_isTaken ∈ px_TB := px_in 428 (by decide +kernel) rfl
theorem wm_RX8_125 : Cond.methodLink RX8 125 yX1_turnTaken ∈ px_TB := px_in 432 (by decide +kernel) rfl
theorem wm_RX8_143 : Cond.methodLink RX8 143 yX1_isSeen ∈ px_TB := px_in 448 (by decide +kernel) rfl
theorem wm_RX8_146 : Cond.methodLink RX8 146 yX2_refresh ∈ px_TB := px_in 457 (by decide +kernel) rfl
theorem wm_RX8_149 : Cond.methodLink RX8 149 yX8_aboutKin ∈ px_TB := px_in 523 (by decide +kernel) rfl
theorem wm_RX8_153 : Cond.methodLink RX8 153 yX1_hasLine ∈ px_TB := px_in 549 (by decide +kernel) rfl
theorem wm_RX8_157 : Cond.methodLink RX8 157 yX8_spotOf ∈ px_TB := px_in 554 (by decide +kernel) rfl
theorem wm_RX8_16 : Cond.methodLink RX8 16 arraycopyName ∈ px_TB := px_in 98 (by decide +kernel) rfl
theorem wm_RX8_167 : Cond.methodLink RX8 167 yX7_wordsIn ∈ px_TB := px_in 555 (by decide +kernel) rfl
theorem wm_RX8_171 : Cond.methodLink RX8 171 yX7_wordOrNone ∈ px_TB := px_in 556 (by decide +kernel) rfl
theorem wm_RX8_175 : Cond.methodLink RX8 175 yX0_distance ∈ px_TB := px_in 564 (by decide +kernel) rfl
theorem wm_RX8_179 : Cond.methodLink RX8 179 yX0_of ∈ px_TB := px_in 544 (by decide +kernel) rfl
theorem wm_RX8_182 : Cond.methodLink RX8 182 yX1_seenLetters ∈ px_TB := px_in 573 (by decide +kernel) rfl
theorem wm_RX8_190 : Cond.methodLink RX8 190 yX8_countFindings ∈ px_TB := px_in 578 (by decide +kernel) rfl
theorem wm_RX8_194 : Cond.methodLink RX8 194 yX2_sourceOf ∈ px_TB := px_in 641 (by decide +kernel) rfl
theorem wm_RX8_197 : Cond.methodLink RX8 197 yX2_isAltered ∈ px_TB := px_in 646 (by decide +kernel) rfl
theorem wm_RX8_200 : Cond.methodLink RX8 200 yX2_linesFrom ∈ px_TB := px_in 594 (by decide +kernel) rfl
theorem wm_RX8_203 : Cond.methodLink RX8 203 yX3_refresh ∈ px_TB := px_in 602 (by decide +kernel) rfl
theorem wm_RX8_208 : Cond.methodLink RX8 208 yX3_has ∈ px_TB := px_in 659 (by decide +kernel) rfl
theorem wm_RX8_215 : Cond.methodLink RX8 215 yX3_isLarge ∈ px_TB := px_in 663 (by decide +kernel) rfl
theorem wm_RX8_218 : Cond.methodLink RX8 218 yX3_rowLength ∈ px_TB := px_in 667 (by decide +kernel) rfl
theorem wm_RX8_221 : Cond.methodLink RX8 221 yX3_rowText ∈ px_TB := px_in 728 (by decide +kernel) rfl
theorem wm_RX8_225 : Cond.methodLink RX8 225 yX2_writtenAt ∈ px_TB := px_in 736 (by decide +kernel) rfl
theorem wm_RX8_228 : Cond.methodLink RX8 228 yX2_quarrelAt ∈ px_TB := px_in 748 (by decide +kernel) rfl
theorem wm_RX8_231 : Cond.methodLink RX8 231 yX2_greatestDayAbove ∈ px_TB := px_in 756 (by decide +kernel) rfl
theorem wm_RX8_234 : Cond.methodLink RX8 234 yX2_leastDayBelow ∈ px_TB := px_in 761 (by decide +kernel) rfl
theorem wm_RX8_237 : Cond.methodLink RX8 237 yX4_addSign ∈ px_TB := px_in 770 (by decide +kernel) rfl
theorem wm_RX8_240 : Cond.methodLink RX8 240 yX8_isWhere ∈ px_TB := px_in 782 (by decide +kernel) rfl
theorem wm_RX8_243 : Cond.methodLink RX8 243 yX4_standsIn ∈ px_TB := px_in 785 (by decide +kernel) rfl
theorem wm_RX8_247 : Cond.methodLink RX8 247 yX2_linesQuotedAlike ∈ px_TB := px_in 799 (by decide +kernel) rfl
theorem wm_RX8_250 : Cond.methodLink RX8 250 yX6_addBytes ∈ px_TB := px_in 807 (by decide +kernel) rfl
theorem wm_RX8_254 : Cond.methodLink RX8 254 yX6_readClauses ∈ px_TB := px_in 815 (by decide +kernel) rfl
theorem wm_RX8_266 : Cond.methodLink RX8 266 yX0_forgetAll ∈ px_TB := px_in 920 (by decide +kernel) rfl
theorem wm_RX8_277 : Cond.methodLink RX8 277 yX2_rootOf ∈ px_TB := px_in 527 (by decide +kernel) rfl
theorem wm_RX8_280 : Cond.methodLink RX8 280 yX2_stepsOf ∈ px_TB := px_in 531 (by decide +kernel) rfl
theorem wm_RX8_283 : Cond.methodLink RX8 283 yX2_childrenOf ∈ px_TB := px_in 535 (by decide +kernel) rfl
theorem wm_RX8_286 : Cond.methodLink RX8 286 yX2_lettersOfThread ∈ px_TB := px_in 539 (by decide +kernel) rfl
theorem wm_RX8_289 : Cond.methodLink RX8 289 yX2_roots ∈ px_TB := px_in 582 (by decide +kernel) rfl
theorem wm_RX8_292 : Cond.methodLink RX8 292 yX2_alteredLines ∈ px_TB := px_in 586 (by decide +kernel) rfl
theorem wm_RX8_298 : Cond.methodLink RX8 298 yX2_quarrels ∈ px_TB := px_in 629 (by decide +kernel) rfl
theorem wm_RX8_81 : Cond.methodLink RX8 81 yX7_with ∈ px_TB := px_in 375 (by decide +kernel) rfl
theorem wm_RX8_87 : Cond.methodLink RX8 87 yX1_has ∈ px_TB := px_in 382 (by decide +kernel) rfl
theorem wm_RX8_91 : Cond.methodLink RX8 91 yX8_isWrongWriter ∈ px_TB := px_in 386 (by decide +kernel) rfl
theorem wm_RX8_94 : Cond.methodLink RX8 94 yX8_isWrongDay ∈ px_TB := px_in 389 (by decide +kernel) rfl
theorem wm_RX9_116 : Cond.methodLink RX9 116 yX9_letter ∈ px_TB := px_in 1081 (by decide +kernel) rfl
theorem wm_RX9_120 : Cond.methodLink RX9 120 yX9_one ∈ px_TB := px_in 1082 (by decide +kernel) rfl
theorem wm_RX9_124 : Cond.methodLink RX9 124 yX9_differBy ∈ px_TB := px_in 1105 (by decide +kernel) rfl
theorem wm_RX9_128 : Cond.methodLink RX9 128 yX9_noLine ∈ px_TB := px_in 1101 (by decide +kernel) rfl
theorem wm_RX9_132 : Cond.methodLink RX9 132 yX9_isLike ∈ px_TB := px_in 1121 (by decide +kernel) rfl
theorem wm_RX9_135 : Cond.methodLink RX9 135 yX9_isSeen ∈ px_TB := px_in 1113 (by decide +kernel) rfl
theorem wm_RX9_138 : Cond.methodLink RX9 138 yX9_fitOf ∈ px_TB := px_in 1117 (by decide +kernel) rfl
theorem wm_RX9_141 : Cond.methodLink RX9 141 yX9_comesTo ∈ px_TB := px_in 1138 (by decide +kernel) rfl
theorem wm_RX9_144 : Cond.methodLink RX9 144 yX9_fitting ∈ px_TB := px_in 1142 (by decide +kernel) rfl
theorem wm_RX9_147 : Cond.methodLink RX9 147 yX9_quoted ∈ px_TB := px_in 1130 (by decide +kernel) rfl
theorem wm_RX9_152 : Cond.methodLink RX9 152 yX9_findParents ∈ px_TB := px_in 1134 (by decide +kernel) rfl
theorem wm_RX9_155 : Cond.methodLink RX9 155 yX9_rootOf ∈ px_TB := px_in 1146 (by decide +kernel) rfl
theorem wm_RX9_158 : Cond.methodLink RX9 158 yX9_stepsOf ∈ px_TB := px_in 1150 (by decide +kernel) rfl
theorem wm_RX9_161 : Cond.methodLink RX9 161 yX9_isSame ∈ px_TB := px_in 1171 (by decide +kernel) rfl
theorem wm_RX9_164 : Cond.methodLink RX9 164 yX9_heldTo ∈ px_TB := px_in 1167 (by decide +kernel) rfl
theorem wm_RX9_169 : Cond.methodLink RX9 169 yX9_originOf ∈ px_TB := px_in 1163 (by decide +kernel) rfl
theorem wm_RX9_172 : Cond.methodLink RX9 172 yX9_isAltered ∈ px_TB := px_in 1179 (by decide +kernel) rfl
theorem wm_RX9_175 : Cond.methodLink RX9 175 yX9_isPiece ∈ px_TB := px_in 1199 (by decide +kernel) rfl
theorem wm_RX9_178 : Cond.methodLink RX9 178 yX9_hasPiece ∈ px_TB := px_in 1195 (by decide +kernel) rfl
theorem wm_RX9_181 : Cond.methodLink RX9 181 yX9_haveCommon ∈ px_TB := px_in 1203 (by decide +kernel) rfl
theorem wm_RX9_187 : Cond.methodLink RX9 187 yX9_findGroups ∈ px_TB := px_in 1191 (by decide +kernel) rfl
theorem wm_RX9_193 : Cond.methodLink RX9 193 yX9_textAt ∈ px_TB := px_in 1223 (by decide +kernel) rfl
theorem wm_RX9_196 : Cond.methodLink RX9 196 yX9_step ∈ px_TB := px_in 1231 (by decide +kernel) rfl
theorem wm_RX9_199 : Cond.methodLink RX9 199 yX9_isWithin ∈ px_TB := px_in 1219 (by decide +kernel) rfl
theorem wm_RX9_202 : Cond.methodLink RX9 202 yX9_behind ∈ px_TB := px_in 1227 (by decide +kernel) rfl
theorem wm_RX9_208 : Cond.methodLink RX9 208 yX9_isLess ∈ px_TB := px_in 1234 (by decide +kernel) rfl
theorem wm_RX9_211 : Cond.methodLink RX9 211 yX9_findPieces ∈ px_TB := px_in 1211 (by decide +kernel) rfl
theorem wm_RX9_215 : Cond.methodLink RX9 215 yX9_findRow ∈ px_TB := px_in 1215 (by decide +kernel) rfl
theorem wm_RX9_218 : Cond.methodLink RX9 218 yX9_quarrels ∈ px_TB := px_in 1250 (by decide +kernel) rfl
theorem wm_RX9_224 : Cond.methodLink RX9 224 yX9_hasSigns ∈ px_TB := px_in 1270 (by decide +kernel) rfl
theorem wm_RX9_242 : Cond.methodLink RX9 242 yX9_look ∈ px_TB := px_in 1293 (by decide +kernel) rfl
theorem wm_RX9_260 : Cond.methodLink RX9 260 yX9_want ∈ px_TB := px_in 1311 (by decide +kernel) rfl
theorem wm_RX9_264 : Cond.methodLink RX9 264 yX9_isWord ∈ px_TB := px_in 1307 (by decide +kernel) rfl
theorem wm_RX9_268 : Cond.methodLink RX9 268 yX9_takeWord ∈ px_TB := px_in 1297 (by decide +kernel) rfl
theorem wm_RX9_271 : Cond.methodLink RX9 271 yX9_takeNumber ∈ px_TB := px_in 1319 (by decide +kernel) rfl
theorem wm_RX9_274 : Cond.methodLink RX9 274 yX9_kindOf ∈ px_TB := px_in 1303 (by decide +kernel) rfl
theorem wm_RX9_277 : Cond.methodLink RX9 277 yX9_readClause ∈ px_TB := px_in 1315 (by decide +kernel) rfl
theorem wm_RX9_88 : Cond.methodLink RX9 88 yX9_atFirst ∈ px_TB := px_in 940 (by decide +kernel) rfl
theorem wm_RX9_95 : Cond.methodLink RX9 95 yX9_in ∈ px_TB := px_in 1058 (by decide +kernel) rfl
theorem wm_RX9_99 : Cond.methodLink RX9 99 yX9_noLetter ∈ px_TB := px_in 1065 (by decide +kernel) rfl
theorem wn_RJ0 : Cond.initialized RJ0 ∈ px_TB := px_in 84 (by decide +kernel) rfl
theorem wn_RJ1 : Cond.initialized RJ1 ∈ px_TB := px_in 85 (by decide +kernel) rfl
theorem wn_RJ10 : Cond.initialized RJ10 ∈ px_TB := px_in 72 (by decide +kernel) rfl
theorem wn_RJ3 : Cond.initialized RJ3 ∈ px_TB := px_in 86 (by decide +kernel) rfl
theorem wn_RJ7 : Cond.initialized RJ7 ∈ px_TB := px_in 75 (by decide +kernel) rfl
theorem wn_RJ9 : Cond.initialized RJ9 ∈ px_TB := px_in 83 (by decide +kernel) rfl
theorem wn_RX0 : Cond.initialized RX0 ∈ px_TB := px_in 74 (by decide +kernel) rfl
theorem wn_RX1 : Cond.initialized RX1 ∈ px_TB := px_in 73 (by decide +kernel) rfl
theorem wn_RX2 : Cond.initialized RX2 ∈ px_TB := px_in 76 (by decide +kernel) rfl
theorem wn_RX3 : Cond.initialized RX3 ∈ px_TB := px_in 77 (by decide +kernel) rfl
theorem wn_RX4 : Cond.initialized RX4 ∈ px_TB := px_in 79 (by decide +kernel) rfl
theorem wn_RX5 : Cond.initialized RX5 ∈ px_TB := px_in 78 (by decide +kernel) rfl
theorem wn_RX6 : Cond.initialized RX6 ∈ px_TB := px_in 80 (by decide +kernel) rfl
theorem wn_RX7 : Cond.initialized RX7 ∈ px_TB := px_in 82 (by decide +kernel) rfl
theorem wn_RX8 : Cond.initialized RX8 ∈ px_TB := px_in 71 (by decide +kernel) rfl
theorem wn_RX9 : Cond.initialized RX9 ∈ px_TB := px_in 81 (by decide +kernel) rfl
theorem ws_arraycopy : Cond.static arraycopyName ∈ px_TB := px_in 99 (by decide +kernel) rfl
theorem ws_max : Cond.static Lib.Math.max.name ∈ px_TB := px_in 492 (by decide +kernel) rfl
theorem ws_min : Cond.static Lib.Math.min.name ∈ px_TB := px_in 511 (by decide +kernel) rfl
theorem ws_yJ0_checkIndex_df160 : Cond.static yJ0_checkIndex_df160 ∈ px_TB := px_in 871 (by decide +kernel) rfl
theorem ws_yJ1_charAt_3b067 : Cond.static yJ1_charAt_3b067 ∈ px_TB := px_in 868 (by decide +kernel) rfl
theorem ws_yJ3_checkIndex_8e157 : Cond.static yJ3_checkIndex_8e157 ∈ px_TB := px_in 876 (by decide +kernel) rfl
theorem ws_yJ7_fill_53178 : Cond.static yJ7_fill_53178 ∈ px_TB := px_in 170 (by decide +kernel) rfl
theorem ws_yX5_positionOf : Cond.static yX5_positionOf ∈ px_TB := px_in 700 (by decide +kernel) rfl
theorem ws_yX6_isFigure : Cond.static yX6_isFigure ∈ px_TB := px_in 912 (by decide +kernel) rfl
theorem ws_yX6_nameOf : Cond.static yX6_nameOf ∈ px_TB := px_in 838 (by decide +kernel) rfl
theorem ws_yX7_with : Cond.static yX7_with ∈ px_TB := px_in 376 (by decide +kernel) rfl
theorem ws_yX7_wordAt : Cond.static yX7_wordAt ∈ px_TB := px_in 508 (by decide +kernel) rfl
theorem ws_yX7_wordOrNone : Cond.static yX7_wordOrNone ∈ px_TB := px_in 557 (by decide +kernel) rfl
theorem ws_yX7_wordsIn : Cond.static yX7_wordsIn ∈ px_TB := px_in 504 (by decide +kernel) rfl
theorem ws_yX8_isWhere : Cond.static yX8_isWhere ∈ px_TB := px_in 783 (by decide +kernel) rfl
theorem ws_yX8_isWrongDay : Cond.static yX8_isWrongDay ∈ px_TB := px_in 390 (by decide +kernel) rfl
theorem ws_yX8_isWrongWriter : Cond.static yX8_isWrongWriter ∈ px_TB := px_in 387 (by decide +kernel) rfl
theorem ws_yX8_spotOf : Cond.static yX8_spotOf ∈ px_TB := px_in 409 (by decide +kernel) rfl
theorem ws_yX9_atFirst : Cond.static yX9_atFirst ∈ px_TB := px_in 941 (by decide +kernel) rfl
theorem ws_yX9_in : Cond.static yX9_in ∈ px_TB := px_in 1059 (by decide +kernel) rfl
theorem ws_yX9_one : Cond.static yX9_one ∈ px_TB := px_in 1083 (by decide +kernel) rfl
theorem ws_yX9_step : Cond.static yX9_step ∈ px_TB := px_in 1232 (by decide +kernel) rfl
theorem ku_X0 : ∀ w ∈ u_ws RX0 TX0 5, w ∈ px_TB := by decide +kernel
theorem kc_X0 : px_Kc 0 RX0 TX0 5 := ⟨rfl, ku_X0, nmX0, tyX0, tyX0_ok⟩
theorem ku_X1 : ∀ w ∈ u_ws RX1 TX1 10, w ∈ px_TB := by decide +kernel
theorem kc_X1 : px_Kc 1 RX1 TX1 10 := ⟨rfl, ku_X1, nmX1, tyX1, tyX1_ok⟩
theorem ku_X2 : ∀ w ∈ u_ws RX2 TX2 8, w ∈ px_TB := by decide +kernel
theorem kc_X2 : px_Kc 2 RX2 TX2 8 := ⟨rfl, ku_X2, nmX2, tyX2, tyX2_ok⟩
theorem ku_X3 : ∀ w ∈ u_ws RX3 TX3 10, w ∈ px_TB := by decide +kernel
theorem kc_X3 : px_Kc 3 RX3 TX3 10 := ⟨rfl, ku_X3, nmX3, tyX3, tyX3_ok⟩
theorem ku_X4 : ∀ w ∈ u_ws RX4 TX4 2, w ∈ px_TB := by decide +kernel
theorem kc_X4 : px_Kc 4 RX4 TX4 2 := ⟨rfl, ku_X4, nmX4, tyX4, tyX4_ok⟩
theorem ku_X5 : ∀ w ∈ u_ws RX5 TX5 7, w ∈ px_TB := by decide +kernel
theorem kc_X5 : px_Kc 5 RX5 TX5 7 := ⟨rfl, ku_X5, nmX5, tyX5, tyX5_ok⟩
theorem ku_X6 : ∀ w ∈ u_ws RX6 TX6 7, w ∈ px_TB := by decide +kernel
theorem kc_X6 : px_Kc 6 RX6 TX6 7 := ⟨rfl, ku_X6, nmX6, tyX6, tyX6_ok⟩
theorem ku_X8 : ∀ w ∈ u_ws RX8 TX8 10, w ∈ px_TB := by decide +kernel
theorem kc_X8 : px_Kc 7 RX8 TX8 10 := ⟨rfl, ku_X8, nmX8, tyX8, tyX8_ok⟩
theorem ku_X9 : ∀ w ∈ u_ws RX9 TX9 36, w ∈ px_TB := by decide +kernel
theorem kc_X9 : px_Kc 8 RX9 TX9 36 := ⟨rfl, ku_X9, nmX9, tyX9, tyX9_ok⟩
theorem kp_X1_7 : ∀ o ∈ px_ob, o.1 = 1 → ∀ d, o.2[7]? = some d → (d.1 = 0 ∧ (.int : FieldType) = .int) ∨ (d.1 = 3 ∧ (.int : FieldType) = .boolean) ∨ (d.1 = 1 ∧ (.int : FieldType) = .long) := by
  intro o ho hc d hd
  simp only [px_ob, List.mem_cons, List.not_mem_nil, or_false] at ho
  rcases ho with rfl | rfl | rfl | rfl | rfl | rfl | rfl | rfl | rfl | rfl <;> first | exact absurd hc (by decide) | (cases hd; decide)
theorem kp_X1_8 : ∀ o ∈ px_ob, o.1 = 1 → ∀ d, o.2[8]? = some d → (d.1 = 0 ∧ (.int : FieldType) = .int) ∨ (d.1 = 3 ∧ (.int : FieldType) = .boolean) ∨ (d.1 = 1 ∧ (.int : FieldType) = .long) := by
  intro o ho hc d hd
  simp only [px_ob, List.mem_cons, List.not_mem_nil, or_false] at ho
  rcases ho with rfl | rfl | rfl | rfl | rfl | rfl | rfl | rfl | rfl | rfl <;> first | exact absurd hc (by decide) | (cases hd; decide)
theorem kp_X1_9 : ∀ o ∈ px_ob, o.1 = 1 → ∀ d, o.2[9]? = some d → (d.1 = 0 ∧ (.long : FieldType) = .int) ∨ (d.1 = 3 ∧ (.long : FieldType) = .boolean) ∨ (d.1 = 1 ∧ (.long : FieldType) = .long) := by
  intro o ho hc d hd
  simp only [px_ob, List.mem_cons, List.not_mem_nil, or_false] at ho
  rcases ho with rfl | rfl | rfl | rfl | rfl | rfl | rfl | rfl | rfl | rfl <;> first | exact absurd hc (by decide) | (cases hd; decide)
theorem kp_X2_5 : ∀ o ∈ px_ob, o.1 = 2 → ∀ d, o.2[5]? = some d → (d.1 = 0 ∧ (.boolean : FieldType) = .int) ∨ (d.1 = 3 ∧ (.boolean : FieldType) = .boolean) ∨ (d.1 = 1 ∧ (.boolean : FieldType) = .long) := by
  intro o ho hc d hd
  simp only [px_ob, List.mem_cons, List.not_mem_nil, or_false] at ho
  rcases ho with rfl | rfl | rfl | rfl | rfl | rfl | rfl | rfl | rfl | rfl <;> first | exact absurd hc (by decide) | (cases hd; decide)
theorem kp_X2_6 : ∀ o ∈ px_ob, o.1 = 2 → ∀ d, o.2[6]? = some d → (d.1 = 0 ∧ (.int : FieldType) = .int) ∨ (d.1 = 3 ∧ (.int : FieldType) = .boolean) ∨ (d.1 = 1 ∧ (.int : FieldType) = .long) := by
  intro o ho hc d hd
  simp only [px_ob, List.mem_cons, List.not_mem_nil, or_false] at ho
  rcases ho with rfl | rfl | rfl | rfl | rfl | rfl | rfl | rfl | rfl | rfl <;> first | exact absurd hc (by decide) | (cases hd; decide)
theorem kp_X2_7 : ∀ o ∈ px_ob, o.1 = 2 → ∀ d, o.2[7]? = some d → (d.1 = 0 ∧ (.long : FieldType) = .int) ∨ (d.1 = 3 ∧ (.long : FieldType) = .boolean) ∨ (d.1 = 1 ∧ (.long : FieldType) = .long) := by
  intro o ho hc d hd
  simp only [px_ob, List.mem_cons, List.not_mem_nil, or_false] at ho
  rcases ho with rfl | rfl | rfl | rfl | rfl | rfl | rfl | rfl | rfl | rfl <;> first | exact absurd hc (by decide) | (cases hd; decide)
theorem kp_X3_7 : ∀ o ∈ px_ob, o.1 = 3 → ∀ d, o.2[7]? = some d → (d.1 = 0 ∧ (.int : FieldType) = .int) ∨ (d.1 = 3 ∧ (.int : FieldType) = .boolean) ∨ (d.1 = 1 ∧ (.int : FieldType) = .long) := by
  intro o ho hc d hd
  simp only [px_ob, List.mem_cons, List.not_mem_nil, or_false] at ho
  rcases ho with rfl | rfl | rfl | rfl | rfl | rfl | rfl | rfl | rfl | rfl <;> first | exact absurd hc (by decide) | (cases hd; decide)
theorem kp_X3_8 : ∀ o ∈ px_ob, o.1 = 3 → ∀ d, o.2[8]? = some d → (d.1 = 0 ∧ (.boolean : FieldType) = .int) ∨ (d.1 = 3 ∧ (.boolean : FieldType) = .boolean) ∨ (d.1 = 1 ∧ (.boolean : FieldType) = .long) := by
  intro o ho hc d hd
  simp only [px_ob, List.mem_cons, List.not_mem_nil, or_false] at ho
  rcases ho with rfl | rfl | rfl | rfl | rfl | rfl | rfl | rfl | rfl | rfl <;> first | exact absurd hc (by decide) | (cases hd; decide)
theorem kp_X3_9 : ∀ o ∈ px_ob, o.1 = 3 → ∀ d, o.2[9]? = some d → (d.1 = 0 ∧ (.int : FieldType) = .int) ∨ (d.1 = 3 ∧ (.int : FieldType) = .boolean) ∨ (d.1 = 1 ∧ (.int : FieldType) = .long) := by
  intro o ho hc d hd
  simp only [px_ob, List.mem_cons, List.not_mem_nil, or_false] at ho
  rcases ho with rfl | rfl | rfl | rfl | rfl | rfl | rfl | rfl | rfl | rfl <;> first | exact absurd hc (by decide) | (cases hd; decide)
theorem kp_X4_1 : ∀ o ∈ px_ob, o.1 = 4 → ∀ d, o.2[1]? = some d → (d.1 = 0 ∧ (.int : FieldType) = .int) ∨ (d.1 = 3 ∧ (.int : FieldType) = .boolean) ∨ (d.1 = 1 ∧ (.int : FieldType) = .long) := by
  intro o ho hc d hd
  simp only [px_ob, List.mem_cons, List.not_mem_nil, or_false] at ho
  rcases ho with rfl | rfl | rfl | rfl | rfl | rfl | rfl | rfl | rfl | rfl <;> first | exact absurd hc (by decide) | (cases hd; decide)
theorem kp_X5_4 : ∀ o ∈ px_ob, o.1 = 5 → ∀ d, o.2[4]? = some d → (d.1 = 0 ∧ (.int : FieldType) = .int) ∨ (d.1 = 3 ∧ (.int : FieldType) = .boolean) ∨ (d.1 = 1 ∧ (.int : FieldType) = .long) := by
  intro o ho hc d hd
  simp only [px_ob, List.mem_cons, List.not_mem_nil, or_false] at ho
  rcases ho with rfl | rfl | rfl | rfl | rfl | rfl | rfl | rfl | rfl | rfl <;> first | exact absurd hc (by decide) | (cases hd; decide)
theorem kp_X5_5 : ∀ o ∈ px_ob, o.1 = 5 → ∀ d, o.2[5]? = some d → (d.1 = 0 ∧ (.int : FieldType) = .int) ∨ (d.1 = 3 ∧ (.int : FieldType) = .boolean) ∨ (d.1 = 1 ∧ (.int : FieldType) = .long) := by
  intro o ho hc d hd
  simp only [px_ob, List.mem_cons, List.not_mem_nil, or_false] at ho
  rcases ho with rfl | rfl | rfl | rfl | rfl | rfl | rfl | rfl | rfl | rfl <;> first | exact absurd hc (by decide) | (cases hd; decide)
theorem kp_X6_2 : ∀ o ∈ px_ob, o.1 = 6 → ∀ d, o.2[2]? = some d → (d.1 = 0 ∧ (.int : FieldType) = .int) ∨ (d.1 = 3 ∧ (.int : FieldType) = .boolean) ∨ (d.1 = 1 ∧ (.int : FieldType) = .long) := by
  intro o ho hc d hd
  simp only [px_ob, List.mem_cons, List.not_mem_nil, or_false] at ho
  rcases ho with rfl | rfl | rfl | rfl | rfl | rfl | rfl | rfl | rfl | rfl <;> first | exact absurd hc (by decide) | (cases hd; decide)
theorem kp_X6_3 : ∀ o ∈ px_ob, o.1 = 6 → ∀ d, o.2[3]? = some d → (d.1 = 0 ∧ (.int : FieldType) = .int) ∨ (d.1 = 3 ∧ (.int : FieldType) = .boolean) ∨ (d.1 = 1 ∧ (.int : FieldType) = .long) := by
  intro o ho hc d hd
  simp only [px_ob, List.mem_cons, List.not_mem_nil, or_false] at ho
  rcases ho with rfl | rfl | rfl | rfl | rfl | rfl | rfl | rfl | rfl | rfl <;> first | exact absurd hc (by decide) | (cases hd; decide)
theorem kp_X6_4 : ∀ o ∈ px_ob, o.1 = 6 → ∀ d, o.2[4]? = some d → (d.1 = 0 ∧ (.int : FieldType) = .int) ∨ (d.1 = 3 ∧ (.int : FieldType) = .boolean) ∨ (d.1 = 1 ∧ (.int : FieldType) = .long) := by
  intro o ho hc d hd
  simp only [px_ob, List.mem_cons, List.not_mem_nil, or_false] at ho
  rcases ho with rfl | rfl | rfl | rfl | rfl | rfl | rfl | rfl | rfl | rfl <;> first | exact absurd hc (by decide) | (cases hd; decide)
theorem kp_X6_5 : ∀ o ∈ px_ob, o.1 = 6 → ∀ d, o.2[5]? = some d → (d.1 = 0 ∧ (.int : FieldType) = .int) ∨ (d.1 = 3 ∧ (.int : FieldType) = .boolean) ∨ (d.1 = 1 ∧ (.int : FieldType) = .long) := by
  intro o ho hc d hd
  simp only [px_ob, List.mem_cons, List.not_mem_nil, or_false] at ho
  rcases ho with rfl | rfl | rfl | rfl | rfl | rfl | rfl | rfl | rfl | rfl <;> first | exact absurd hc (by decide) | (cases hd; decide)
theorem kp_X6_6 : ∀ o ∈ px_ob, o.1 = 6 → ∀ d, o.2[6]? = some d → (d.1 = 0 ∧ (.int : FieldType) = .int) ∨ (d.1 = 3 ∧ (.int : FieldType) = .boolean) ∨ (d.1 = 1 ∧ (.int : FieldType) = .long) := by
  intro o ho hc d hd
  simp only [px_ob, List.mem_cons, List.not_mem_nil, or_false] at ho
  rcases ho with rfl | rfl | rfl | rfl | rfl | rfl | rfl | rfl | rfl | rfl <;> first | exact absurd hc (by decide) | (cases hd; decide)
theorem kp_X8_8 : ∀ o ∈ px_ob, o.1 = 7 → ∀ d, o.2[8]? = some d → (d.1 = 0 ∧ (.long : FieldType) = .int) ∨ (d.1 = 3 ∧ (.long : FieldType) = .boolean) ∨ (d.1 = 1 ∧ (.long : FieldType) = .long) := by
  intro o ho hc d hd
  simp only [px_ob, List.mem_cons, List.not_mem_nil, or_false] at ho
  rcases ho with rfl | rfl | rfl | rfl | rfl | rfl | rfl | rfl | rfl | rfl <;> first | exact absurd hc (by decide) | (cases hd; decide)
theorem kp_X8_9 : ∀ o ∈ px_ob, o.1 = 7 → ∀ d, o.2[9]? = some d → (d.1 = 0 ∧ (.int : FieldType) = .int) ∨ (d.1 = 3 ∧ (.int : FieldType) = .boolean) ∨ (d.1 = 1 ∧ (.int : FieldType) = .long) := by
  intro o ho hc d hd
  simp only [px_ob, List.mem_cons, List.not_mem_nil, or_false] at ho
  rcases ho with rfl | rfl | rfl | rfl | rfl | rfl | rfl | rfl | rfl | rfl <;> first | exact absurd hc (by decide) | (cases hd; decide)
theorem kp_X9_1 : ∀ o ∈ px_ob, o.1 = 8 → ∀ d, o.2[1]? = some d → (d.1 = 0 ∧ (.int : FieldType) = .int) ∨ (d.1 = 3 ∧ (.int : FieldType) = .boolean) ∨ (d.1 = 1 ∧ (.int : FieldType) = .long) := by
  intro o ho hc d hd
  simp only [px_ob, List.mem_cons, List.not_mem_nil, or_false] at ho
  rcases ho with rfl | rfl | rfl | rfl | rfl | rfl | rfl | rfl | rfl | rfl <;> first | exact absurd hc (by decide) | (cases hd; decide)
theorem kp_X9_10 : ∀ o ∈ px_ob, o.1 = 8 → ∀ d, o.2[10]? = some d → (d.1 = 0 ∧ (.int : FieldType) = .int) ∨ (d.1 = 3 ∧ (.int : FieldType) = .boolean) ∨ (d.1 = 1 ∧ (.int : FieldType) = .long) := by
  intro o ho hc d hd
  simp only [px_ob, List.mem_cons, List.not_mem_nil, or_false] at ho
  rcases ho with rfl | rfl | rfl | rfl | rfl | rfl | rfl | rfl | rfl | rfl <;> first | exact absurd hc (by decide) | (cases hd; decide)
theorem kp_X9_12 : ∀ o ∈ px_ob, o.1 = 8 → ∀ d, o.2[12]? = some d → (d.1 = 0 ∧ (.int : FieldType) = .int) ∨ (d.1 = 3 ∧ (.int : FieldType) = .boolean) ∨ (d.1 = 1 ∧ (.int : FieldType) = .long) := by
  intro o ho hc d hd
  simp only [px_ob, List.mem_cons, List.not_mem_nil, or_false] at ho
  rcases ho with rfl | rfl | rfl | rfl | rfl | rfl | rfl | rfl | rfl | rfl <;> first | exact absurd hc (by decide) | (cases hd; decide)
theorem kp_X9_13 : ∀ o ∈ px_ob, o.1 = 8 → ∀ d, o.2[13]? = some d → (d.1 = 0 ∧ (.int : FieldType) = .int) ∨ (d.1 = 3 ∧ (.int : FieldType) = .boolean) ∨ (d.1 = 1 ∧ (.int : FieldType) = .long) := by
  intro o ho hc d hd
  simp only [px_ob, List.mem_cons, List.not_mem_nil, or_false] at ho
  rcases ho with rfl | rfl | rfl | rfl | rfl | rfl | rfl | rfl | rfl | rfl <;> first | exact absurd hc (by decide) | (cases hd; decide)
theorem kp_X9_18 : ∀ o ∈ px_ob, o.1 = 8 → ∀ d, o.2[18]? = some d → (d.1 = 0 ∧ (.int : FieldType) = .int) ∨ (d.1 = 3 ∧ (.int : FieldType) = .boolean) ∨ (d.1 = 1 ∧ (.int : FieldType) = .long) := by
  intro o ho hc d hd
  simp only [px_ob, List.mem_cons, List.not_mem_nil, or_false] at ho
  rcases ho with rfl | rfl | rfl | rfl | rfl | rfl | rfl | rfl | rfl | rfl <;> first | exact absurd hc (by decide) | (cases hd; decide)
theorem kp_X9_22 : ∀ o ∈ px_ob, o.1 = 8 → ∀ d, o.2[22]? = some d → (d.1 = 0 ∧ (.int : FieldType) = .int) ∨ (d.1 = 3 ∧ (.int : FieldType) = .boolean) ∨ (d.1 = 1 ∧ (.int : FieldType) = .long) := by
  intro o ho hc d hd
  simp only [px_ob, List.mem_cons, List.not_mem_nil, or_false] at ho
  rcases ho with rfl | rfl | rfl | rfl | rfl | rfl | rfl | rfl | rfl | rfl <;> first | exact absurd hc (by decide) | (cases hd; decide)
theorem kp_X9_25 : ∀ o ∈ px_ob, o.1 = 8 → ∀ d, o.2[25]? = some d → (d.1 = 0 ∧ (.int : FieldType) = .int) ∨ (d.1 = 3 ∧ (.int : FieldType) = .boolean) ∨ (d.1 = 1 ∧ (.int : FieldType) = .long) := by
  intro o ho hc d hd
  simp only [px_ob, List.mem_cons, List.not_mem_nil, or_false] at ho
  rcases ho with rfl | rfl | rfl | rfl | rfl | rfl | rfl | rfl | rfl | rfl <;> first | exact absurd hc (by decide) | (cases hd; decide)
theorem kp_X9_26 : ∀ o ∈ px_ob, o.1 = 8 → ∀ d, o.2[26]? = some d → (d.1 = 0 ∧ (.int : FieldType) = .int) ∨ (d.1 = 3 ∧ (.int : FieldType) = .boolean) ∨ (d.1 = 1 ∧ (.int : FieldType) = .long) := by
  intro o ho hc d hd
  simp only [px_ob, List.mem_cons, List.not_mem_nil, or_false] at ho
  rcases ho with rfl | rfl | rfl | rfl | rfl | rfl | rfl | rfl | rfl | rfl <;> first | exact absurd hc (by decide) | (cases hd; decide)
theorem kp_X9_29 : ∀ o ∈ px_ob, o.1 = 8 → ∀ d, o.2[29]? = some d → (d.1 = 0 ∧ (.int : FieldType) = .int) ∨ (d.1 = 3 ∧ (.int : FieldType) = .boolean) ∨ (d.1 = 1 ∧ (.int : FieldType) = .long) := by
  intro o ho hc d hd
  simp only [px_ob, List.mem_cons, List.not_mem_nil, or_false] at ho
  rcases ho with rfl | rfl | rfl | rfl | rfl | rfl | rfl | rfl | rfl | rfl <;> first | exact absurd hc (by decide) | (cases hd; decide)
theorem kp_X9_30 : ∀ o ∈ px_ob, o.1 = 8 → ∀ d, o.2[30]? = some d → (d.1 = 0 ∧ (.int : FieldType) = .int) ∨ (d.1 = 3 ∧ (.int : FieldType) = .boolean) ∨ (d.1 = 1 ∧ (.int : FieldType) = .long) := by
  intro o ho hc d hd
  simp only [px_ob, List.mem_cons, List.not_mem_nil, or_false] at ho
  rcases ho with rfl | rfl | rfl | rfl | rfl | rfl | rfl | rfl | rfl | rfl <;> first | exact absurd hc (by decide) | (cases hd; decide)
theorem kp_X9_31 : ∀ o ∈ px_ob, o.1 = 8 → ∀ d, o.2[31]? = some d → (d.1 = 0 ∧ (.int : FieldType) = .int) ∨ (d.1 = 3 ∧ (.int : FieldType) = .boolean) ∨ (d.1 = 1 ∧ (.int : FieldType) = .long) := by
  intro o ho hc d hd
  simp only [px_ob, List.mem_cons, List.not_mem_nil, or_false] at ho
  rcases ho with rfl | rfl | rfl | rfl | rfl | rfl | rfl | rfl | rfl | rfl <;> first | exact absurd hc (by decide) | (cases hd; decide)
theorem kp_X9_32 : ∀ o ∈ px_ob, o.1 = 8 → ∀ d, o.2[32]? = some d → (d.1 = 0 ∧ (.int : FieldType) = .int) ∨ (d.1 = 3 ∧ (.int : FieldType) = .boolean) ∨ (d.1 = 1 ∧ (.int : FieldType) = .long) := by
  intro o ho hc d hd
  simp only [px_ob, List.mem_cons, List.not_mem_nil, or_false] at ho
  rcases ho with rfl | rfl | rfl | rfl | rfl | rfl | rfl | rfl | rfl | rfl <;> first | exact absurd hc (by decide) | (cases hd; decide)
theorem kp_X9_33 : ∀ o ∈ px_ob, o.1 = 8 → ∀ d, o.2[33]? = some d → (d.1 = 0 ∧ (.int : FieldType) = .int) ∨ (d.1 = 3 ∧ (.int : FieldType) = .boolean) ∨ (d.1 = 1 ∧ (.int : FieldType) = .long) := by
  intro o ho hc d hd
  simp only [px_ob, List.mem_cons, List.not_mem_nil, or_false] at ho
  rcases ho with rfl | rfl | rfl | rfl | rfl | rfl | rfl | rfl | rfl | rfl <;> first | exact absurd hc (by decide) | (cases hd; decide)
theorem kp_X9_34 : ∀ o ∈ px_ob, o.1 = 8 → ∀ d, o.2[34]? = some d → (d.1 = 0 ∧ (.int : FieldType) = .int) ∨ (d.1 = 3 ∧ (.int : FieldType) = .boolean) ∨ (d.1 = 1 ∧ (.int : FieldType) = .long) := by
  intro o ho hc d hd
  simp only [px_ob, List.mem_cons, List.not_mem_nil, or_false] at ho
  rcases ho with rfl | rfl | rfl | rfl | rfl | rfl | rfl | rfl | rfl | rfl <;> first | exact absurd hc (by decide) | (cases hd; decide)
