/-! ===== the words that the tables need, by their places; the classes ===== -/
theorem px_t1 {w : Cond} (i : Nat) (h0 : tables_1_1[i]? = some w) (g : goodWord w = true) : w ∈ px_TB := by
  have h := List.mem_of_getElem? h0
  exact List.mem_filter.mpr ⟨List.mem_append_right _ (List.mem_append_left _ h), g⟩
theorem px_t2 {w : Cond} (i : Nat) (h0 : tables_1_2[i]? = some w) (g : goodWord w = true) : w ∈ px_TB := by
  have h := List.mem_of_getElem? h0
  exact List.mem_filter.mpr ⟨List.mem_append_right _ (List.mem_append_right _ (List.mem_append_left _ h)), g⟩
theorem px_t3 {w : Cond} (i : Nat) (h0 : tables_1_3[i]? = some w) (g : goodWord w = true) : w ∈ px_TB := by
  have h := List.mem_of_getElem? h0
  exact List.mem_filter.mpr ⟨List.mem_append_right _ (List.mem_append_right _ (List.mem_append_right _ (List.mem_append_left _ h))), g⟩
theorem px_t4 {w : Cond} (i : Nat) (h0 : tables_1_4[i]? = some w) (g : goodWord w = true) : w ∈ px_TB := by
  have h := List.mem_of_getElem? h0
  exact List.mem_filter.mpr ⟨List.mem_append_right _ (List.mem_append_right _ (List.mem_append_right _ (List.mem_append_right _ (List.mem_append_left _ h)))), g⟩
theorem px_t5 {w : Cond} (i : Nat) (h0 : tables_1_5[i]? = some w) (g : goodWord w = true) : w ∈ px_TB := by
  have h := List.mem_of_getElem? h0
  exact List.mem_filter.mpr ⟨List.mem_append_right _ (List.mem_append_right _ (List.mem_append_right _ (List.mem_append_right _ (List.mem_append_right _ (List.mem_append_left _ h))))), g⟩
theorem px_t6 {w : Cond} (i : Nat) (h0 : tables_1_6[i]? = some w) (g : goodWord w = true) : w ∈ px_TB := by
  have h := List.mem_of_getElem? h0
  exact List.mem_filter.mpr ⟨List.mem_append_right _ (List.mem_append_right _ (List.mem_append_right _ (List.mem_append_right _ (List.mem_append_right _ (List.mem_append_right _ (h)))))), g⟩
theorem px_tp {q : MethodName × Nat} {w : Cond} (i : Nat) (h0 : lw_privs[i]? = some q) (hw : w = Cond.selects q.1.cls q.1 q.1) : w ∈ px_TB := by
  subst hw
  exact List.mem_filter.mpr ⟨List.mem_append_left _ (List.mem_map.mpr ⟨q, List.mem_of_getElem? h0, rfl⟩), rfl⟩
set_option maxRecDepth 20000 in
theorem wa_int : Cond.arrayClass .int ∈ px_TB := px_t1 91 rfl rfl
set_option maxRecDepth 20000 in
theorem wa_native : Cond.native arraycopyName ∈ px_TB := px_t1 30 rfl rfl
set_option maxRecDepth 20000 in
theorem wc_max : Cond.code Lib.Math.max.name Lib.Math.max.code 2 (some .int) ∈ px_TB := px_t2 183 rfl rfl
set_option maxRecDepth 20000 in
theorem wc_min : Cond.code Lib.Math.min.name Lib.Math.min.code 2 (some .int) ∈ px_TB := px_t2 202 rfl rfl
set_option maxRecDepth 20000 in
theorem wc_yJ0_charAt_5068e : Cond.code yJ0_charAt_5068e cJ0_charAt_5068e 2 (some .char) ∈ px_TB := px_t4 72 rfl rfl
set_option maxRecDepth 20000 in
theorem wc_yJ0_checkIndex_df160 : Cond.code yJ0_checkIndex_df160 cJ0_checkIndex_df160 2 (none) ∈ px_TB := px_t4 82 rfl rfl
set_option maxRecDepth 20000 in
theorem wc_yJ0_coder_7d493 : Cond.code yJ0_coder_7d493 cJ0_coder_7d493 1 (some .byte) ∈ px_TB := px_t4 66 rfl rfl
set_option maxRecDepth 20000 in
theorem wc_yJ0_isLatin1_aae02 : Cond.code yJ0_isLatin1_aae02 cJ0_isLatin1_aae02 1 (some .boolean) ∈ px_TB := px_t4 76 rfl rfl
set_option maxRecDepth 20000 in
theorem wc_yJ0_length_8abf5 : Cond.code yJ0_length_8abf5 cJ0_length_8abf5 1 (some .int) ∈ px_TB := px_t4 62 rfl rfl
set_option maxRecDepth 20000 in
theorem wc_yJ1_charAt_3b067 : Cond.code yJ1_charAt_3b067 cJ1_charAt_3b067 2 (some .char) ∈ px_TB := px_t4 79 rfl rfl
set_option maxRecDepth 20000 in
theorem wc_yJ3_checkIndex_8e157 : Cond.code yJ3_checkIndex_8e157 cJ3_checkIndex_8e157 3 (some .int) ∈ px_TB := px_t4 87 rfl rfl
set_option maxRecDepth 20000 in
theorem wc_yJ7_fill_53178 : Cond.code yJ7_fill_53178 cJ7_fill_53178 4 (none) ∈ px_TB := px_t1 101 rfl rfl
set_option maxRecDepth 20000 in
theorem wc_yX0_distance : Cond.code yX0_distance cX0_distance 12 (some .int) ∈ px_TB := px_t2 192 rfl rfl
set_option maxRecDepth 20000 in
theorem wc_yX0_forgetAll : Cond.code yX0_forgetAll cX0_forgetAll 1 (none) ∈ px_TB := px_t4 133 rfl rfl
set_option maxRecDepth 20000 in
theorem wc_yX0_forgetLetter : Cond.code yX0_forgetLetter cX0_forgetLetter 3 (none) ∈ px_TB := px_t2 104 rfl rfl
set_option maxRecDepth 20000 in
theorem wc_yX0_isLike : Cond.code yX0_isLike cX0_isLike 3 (some .boolean) ∈ px_TB := px_t2 188 rfl rfl
set_option maxRecDepth 20000 in
theorem wc_yX0_mostPairs : Cond.code yX0_mostPairs cX0_mostPairs 8 (some .int) ∈ px_TB := px_t2 180 rfl rfl
set_option maxRecDepth 20000 in
theorem wc_yX0_of : Cond.code yX0_of cX0_of 4 (some .int) ∈ px_TB := px_t2 176 rfl rfl
set_option maxRecDepth 20000 in
theorem wc_yX1_addLetter : Cond.code yX1_addLetter cX1_addLetter 5 (some .int) ∈ px_TB := px_t2 89 rfl rfl
set_option maxRecDepth 20000 in
theorem wc_yX1_addLine : Cond.code yX1_addLine cX1_addLine 6 (some .int) ∈ px_TB := px_t2 97 rfl rfl
set_option maxRecDepth 20000 in
theorem wc_yX1_has : Cond.code yX1_has cX1_has 2 (some .boolean) ∈ px_TB := px_t2 75 rfl rfl
set_option maxRecDepth 20000 in
theorem wc_yX1_hasLine : Cond.code yX1_hasLine cX1_hasLine 3 (some .boolean) ∈ px_TB := px_t3 2 rfl rfl
set_option maxRecDepth 20000 in
theorem wc_yX1_isSeen : Cond.code yX1_isSeen cX1_isSeen 2 (some .boolean) ∈ px_TB := px_t2 141 rfl rfl
set_option maxRecDepth 20000 in
theorem wc_yX1_isSeenWith : Cond.code yX1_isSeenWith cX1_isSeenWith 3 (some .boolean) ∈ px_TB := px_t2 145 rfl rfl
set_option maxRecDepth 20000 in
theorem wc_yX1_isTaken : Cond.code yX1_isTaken cX1_isTaken 2 (some .boolean) ∈ px_TB := px_t2 121 rfl rfl
set_option maxRecDepth 20000 in
theorem wc_yX1_quoteInto : Cond.code yX1_quoteInto cX1_quoteInto 8 (none) ∈ px_TB := px_t2 112 rfl rfl
set_option maxRecDepth 20000 in
theorem wc_yX1_seenLetters : Cond.code yX1_seenLetters cX1_seenLetters 3 (some .int) ∈ px_TB := px_t3 26 rfl rfl
set_option maxRecDepth 20000 in
theorem wc_yX1_turnTaken : Cond.code yX1_turnTaken cX1_turnTaken 2 (none) ∈ px_TB := px_t2 125 rfl rfl
set_option maxRecDepth 20000 in
theorem wc_yX2_alteredLines : Cond.code yX2_alteredLines cX2_alteredLines 4 (some .int) ∈ px_TB := px_t3 39 rfl rfl
set_option maxRecDepth 20000 in
theorem wc_yX2_childrenOf : Cond.code yX2_childrenOf cX2_childrenOf 4 (some .int) ∈ px_TB := px_t2 228 rfl rfl
set_option maxRecDepth 20000 in
theorem wc_yX2_findHeld : Cond.code yX2_findHeld cX2_findHeld 5 (some .int) ∈ px_TB := px_t2 211 rfl rfl
set_option maxRecDepth 20000 in
theorem wc_yX2_findParent : Cond.code yX2_findParent cX2_findParent 7 (some .int) ∈ px_TB := px_t2 159 rfl rfl
set_option maxRecDepth 20000 in
theorem wc_yX2_greatestDayAbove : Cond.code yX2_greatestDayAbove cX2_greatestDayAbove 5 (some .int) ∈ px_TB := px_t3 209 rfl rfl
set_option maxRecDepth 20000 in
theorem wc_yX2_holdLines : Cond.code yX2_holdLines cX2_holdLines 4 (none) ∈ px_TB := px_t2 206 rfl rfl
set_option maxRecDepth 20000 in
theorem wc_yX2_isAfter : Cond.code yX2_isAfter cX2_isAfter 3 (some .boolean) ∈ px_TB := px_t2 172 rfl rfl
set_option maxRecDepth 20000 in
theorem wc_yX2_isAltered : Cond.code yX2_isAltered cX2_isAltered 2 (some .boolean) ∈ px_TB := px_t3 43 rfl rfl
set_option maxRecDepth 20000 in
theorem wc_yX2_isFree : Cond.code yX2_isFree cX2_isFree 3 (some .boolean) ∈ px_TB := px_t2 164 rfl rfl
set_option maxRecDepth 20000 in
theorem wc_yX2_isQuarrel : Cond.code yX2_isQuarrel cX2_isQuarrel 2 (some .boolean) ∈ px_TB := px_t3 86 rfl rfl
set_option maxRecDepth 20000 in
theorem wc_yX2_isSeen : Cond.code yX2_isSeen cX2_isSeen 2 (some .boolean) ∈ px_TB := px_t2 155 rfl rfl
set_option maxRecDepth 20000 in
theorem wc_yX2_leadsTo : Cond.code yX2_leadsTo cX2_leadsTo 5 (some .boolean) ∈ px_TB := px_t2 168 rfl rfl
set_option maxRecDepth 20000 in
theorem wc_yX2_leastDayBelow : Cond.code yX2_leastDayBelow cX2_leastDayBelow 4 (some .int) ∈ px_TB := px_t3 214 rfl rfl
set_option maxRecDepth 20000 in
theorem wc_yX2_lettersOfThread : Cond.code yX2_lettersOfThread cX2_lettersOfThread 5 (some .int) ∈ px_TB := px_t2 232 rfl rfl
set_option maxRecDepth 20000 in
theorem wc_yX2_linesFrom : Cond.code yX2_linesFrom cX2_linesFrom 5 (some .int) ∈ px_TB := px_t3 47 rfl rfl
set_option maxRecDepth 20000 in
theorem wc_yX2_linesQuotedAlike : Cond.code yX2_linesQuotedAlike cX2_linesQuotedAlike 7 (some .int) ∈ px_TB := px_t4 12 rfl rfl
set_option maxRecDepth 20000 in
theorem wc_yX2_nextToWrite : Cond.code yX2_nextToWrite cX2_nextToWrite 6 (some .int) ∈ px_TB := px_t3 193 rfl rfl
set_option maxRecDepth 20000 in
theorem wc_yX2_quarrelAt : Cond.code yX2_quarrelAt cX2_quarrelAt 4 (some .int) ∈ px_TB := px_t3 201 rfl rfl
set_option maxRecDepth 20000 in
theorem wc_yX2_quarrels : Cond.code yX2_quarrels cX2_quarrels 3 (some .int) ∈ px_TB := px_t3 82 rfl rfl
set_option maxRecDepth 20000 in
theorem wc_yX2_refresh : Cond.code yX2_refresh cX2_refresh 3 (none) ∈ px_TB := px_t2 150 rfl rfl
set_option maxRecDepth 20000 in
theorem wc_yX2_rootOf : Cond.code yX2_rootOf cX2_rootOf 4 (some .int) ∈ px_TB := px_t2 220 rfl rfl
set_option maxRecDepth 20000 in
theorem wc_yX2_roots : Cond.code yX2_roots cX2_roots 3 (some .int) ∈ px_TB := px_t3 35 rfl rfl
set_option maxRecDepth 20000 in
theorem wc_yX2_sourceOf : Cond.code yX2_sourceOf cX2_sourceOf 4 (some .int) ∈ px_TB := px_t3 51 rfl rfl
set_option maxRecDepth 20000 in
theorem wc_yX2_stepsOf : Cond.code yX2_stepsOf cX2_stepsOf 4 (some .int) ∈ px_TB := px_t2 224 rfl rfl
set_option maxRecDepth 20000 in
theorem wc_yX2_writtenAt : Cond.code yX2_writtenAt cX2_writtenAt 6 (some .int) ∈ px_TB := px_t3 189 rfl rfl
set_option maxRecDepth 20000 in
theorem wc_yX3_gather : Cond.code yX3_gather cX3_gather 6 (some .int) ∈ px_TB := px_t3 70 rfl rfl
set_option maxRecDepth 20000 in
theorem wc_yX3_handOverPiece : Cond.code yX3_handOverPiece cX3_handOverPiece 3 (none) ∈ px_TB := px_t3 132 rfl rfl
set_option maxRecDepth 20000 in
theorem wc_yX3_has : Cond.code yX3_has cX3_has 2 (some .boolean) ∈ px_TB := px_t3 112 rfl rfl
set_option maxRecDepth 20000 in
theorem wc_yX3_hasPiece : Cond.code yX3_hasPiece cX3_hasPiece 3 (some .boolean) ∈ px_TB := px_t3 60 rfl rfl
set_option maxRecDepth 20000 in
theorem wc_yX3_isLarge : Cond.code yX3_isLarge cX3_isLarge 2 (some .boolean) ∈ px_TB := px_t3 116 rfl rfl
set_option maxRecDepth 20000 in
theorem wc_yX3_isOfPiece : Cond.code yX3_isOfPiece cX3_isOfPiece 4 (some .boolean) ∈ px_TB := px_t3 64 rfl rfl
set_option maxRecDepth 20000 in
theorem wc_yX3_makeRow : Cond.code yX3_makeRow cX3_makeRow 3 (none) ∈ px_TB := px_t3 124 rfl rfl
set_option maxRecDepth 20000 in
theorem wc_yX3_pieceHas : Cond.code yX3_pieceHas cX3_pieceHas 5 (some .boolean) ∈ px_TB := px_t3 78 rfl rfl
set_option maxRecDepth 20000 in
theorem wc_yX3_refresh : Cond.code yX3_refresh cX3_refresh 2 (none) ∈ px_TB := px_t3 55 rfl rfl
set_option maxRecDepth 20000 in
theorem wc_yX3_rowLength : Cond.code yX3_rowLength cX3_rowLength 2 (some .int) ∈ px_TB := px_t3 120 rfl rfl
set_option maxRecDepth 20000 in
theorem wc_yX3_rowText : Cond.code yX3_rowText cX3_rowText 3 (some .long) ∈ px_TB := px_t3 181 rfl rfl
set_option maxRecDepth 20000 in
theorem wc_yX3_shareText : Cond.code yX3_shareText cX3_shareText 4 (some .boolean) ∈ px_TB := px_t3 74 rfl rfl
set_option maxRecDepth 20000 in
theorem wc_yX4_addSign : Cond.code yX4_addSign cX4_addSign 2 (some .int) ∈ px_TB := px_t3 223 rfl rfl
set_option maxRecDepth 20000 in
theorem wc_yX4_standsAt : Cond.code yX4_standsAt cX4_standsAt 5 (some .boolean) ∈ px_TB := px_t4 3 rfl rfl
set_option maxRecDepth 20000 in
theorem wc_yX4_standsIn : Cond.code yX4_standsIn cX4_standsIn 5 (some .boolean) ∈ px_TB := px_t3 238 rfl rfl
set_option maxRecDepth 20000 in
theorem wc_yX5_addPiece : Cond.code yX5_addPiece cX5_addPiece 1 (none) ∈ px_TB := px_t3 136 rfl rfl
set_option maxRecDepth 20000 in
theorem wc_yX5_addText : Cond.code yX5_addText cX5_addText 4 (none) ∈ px_TB := px_t3 140 rfl rfl
set_option maxRecDepth 20000 in
theorem wc_yX5_findRow : Cond.code yX5_findRow cX5_findRow 6 (none) ∈ px_TB := px_t3 144 rfl rfl
set_option maxRecDepth 20000 in
theorem wc_yX5_goOn : Cond.code yX5_goOn cX5_goOn 9 (some .int) ∈ px_TB := px_t3 148 rfl rfl
set_option maxRecDepth 20000 in
theorem wc_yX5_leastHeadAbove : Cond.code yX5_leastHeadAbove cX5_leastHeadAbove 6 (some .long) ∈ px_TB := px_t3 156 rfl rfl
set_option maxRecDepth 20000 in
theorem wc_yX5_positionOf : Cond.code yX5_positionOf cX5_positionOf 2 (some .int) ∈ px_TB := px_t3 151 rfl rfl
set_option maxRecDepth 20000 in
theorem wc_yX5_start : Cond.code yX5_start cX5_start 1 (none) ∈ px_TB := px_t3 128 rfl rfl
set_option maxRecDepth 20000 in
theorem wc_yX5_stepBy : Cond.code yX5_stepBy cX5_stepBy 5 (some .int) ∈ px_TB := px_t3 160 rfl rfl
set_option maxRecDepth 20000 in
theorem wc_yX5_textOfStep : Cond.code yX5_textOfStep cX5_textOfStep 5 (some .long) ∈ px_TB := px_t3 169 rfl rfl
set_option maxRecDepth 20000 in
theorem wc_yX5_wipe : Cond.code yX5_wipe cX5_wipe 4 (none) ∈ px_TB := px_t3 173 rfl rfl
set_option maxRecDepth 20000 in
theorem wc_yX5_writeRow : Cond.code yX5_writeRow cX5_writeRow 5 (none) ∈ px_TB := px_t3 165 rfl rfl
set_option maxRecDepth 20000 in
theorem wc_yX6_addBytes : Cond.code yX6_addBytes cX6_addBytes 5 (some .int) ∈ px_TB := px_t4 20 rfl rfl
set_option maxRecDepth 20000 in
theorem wc_yX6_blame : Cond.code yX6_blame cX6_blame 3 (some .boolean) ∈ px_TB := px_t4 110 rfl rfl
set_option maxRecDepth 20000 in
theorem wc_yX6_endOfWord : Cond.code yX6_endOfWord cX6_endOfWord 2 (some .int) ∈ px_TB := px_t4 42 rfl rfl
set_option maxRecDepth 20000 in
theorem wc_yX6_isFigure : Cond.code yX6_isFigure cX6_isFigure 1 (some .boolean) ∈ px_TB := px_t4 123 rfl rfl
set_option maxRecDepth 20000 in
theorem wc_yX6_isWord : Cond.code yX6_isWord cX6_isWord 5 (some .boolean) ∈ px_TB := px_t4 58 rfl rfl
set_option maxRecDepth 20000 in
theorem wc_yX6_kindOf : Cond.code yX6_kindOf cX6_kindOf 4 (some .int) ∈ px_TB := px_t4 46 rfl rfl
set_option maxRecDepth 20000 in
theorem wc_yX6_nameOf : Cond.code yX6_nameOf cX6_nameOf 1 (some (.object "java/lang/String")) ∈ px_TB := px_t4 49 rfl rfl
set_option maxRecDepth 20000 in
theorem wc_yX6_readClause : Cond.code yX6_readClause cX6_readClause 5 (some .boolean) ∈ px_TB := px_t4 38 rfl rfl
set_option maxRecDepth 20000 in
theorem wc_yX6_readClauses : Cond.code yX6_readClauses cX6_readClauses 2 (some .int) ∈ px_TB := px_t4 28 rfl rfl
set_option maxRecDepth 20000 in
theorem wc_yX6_readNumber : Cond.code yX6_readNumber cX6_readNumber 4 (some .boolean) ∈ px_TB := px_t4 120 rfl rfl
set_option maxRecDepth 20000 in
theorem wc_yX6_readSemicolon : Cond.code yX6_readSemicolon cX6_readSemicolon 1 (some .boolean) ∈ px_TB := px_t4 129 rfl rfl
set_option maxRecDepth 20000 in
theorem wc_yX6_readYes : Cond.code yX6_readYes cX6_readYes 3 (some .boolean) ∈ px_TB := px_t4 114 rfl rfl
set_option maxRecDepth 20000 in
theorem wc_yX6_skipBlanks : Cond.code yX6_skipBlanks cX6_skipBlanks 1 (none) ∈ px_TB := px_t4 34 rfl rfl
set_option maxRecDepth 20000 in
theorem wc_yX7_with : Cond.code yX7_with cX7_with 4 (some .long) ∈ px_TB := px_t2 67 rfl rfl
set_option maxRecDepth 20000 in
theorem wc_yX7_wordAt : Cond.code yX7_wordAt cX7_wordAt 3 (some .int) ∈ px_TB := px_t2 199 rfl rfl
set_option maxRecDepth 20000 in
theorem wc_yX7_wordOrNone : Cond.code yX7_wordOrNone cX7_wordOrNone 3 (some .int) ∈ px_TB := px_t3 8 rfl rfl
set_option maxRecDepth 20000 in
theorem wc_yX7_wordsIn : Cond.code yX7_wordsIn cX7_wordsIn 5 (some .int) ∈ px_TB := px_t2 195 rfl rfl
set_option maxRecDepth 20000 in
theorem wc_yX8_about : Cond.code yX8_about cX8_about 3 (some .int) ∈ px_TB := px_t2 137 rfl rfl
set_option maxRecDepth 20000 in
theorem wc_yX8_aboutKin : Cond.code yX8_aboutKin cX8_aboutKin 3 (some .int) ∈ px_TB := px_t2 216 rfl rfl
set_option maxRecDepth 20000 in
theorem wc_yX8_altered : Cond.code yX8_altered cX8_altered 3 (some .int) ∈ px_TB := px_t3 95 rfl rfl
set_option maxRecDepth 20000 in
theorem wc_yX8_answer : Cond.code yX8_answer cX8_answer 5 (some .int) ∈ px_TB := px_t2 108 rfl rfl
set_option maxRecDepth 20000 in
theorem wc_yX8_clear : Cond.code yX8_clear cX8_clear 2 (some .int) ∈ px_TB := px_t3 227 rfl rfl
set_option maxRecDepth 20000 in
theorem wc_yX8_count : Cond.code yX8_count cX8_count 2 (some .int) ∈ px_TB := px_t3 22 rfl rfl
set_option maxRecDepth 20000 in
theorem wc_yX8_countFindings : Cond.code yX8_countFindings cX8_countFindings 2 (some .int) ∈ px_TB := px_t3 31 rfl rfl
set_option maxRecDepth 20000 in
theorem wc_yX8_differ : Cond.code yX8_differ cX8_differ 5 (some .int) ∈ px_TB := px_t3 13 rfl rfl
set_option maxRecDepth 20000 in
theorem wc_yX8_echoes : Cond.code yX8_echoes cX8_echoes 3 (some .int) ∈ px_TB := px_t3 100 rfl rfl
set_option maxRecDepth 20000 in
theorem wc_yX8_fault : Cond.code yX8_fault cX8_fault 1 (some .int) ∈ px_TB := px_t4 138 rfl rfl
set_option maxRecDepth 20000 in
theorem wc_yX8_feed : Cond.code yX8_feed cX8_feed 4 (some .int) ∈ px_TB := px_t4 16 rfl rfl
set_option maxRecDepth 20000 in
theorem wc_yX8_fit : Cond.code yX8_fit cX8_fit 3 (some .int) ∈ px_TB := px_t3 18 rfl rfl
set_option maxRecDepth 20000 in
theorem wc_yX8_forgetFindings : Cond.code yX8_forgetFindings cX8_forgetFindings 1 (none) ∈ px_TB := px_t2 85 rfl rfl
set_option maxRecDepth 20000 in
theorem wc_yX8_group : Cond.code yX8_group cX8_group 2 (some .int) ∈ px_TB := px_t3 104 rfl rfl
set_option maxRecDepth 20000 in
theorem wc_yX8_isWhere : Cond.code yX8_isWhere cX8_isWhere 2 (some .boolean) ∈ px_TB := px_t3 234 rfl rfl
set_option maxRecDepth 20000 in
theorem wc_yX8_isWrongDay : Cond.code yX8_isWrongDay cX8_isWrongDay 1 (some .boolean) ∈ px_TB := px_t2 81 rfl rfl
set_option maxRecDepth 20000 in
theorem wc_yX8_isWrongWriter : Cond.code yX8_isWrongWriter cX8_isWrongWriter 1 (some .boolean) ∈ px_TB := px_t2 78 rfl rfl
set_option maxRecDepth 20000 in
theorem wc_yX8_known : Cond.code yX8_known cX8_known 2 (some .int) ∈ px_TB := px_t2 133 rfl rfl
set_option maxRecDepth 20000 in
theorem wc_yX8_letter : Cond.code yX8_letter cX8_letter 4 (some .int) ∈ px_TB := px_t2 71 rfl rfl
set_option maxRecDepth 20000 in
theorem wc_yX8_line : Cond.code yX8_line cX8_line 4 (some .int) ∈ px_TB := px_t2 93 rfl rfl
set_option maxRecDepth 20000 in
theorem wc_yX8_lost : Cond.code yX8_lost cX8_lost 3 (some .int) ∈ px_TB := px_t3 108 rfl rfl
set_option maxRecDepth 20000 in
theorem wc_yX8_lostWord : Cond.code yX8_lostWord cX8_lostWord 6 (some .int) ∈ px_TB := px_t3 177 rfl rfl
set_option maxRecDepth 20000 in
theorem wc_yX8_order : Cond.code yX8_order cX8_order 2 (some .int) ∈ px_TB := px_t3 185 rfl rfl
set_option maxRecDepth 20000 in
theorem wc_yX8_origin : Cond.code yX8_origin cX8_origin 6 (some .int) ∈ px_TB := px_t3 90 rfl rfl
set_option maxRecDepth 20000 in
theorem wc_yX8_put : Cond.code yX8_put cX8_put 2 (some .int) ∈ px_TB := px_t2 129 rfl rfl
set_option maxRecDepth 20000 in
theorem wc_yX8_quarrel : Cond.code yX8_quarrel cX8_quarrel 2 (some .int) ∈ px_TB := px_t3 197 rfl rfl
set_option maxRecDepth 20000 in
theorem wc_yX8_read : Cond.code yX8_read cX8_read 2 (some .int) ∈ px_TB := px_t4 24 rfl rfl
set_option maxRecDepth 20000 in
theorem wc_yX8_rule : Cond.code yX8_rule cX8_rule 2 (some .int) ∈ px_TB := px_t4 142 rfl rfl
set_option maxRecDepth 20000 in
theorem wc_yX8_seek : Cond.code yX8_seek cX8_seek 8 (some .int) ∈ px_TB := px_t3 231 rfl rfl
set_option maxRecDepth 20000 in
theorem wc_yX8_sign : Cond.code yX8_sign cX8_sign 2 (some .int) ∈ px_TB := px_t3 219 rfl rfl
set_option maxRecDepth 20000 in
theorem wc_yX8_span : Cond.code yX8_span cX8_span 3 (some .int) ∈ px_TB := px_t3 205 rfl rfl
set_option maxRecDepth 20000 in
theorem wc_yX8_spotOf : Cond.code yX8_spotOf cX8_spotOf 2 (some .int) ∈ px_TB := px_t2 100 rfl rfl
set_option maxRecDepth 20000 in
theorem wc_yX8_still : Cond.code yX8_still cX8_still 2 (some .int) ∈ px_TB := px_t4 8 rfl rfl
set_option maxRecDepth 20000 in
theorem wc_yX8_take : Cond.code yX8_take cX8_take 2 (some .int) ∈ px_TB := px_t2 117 rfl rfl
set_option maxRecDepth 20000 in
theorem wc_yX8_told : Cond.code yX8_told cX8_told 5 (some .int) ∈ px_TB := px_t2 238 rfl rfl
set_option maxRecDepth 20000 in
theorem wc_yX8_word : Cond.code yX8_word cX8_word 2 (some .int) ∈ px_TB := px_t2 64 rfl rfl
set_option maxRecDepth 20000 in
theorem wc_yX9_about : Cond.code yX9_about cX9_about 6 (some .int) ∈ px_TB := px_t5 98 rfl rfl
set_option maxRecDepth 20000 in
theorem wc_yX9_altered : Cond.code yX9_altered cX9_altered 3 (some .int) ∈ px_TB := px_t5 148 rfl rfl
set_option maxRecDepth 20000 in
theorem wc_yX9_answer : Cond.code yX9_answer cX9_answer 11 (some .int) ∈ px_TB := px_t5 50 rfl rfl
set_option maxRecDepth 20000 in
theorem wc_yX9_atFirst : Cond.code yX9_atFirst cX9_atFirst 1 (some .int) ∈ px_TB := px_t4 152 rfl rfl
set_option maxRecDepth 20000 in
theorem wc_yX9_behind : Cond.code yX9_behind cX9_behind 6 (some .int) ∈ px_TB := px_t5 200 rfl rfl
set_option maxRecDepth 20000 in
theorem wc_yX9_clear : Cond.code yX9_clear cX9_clear 2 (some .int) ∈ px_TB := px_t5 235 rfl rfl
set_option maxRecDepth 20000 in
theorem wc_yX9_comesTo : Cond.code yX9_comesTo cX9_comesTo 4 (some .boolean) ∈ px_TB := px_t5 111 rfl rfl
set_option maxRecDepth 20000 in
theorem wc_yX9_count : Cond.code yX9_count cX9_count 9 (some .int) ∈ px_TB := px_t6 11 rfl rfl
set_option maxRecDepth 20000 in
theorem wc_yX9_differ : Cond.code yX9_differ cX9_differ 5 (some .int) ∈ px_TB := px_t5 70 rfl rfl
set_option maxRecDepth 20000 in
theorem wc_yX9_differBy : Cond.code yX9_differBy cX9_differBy 9 (some .int) ∈ px_TB := px_t5 78 rfl rfl
set_option maxRecDepth 20000 in
theorem wc_yX9_echoes : Cond.code yX9_echoes cX9_echoes 6 (some .int) ∈ px_TB := px_t5 156 rfl rfl
set_option maxRecDepth 20000 in
theorem wc_yX9_fault : Cond.code yX9_fault cX9_fault 1 (some .int) ∈ px_TB := px_t6 58 rfl rfl
set_option maxRecDepth 20000 in
theorem wc_yX9_feed : Cond.code yX9_feed cX9_feed 5 (some .int) ∈ px_TB := px_t6 16 rfl rfl
set_option maxRecDepth 20000 in
theorem wc_yX9_findGroups : Cond.code yX9_findGroups cX9_findGroups 4 (none) ∈ px_TB := px_t5 164 rfl rfl
set_option maxRecDepth 20000 in
theorem wc_yX9_findParents : Cond.code yX9_findParents cX9_findParents 4 (none) ∈ px_TB := px_t5 107 rfl rfl
set_option maxRecDepth 20000 in
theorem wc_yX9_findPieces : Cond.code yX9_findPieces cX9_findPieces 4 (none) ∈ px_TB := px_t5 184 rfl rfl
set_option maxRecDepth 20000 in
theorem wc_yX9_findRow : Cond.code yX9_findRow cX9_findRow 7 (none) ∈ px_TB := px_t5 188 rfl rfl
set_option maxRecDepth 20000 in
theorem wc_yX9_fit : Cond.code yX9_fit cX9_fit 3 (some .int) ∈ px_TB := px_t5 82 rfl rfl
set_option maxRecDepth 20000 in
theorem wc_yX9_fitOf : Cond.code yX9_fitOf cX9_fitOf 9 (some .int) ∈ px_TB := px_t5 90 rfl rfl
set_option maxRecDepth 20000 in
theorem wc_yX9_fitting : Cond.code yX9_fitting cX9_fitting 8 (some .int) ∈ px_TB := px_t5 115 rfl rfl
set_option maxRecDepth 20000 in
theorem wc_yX9_group : Cond.code yX9_group cX9_group 2 (some .int) ∈ px_TB := px_t5 160 rfl rfl
set_option maxRecDepth 20000 in
theorem wc_yX9_hasPiece : Cond.code yX9_hasPiece cX9_hasPiece 4 (some .boolean) ∈ px_TB := px_t5 168 rfl rfl
set_option maxRecDepth 20000 in
theorem wc_yX9_hasSigns : Cond.code yX9_hasSigns cX9_hasSigns 5 (some .boolean) ∈ px_TB := px_t6 3 rfl rfl
set_option maxRecDepth 20000 in
theorem wc_yX9_haveCommon : Cond.code yX9_haveCommon cX9_haveCommon 6 (some .boolean) ∈ px_TB := px_t5 176 rfl rfl
set_option maxRecDepth 20000 in
theorem wc_yX9_heldTo : Cond.code yX9_heldTo cX9_heldTo 6 (some .int) ∈ px_TB := px_t5 140 rfl rfl
set_option maxRecDepth 20000 in
theorem wc_yX9_in : Cond.code yX9_in cX9_in 6 (some .boolean) ∈ px_TB := px_t5 30 rfl rfl
set_option maxRecDepth 20000 in
theorem wc_yX9_isAltered : Cond.code yX9_isAltered cX9_isAltered 3 (some .boolean) ∈ px_TB := px_t5 152 rfl rfl
set_option maxRecDepth 20000 in
theorem wc_yX9_isLess : Cond.code yX9_isLess cX9_isLess 6 (some .boolean) ∈ px_TB := px_t5 207 rfl rfl
set_option maxRecDepth 20000 in
theorem wc_yX9_isLike : Cond.code yX9_isLike cX9_isLike 3 (some .boolean) ∈ px_TB := px_t5 94 rfl rfl
set_option maxRecDepth 20000 in
theorem wc_yX9_isPiece : Cond.code yX9_isPiece cX9_isPiece 2 (some .boolean) ∈ px_TB := px_t5 172 rfl rfl
set_option maxRecDepth 20000 in
theorem wc_yX9_isSame : Cond.code yX9_isSame cX9_isSame 5 (some .boolean) ∈ px_TB := px_t5 144 rfl rfl
set_option maxRecDepth 20000 in
theorem wc_yX9_isSeen : Cond.code yX9_isSeen cX9_isSeen 2 (some .boolean) ∈ px_TB := px_t5 86 rfl rfl
set_option maxRecDepth 20000 in
theorem wc_yX9_isWithin : Cond.code yX9_isWithin cX9_isWithin 2 (some .boolean) ∈ px_TB := px_t5 192 rfl rfl
set_option maxRecDepth 20000 in
theorem wc_yX9_isWord : Cond.code yX9_isWord cX9_isWord 9 (some .boolean) ∈ px_TB := px_t6 40 rfl rfl
set_option maxRecDepth 20000 in
theorem wc_yX9_kindOf : Cond.code yX9_kindOf cX9_kindOf 1 (some .int) ∈ px_TB := px_t6 36 rfl rfl
set_option maxRecDepth 20000 in
theorem wc_yX9_known : Cond.code yX9_known cX9_known 2 (some .int) ∈ px_TB := px_t5 66 rfl rfl
set_option maxRecDepth 20000 in
theorem wc_yX9_letter : Cond.code yX9_letter cX9_letter 4 (some .int) ∈ px_TB := px_t5 34 rfl rfl
set_option maxRecDepth 20000 in
theorem wc_yX9_line : Cond.code yX9_line cX9_line 5 (some .int) ∈ px_TB := px_t5 45 rfl rfl
set_option maxRecDepth 20000 in
theorem wc_yX9_look : Cond.code yX9_look cX9_look 1 (some .int) ∈ px_TB := px_t6 26 rfl rfl
set_option maxRecDepth 20000 in
theorem wc_yX9_lost : Cond.code yX9_lost cX9_lost 3 (some .int) ∈ px_TB := px_t5 180 rfl rfl
set_option maxRecDepth 20000 in
theorem wc_yX9_lostWord : Cond.code yX9_lostWord cX9_lostWord 5 (some .int) ∈ px_TB := px_t5 211 rfl rfl
set_option maxRecDepth 20000 in
theorem wc_yX9_noLetter : Cond.code yX9_noLetter cX9_noLetter 2 (some .boolean) ∈ px_TB := px_t5 38 rfl rfl
set_option maxRecDepth 20000 in
theorem wc_yX9_noLine : Cond.code yX9_noLine cX9_noLine 3 (some .boolean) ∈ px_TB := px_t5 74 rfl rfl
set_option maxRecDepth 20000 in
theorem wc_yX9_one : Cond.code yX9_one cX9_one 1 (some .int) ∈ px_TB := px_t5 54 rfl rfl
set_option maxRecDepth 20000 in
theorem wc_yX9_order : Cond.code yX9_order cX9_order 9 (some .int) ∈ px_TB := px_t5 215 rfl rfl
set_option maxRecDepth 20000 in
theorem wc_yX9_origin : Cond.code yX9_origin cX9_origin 5 (some .int) ∈ px_TB := px_t5 131 rfl rfl
set_option maxRecDepth 20000 in
theorem wc_yX9_originOf : Cond.code yX9_originOf cX9_originOf 3 (some .int) ∈ px_TB := px_t5 136 rfl rfl
set_option maxRecDepth 20000 in
theorem wc_yX9_put : Cond.code yX9_put cX9_put 2 (some .int) ∈ px_TB := px_t5 62 rfl rfl
set_option maxRecDepth 20000 in
theorem wc_yX9_quarrel : Cond.code yX9_quarrel cX9_quarrel 4 (some .int) ∈ px_TB := px_t5 219 rfl rfl
set_option maxRecDepth 20000 in
theorem wc_yX9_quarrels : Cond.code yX9_quarrels cX9_quarrels 3 (some .boolean) ∈ px_TB := px_t5 223 rfl rfl
set_option maxRecDepth 20000 in
theorem wc_yX9_quoted : Cond.code yX9_quoted cX9_quoted 4 (some .int) ∈ px_TB := px_t5 103 rfl rfl
set_option maxRecDepth 20000 in
theorem wc_yX9_read : Cond.code yX9_read cX9_read 4 (some .int) ∈ px_TB := px_t6 22 rfl rfl
set_option maxRecDepth 20000 in
theorem wc_yX9_readClause : Cond.code yX9_readClause cX9_readClause 4 (none) ∈ px_TB := px_t6 48 rfl rfl
set_option maxRecDepth 20000 in
theorem wc_yX9_rootOf : Cond.code yX9_rootOf cX9_rootOf 3 (some .int) ∈ px_TB := px_t5 119 rfl rfl
set_option maxRecDepth 20000 in
theorem wc_yX9_rule : Cond.code yX9_rule cX9_rule 2 (some .int) ∈ px_TB := px_t6 62 rfl rfl
set_option maxRecDepth 20000 in
theorem wc_yX9_seek : Cond.code yX9_seek cX9_seek 10 (some .int) ∈ px_TB := px_t5 239 rfl rfl
set_option maxRecDepth 20000 in
theorem wc_yX9_sign : Cond.code yX9_sign cX9_sign 2 (some .int) ∈ px_TB := px_t5 231 rfl rfl
set_option maxRecDepth 20000 in
theorem wc_yX9_span : Cond.code yX9_span cX9_span 6 (some .int) ∈ px_TB := px_t5 227 rfl rfl
set_option maxRecDepth 20000 in
theorem wc_yX9_step : Cond.code yX9_step cX9_step 1 (some .int) ∈ px_TB := px_t5 203 rfl rfl
set_option maxRecDepth 20000 in
theorem wc_yX9_stepsOf : Cond.code yX9_stepsOf cX9_stepsOf 4 (some .int) ∈ px_TB := px_t5 123 rfl rfl
set_option maxRecDepth 20000 in
theorem wc_yX9_still : Cond.code yX9_still cX9_still 7 (some .int) ∈ px_TB := px_t6 7 rfl rfl
set_option maxRecDepth 20000 in
theorem wc_yX9_take : Cond.code yX9_take cX9_take 2 (some .int) ∈ px_TB := px_t5 58 rfl rfl
set_option maxRecDepth 20000 in
theorem wc_yX9_takeNumber : Cond.code yX9_takeNumber cX9_takeNumber 6 (some .int) ∈ px_TB := px_t6 52 rfl rfl
set_option maxRecDepth 20000 in
theorem wc_yX9_takeWord : Cond.code yX9_takeWord cX9_takeWord 2 (none) ∈ px_TB := px_t6 30 rfl rfl
set_option maxRecDepth 20000 in
theorem wc_yX9_textAt : Cond.code yX9_textAt cX9_textAt 4 (some .int) ∈ px_TB := px_t5 196 rfl rfl
set_option maxRecDepth 20000 in
theorem wc_yX9_told : Cond.code yX9_told cX9_told 5 (some .int) ∈ px_TB := px_t5 127 rfl rfl
set_option maxRecDepth 20000 in
theorem wc_yX9_want : Cond.code yX9_want cX9_want 4 (some .boolean) ∈ px_TB := px_t6 44 rfl rfl
set_option maxRecDepth 20000 in
theorem wc_yX9_word : Cond.code yX9_word cX9_word 2 (some .int) ∈ px_TB := px_t5 26 rfl rfl
set_option maxRecDepth 20000 in
theorem wf_RJ0_1053 : Cond.fieldLink RJ0 1053 RJ3 "SIOOBE_FORMATTER" "Ljava/util/function/BiFunction;" ∈ px_TB := px_t4 83 rfl rfl
set_option maxRecDepth 20000 in
theorem wf_RJ0_15 : Cond.fieldLink RJ0 15 RJ0 "coder" "B" ∈ px_TB := px_t6 65 rfl rfl
set_option maxRecDepth 20000 in
theorem wf_RJ0_38 : Cond.fieldLink RJ0 38 RJ0 "COMPACT_STRINGS" "Z" ∈ px_TB := px_t4 67 rfl rfl
set_option maxRecDepth 20000 in
theorem wf_RJ0_9 : Cond.fieldLink RJ0 9 RJ0 "value" "[B" ∈ px_TB := px_t6 64 rfl rfl
set_option maxRecDepth 20000 in
theorem wf_RX0_15 : Cond.fieldLink RX0 15 RX0 "pairs" "[I" ∈ px_TB := px_t1 105 rfl rfl
set_option maxRecDepth 20000 in
theorem wf_RX0_18 : Cond.fieldLink RX0 18 RX0 "changes" "[I" ∈ px_TB := px_t1 106 rfl rfl
set_option maxRecDepth 20000 in
theorem wf_RX0_21 : Cond.fieldLink RX0 21 RX0 "heap" "LQuotedLetters$Heap;" ∈ px_TB := px_t1 102 rfl rfl
set_option maxRecDepth 20000 in
theorem wf_RX0_25 : Cond.fieldLink RX0 25 RX0 "rules" "[I" ∈ px_TB := px_t1 103 rfl rfl
set_option maxRecDepth 20000 in
theorem wf_RX0_38 : Cond.fieldLink RX0 38 RX1 "lines" "[I" ∈ px_TB := px_t1 47 rfl rfl
set_option maxRecDepth 20000 in
theorem wf_RX0_55 : Cond.fieldLink RX0 55 RX1 "depth" "[I" ∈ px_TB := px_t1 54 rfl rfl
set_option maxRecDepth 20000 in
theorem wf_RX0_58 : Cond.fieldLink RX0 58 RX1 "text" "[J" ∈ px_TB := px_t1 59 rfl rfl
set_option maxRecDepth 20000 in
theorem wf_RX0_9 : Cond.fieldLink RX0 9 RX0 "measured" "[I" ∈ px_TB := px_t1 104 rfl rfl
set_option maxRecDepth 20000 in
theorem wf_RX1_15 : Cond.fieldLink RX1 15 RX1 "day" "[I" ∈ px_TB := px_t1 39 rfl rfl
set_option maxRecDepth 20000 in
theorem wf_RX1_18 : Cond.fieldLink RX1 18 RX1 "names" "[I" ∈ px_TB := px_t1 42 rfl rfl
set_option maxRecDepth 20000 in
theorem wf_RX1_21 : Cond.fieldLink RX1 21 RX1 "lines" "[I" ∈ px_TB := px_t1 45 rfl rfl
set_option maxRecDepth 20000 in
theorem wf_RX1_24 : Cond.fieldLink RX1 24 RX1 "quoted" "[I" ∈ px_TB := px_t1 50 rfl rfl
set_option maxRecDepth 20000 in
theorem wf_RX1_27 : Cond.fieldLink RX1 27 RX1 "depth" "[I" ∈ px_TB := px_t1 53 rfl rfl
set_option maxRecDepth 20000 in
theorem wf_RX1_30 : Cond.fieldLink RX1 30 RX1 "text" "[J" ∈ px_TB := px_t1 58 rfl rfl
set_option maxRecDepth 20000 in
theorem wf_RX1_34 : Cond.fieldLink RX1 34 RX1 "limit" "I" ∈ px_TB := px_t1 67 rfl rfl
set_option maxRecDepth 20000 in
theorem wf_RX1_38 : Cond.fieldLink RX1 38 RX1 "letters" "I" ∈ px_TB := px_t1 63 rfl rfl
set_option maxRecDepth 20000 in
theorem wf_RX1_45 : Cond.fieldLink RX1 45 RX1 "taken" "J" ∈ px_TB := px_t1 69 rfl rfl
set_option maxRecDepth 20000 in
theorem wf_RX1_9 : Cond.fieldLink RX1 9 RX1 "writer" "[I" ∈ px_TB := px_t1 37 rfl rfl
set_option maxRecDepth 20000 in
theorem wf_RX2_101 : Cond.fieldLink RX2 101 RX1 "text" "[J" ∈ px_TB := px_t1 61 rfl rfl
set_option maxRecDepth 20000 in
theorem wf_RX2_15 : Cond.fieldLink RX2 15 RX2 "held" "[I" ∈ px_TB := px_t1 129 rfl rfl
set_option maxRecDepth 20000 in
theorem wf_RX2_18 : Cond.fieldLink RX2 18 RX2 "builtWith" "I" ∈ px_TB := px_t1 133 rfl rfl
set_option maxRecDepth 20000 in
theorem wf_RX2_22 : Cond.fieldLink RX2 22 RX2 "heap" "LQuotedLetters$Heap;" ∈ px_TB := px_t1 124 rfl rfl
set_option maxRecDepth 20000 in
theorem wf_RX2_26 : Cond.fieldLink RX2 26 RX2 "fits" "LQuotedLetters$Fits;" ∈ px_TB := px_t1 125 rfl rfl
set_option maxRecDepth 20000 in
theorem wf_RX2_30 : Cond.fieldLink RX2 30 RX2 "rules" "[I" ∈ px_TB := px_t1 126 rfl rfl
set_option maxRecDepth 20000 in
theorem wf_RX2_33 : Cond.fieldLink RX2 33 RX2 "fresh" "Z" ∈ px_TB := px_t1 131 rfl rfl
set_option maxRecDepth 20000 in
theorem wf_RX2_37 : Cond.fieldLink RX2 37 RX2 "seen" "J" ∈ px_TB := px_t1 134 rfl rfl
set_option maxRecDepth 20000 in
theorem wf_RX2_41 : Cond.fieldLink RX2 41 RX1 "letters" "I" ∈ px_TB := px_t1 64 rfl rfl
set_option maxRecDepth 20000 in
theorem wf_RX2_62 : Cond.fieldLink RX2 62 RX1 "names" "[I" ∈ px_TB := px_t1 43 rfl rfl
set_option maxRecDepth 20000 in
theorem wf_RX2_71 : Cond.fieldLink RX2 71 RX1 "quoted" "[I" ∈ px_TB := px_t1 51 rfl rfl
set_option maxRecDepth 20000 in
theorem wf_RX2_86 : Cond.fieldLink RX2 86 RX1 "day" "[I" ∈ px_TB := px_t1 40 rfl rfl
set_option maxRecDepth 20000 in
theorem wf_RX2_89 : Cond.fieldLink RX2 89 RX1 "lines" "[I" ∈ px_TB := px_t1 49 rfl rfl
set_option maxRecDepth 20000 in
theorem wf_RX2_9 : Cond.fieldLink RX2 9 RX2 "parent" "[I" ∈ px_TB := px_t1 127 rfl rfl
set_option maxRecDepth 20000 in
theorem wf_RX2_95 : Cond.fieldLink RX2 95 RX1 "depth" "[I" ∈ px_TB := px_t1 56 rfl rfl
set_option maxRecDepth 20000 in
theorem wf_RX3_105 : Cond.fieldLink RX3 105 RX5 "rowLength" "I" ∈ px_TB := px_t1 170 rfl rfl
set_option maxRecDepth 20000 in
theorem wf_RX3_108 : Cond.fieldLink RX3 108 RX5 "row" "[J" ∈ px_TB := px_t1 168 rfl rfl
set_option maxRecDepth 20000 in
theorem wf_RX3_12 : Cond.fieldLink RX3 12 RX3 "finder" "LQuotedLetters$RowFinder;" ∈ px_TB := px_t1 190 rfl rfl
set_option maxRecDepth 20000 in
theorem wf_RX3_18 : Cond.fieldLink RX3 18 RX3 "groupOf" "[I" ∈ px_TB := px_t1 191 rfl rfl
set_option maxRecDepth 20000 in
theorem wf_RX3_22 : Cond.fieldLink RX3 22 RX3 "pieces" "[I" ∈ px_TB := px_t1 193 rfl rfl
set_option maxRecDepth 20000 in
theorem wf_RX3_25 : Cond.fieldLink RX3 25 RX3 "least" "[I" ∈ px_TB := px_t1 195 rfl rfl
set_option maxRecDepth 20000 in
theorem wf_RX3_28 : Cond.fieldLink RX3 28 RX3 "members" "[I" ∈ px_TB := px_t1 197 rfl rfl
set_option maxRecDepth 20000 in
theorem wf_RX3_31 : Cond.fieldLink RX3 31 RX3 "groupOfRow" "I" ∈ px_TB := px_t1 202 rfl rfl
set_option maxRecDepth 20000 in
theorem wf_RX3_35 : Cond.fieldLink RX3 35 RX3 "heap" "LQuotedLetters$Heap;" ∈ px_TB := px_t1 188 rfl rfl
set_option maxRecDepth 20000 in
theorem wf_RX3_39 : Cond.fieldLink RX3 39 RX3 "kin" "LQuotedLetters$Kin;" ∈ px_TB := px_t1 189 rfl rfl
set_option maxRecDepth 20000 in
theorem wf_RX3_43 : Cond.fieldLink RX3 43 RX3 "groups" "I" ∈ px_TB := px_t1 198 rfl rfl
set_option maxRecDepth 20000 in
theorem wf_RX3_46 : Cond.fieldLink RX3 46 RX3 "fresh" "Z" ∈ px_TB := px_t1 200 rfl rfl
set_option maxRecDepth 20000 in
theorem wf_RX3_56 : Cond.fieldLink RX3 56 RX1 "letters" "I" ∈ px_TB := px_t1 66 rfl rfl
set_option maxRecDepth 20000 in
theorem wf_RX3_81 : Cond.fieldLink RX3 81 RX1 "depth" "[I" ∈ px_TB := px_t1 55 rfl rfl
set_option maxRecDepth 20000 in
theorem wf_RX3_84 : Cond.fieldLink RX3 84 RX2 "held" "[I" ∈ px_TB := px_t1 130 rfl rfl
set_option maxRecDepth 20000 in
theorem wf_RX3_87 : Cond.fieldLink RX3 87 RX1 "lines" "[I" ∈ px_TB := px_t1 48 rfl rfl
set_option maxRecDepth 20000 in
theorem wf_RX3_93 : Cond.fieldLink RX3 93 RX1 "text" "[J" ∈ px_TB := px_t1 60 rfl rfl
set_option maxRecDepth 20000 in
theorem wf_RX4_15 : Cond.fieldLink RX4 15 RX4 "length" "I" ∈ px_TB := px_t1 231 rfl rfl
set_option maxRecDepth 20000 in
theorem wf_RX4_9 : Cond.fieldLink RX4 9 RX4 "signs" "[I" ∈ px_TB := px_t1 230 rfl rfl
set_option maxRecDepth 20000 in
theorem wf_RX5_11 : Cond.fieldLink RX5 11 RX5 "texts" "[J" ∈ px_TB := px_t1 164 rfl rfl
set_option maxRecDepth 20000 in
theorem wf_RX5_15 : Cond.fieldLink RX5 15 RX5 "lengths" "[I" ∈ px_TB := px_t1 165 rfl rfl
set_option maxRecDepth 20000 in
theorem wf_RX5_19 : Cond.fieldLink RX5 19 RX5 "heads" "[J" ∈ px_TB := px_t1 166 rfl rfl
set_option maxRecDepth 20000 in
theorem wf_RX5_22 : Cond.fieldLink RX5 22 RX5 "row" "[J" ∈ px_TB := px_t1 167 rfl rfl
set_option maxRecDepth 20000 in
theorem wf_RX5_25 : Cond.fieldLink RX5 25 RX5 "cells" "[I" ∈ px_TB := px_t1 172 rfl rfl
set_option maxRecDepth 20000 in
theorem wf_RX5_28 : Cond.fieldLink RX5 28 RX5 "pieces" "I" ∈ px_TB := px_t1 171 rfl rfl
set_option maxRecDepth 20000 in
theorem wf_RX5_57 : Cond.fieldLink RX5 57 RX5 "rowLength" "I" ∈ px_TB := px_t1 169 rfl rfl
set_option maxRecDepth 20000 in
theorem wf_RX6_15 : Cond.fieldLink RX6 15 RX6 "value" "[I" ∈ px_TB := px_t2 5 rfl rfl
set_option maxRecDepth 20000 in
theorem wf_RX6_18 : Cond.fieldLink RX6 18 RX6 "faultAt" "I" ∈ px_TB := px_t2 9 rfl rfl
set_option maxRecDepth 20000 in
theorem wf_RX6_22 : Cond.fieldLink RX6 22 RX6 "length" "I" ∈ px_TB := px_t2 7 rfl rfl
set_option maxRecDepth 20000 in
theorem wf_RX6_34 : Cond.fieldLink RX6 34 RX6 "position" "I" ∈ px_TB := px_t2 13 rfl rfl
set_option maxRecDepth 20000 in
theorem wf_RX6_37 : Cond.fieldLink RX6 37 RX6 "toldKinds" "I" ∈ px_TB := px_t2 14 rfl rfl
set_option maxRecDepth 20000 in
theorem wf_RX6_40 : Cond.fieldLink RX6 40 RX6 "faultKind" "I" ∈ px_TB := px_t2 11 rfl rfl
set_option maxRecDepth 20000 in
theorem wf_RX6_9 : Cond.fieldLink RX6 9 RX6 "bytes" "[I" ∈ px_TB := px_t2 4 rfl rfl
set_option maxRecDepth 20000 in
theorem wf_RX8_107 : Cond.fieldLink RX8 107 RX1 "lines" "[I" ∈ px_TB := px_t1 46 rfl rfl
set_option maxRecDepth 20000 in
theorem wf_RX8_128 : Cond.fieldLink RX8 128 RX1 "limit" "I" ∈ px_TB := px_t1 68 rfl rfl
set_option maxRecDepth 20000 in
theorem wf_RX8_131 : Cond.fieldLink RX8 131 RX1 "writer" "[I" ∈ px_TB := px_t1 38 rfl rfl
set_option maxRecDepth 20000 in
theorem wf_RX8_134 : Cond.fieldLink RX8 134 RX1 "day" "[I" ∈ px_TB := px_t1 41 rfl rfl
set_option maxRecDepth 20000 in
theorem wf_RX8_137 : Cond.fieldLink RX8 137 RX1 "names" "[I" ∈ px_TB := px_t1 44 rfl rfl
set_option maxRecDepth 20000 in
theorem wf_RX8_140 : Cond.fieldLink RX8 140 RX1 "quoted" "[I" ∈ px_TB := px_t1 52 rfl rfl
set_option maxRecDepth 20000 in
theorem wf_RX8_160 : Cond.fieldLink RX8 160 RX1 "depth" "[I" ∈ px_TB := px_t1 57 rfl rfl
set_option maxRecDepth 20000 in
theorem wf_RX8_163 : Cond.fieldLink RX8 163 RX1 "text" "[J" ∈ px_TB := px_t1 62 rfl rfl
set_option maxRecDepth 20000 in
theorem wf_RX8_186 : Cond.fieldLink RX8 186 RX4 "length" "I" ∈ px_TB := px_t1 232 rfl rfl
set_option maxRecDepth 20000 in
theorem wf_RX8_189 : Cond.fieldLink RX8 189 RX6 "length" "I" ∈ px_TB := px_t2 8 rfl rfl
set_option maxRecDepth 20000 in
theorem wf_RX8_205 : Cond.fieldLink RX8 205 RX3 "groupOf" "[I" ∈ px_TB := px_t1 192 rfl rfl
set_option maxRecDepth 20000 in
theorem wf_RX8_209 : Cond.fieldLink RX8 209 RX3 "pieces" "[I" ∈ px_TB := px_t1 194 rfl rfl
set_option maxRecDepth 20000 in
theorem wf_RX8_212 : Cond.fieldLink RX8 212 RX3 "least" "[I" ∈ px_TB := px_t1 196 rfl rfl
set_option maxRecDepth 20000 in
theorem wf_RX8_25 : Cond.fieldLink RX8 25 RX8 "heap" "LQuotedLetters$Heap;" ∈ px_TB := px_t2 31 rfl rfl
set_option maxRecDepth 20000 in
theorem wf_RX8_257 : Cond.fieldLink RX8 257 RX6 "faultAt" "I" ∈ px_TB := px_t2 10 rfl rfl
set_option maxRecDepth 20000 in
theorem wf_RX8_260 : Cond.fieldLink RX8 260 RX6 "faultKind" "I" ∈ px_TB := px_t2 12 rfl rfl
set_option maxRecDepth 20000 in
theorem wf_RX8_263 : Cond.fieldLink RX8 263 RX6 "value" "[I" ∈ px_TB := px_t2 6 rfl rfl
set_option maxRecDepth 20000 in
theorem wf_RX8_269 : Cond.fieldLink RX8 269 RX2 "fresh" "Z" ∈ px_TB := px_t1 132 rfl rfl
set_option maxRecDepth 20000 in
theorem wf_RX8_273 : Cond.fieldLink RX8 273 RX3 "fresh" "Z" ∈ px_TB := px_t1 201 rfl rfl
set_option maxRecDepth 20000 in
theorem wf_RX8_274 : Cond.fieldLink RX8 274 RX2 "parent" "[I" ∈ px_TB := px_t1 128 rfl rfl
set_option maxRecDepth 20000 in
theorem wf_RX8_295 : Cond.fieldLink RX8 295 RX3 "groups" "I" ∈ px_TB := px_t1 199 rfl rfl
set_option maxRecDepth 20000 in
theorem wf_RX8_34 : Cond.fieldLink RX8 34 RX8 "fits" "LQuotedLetters$Fits;" ∈ px_TB := px_t2 32 rfl rfl
set_option maxRecDepth 20000 in
theorem wf_RX8_43 : Cond.fieldLink RX8 43 RX8 "now" "LQuotedLetters$Kin;" ∈ px_TB := px_t2 33 rfl rfl
set_option maxRecDepth 20000 in
theorem wf_RX8_47 : Cond.fieldLink RX8 47 RX8 "trial" "LQuotedLetters$Kin;" ∈ px_TB := px_t2 34 rfl rfl
set_option maxRecDepth 20000 in
theorem wf_RX8_55 : Cond.fieldLink RX8 55 RX8 "losts" "LQuotedLetters$LostLetters;" ∈ px_TB := px_t2 35 rfl rfl
set_option maxRecDepth 20000 in
theorem wf_RX8_62 : Cond.fieldLink RX8 62 RX8 "pattern" "LQuotedLetters$Pattern;" ∈ px_TB := px_t2 36 rfl rfl
set_option maxRecDepth 20000 in
theorem wf_RX8_69 : Cond.fieldLink RX8 69 RX8 "ruleText" "LQuotedLetters$RuleText;" ∈ px_TB := px_t2 37 rfl rfl
set_option maxRecDepth 20000 in
theorem wf_RX8_73 : Cond.fieldLink RX8 73 RX8 "draftWords" "I" ∈ px_TB := px_t2 39 rfl rfl
set_option maxRecDepth 20000 in
theorem wf_RX8_77 : Cond.fieldLink RX8 77 RX8 "draft" "J" ∈ px_TB := px_t2 38 rfl rfl
set_option maxRecDepth 20000 in
theorem wf_RX8_9 : Cond.fieldLink RX8 9 RX8 "rules" "[I" ∈ px_TB := px_t2 30 rfl rfl
set_option maxRecDepth 20000 in
theorem wf_RX8_97 : Cond.fieldLink RX8 97 RX1 "letters" "I" ∈ px_TB := px_t1 65 rfl rfl
set_option maxRecDepth 20000 in
theorem wf_RX9_105 : Cond.fieldLink RX9 105 RX9 "drafts" "I" ∈ px_TB := px_t4 163 rfl rfl
set_option maxRecDepth 20000 in
theorem wf_RX9_13 : Cond.fieldLink RX9 13 RX9 "writer" "[I" ∈ px_TB := px_t4 155 rfl rfl
set_option maxRecDepth 20000 in
theorem wf_RX9_16 : Cond.fieldLink RX9 16 RX9 "day" "[I" ∈ px_TB := px_t4 156 rfl rfl
set_option maxRecDepth 20000 in
theorem wf_RX9_184 : Cond.fieldLink RX9 184 RX9 "groups" "I" ∈ px_TB := px_t4 171 rfl rfl
set_option maxRecDepth 20000 in
theorem wf_RX9_19 : Cond.fieldLink RX9 19 RX9 "names" "[I" ∈ px_TB := px_t4 157 rfl rfl
set_option maxRecDepth 20000 in
theorem wf_RX9_190 : Cond.fieldLink RX9 190 RX9 "pieces" "I" ∈ px_TB := px_t4 175 rfl rfl
set_option maxRecDepth 20000 in
theorem wf_RX9_205 : Cond.fieldLink RX9 205 RX9 "rowSize" "I" ∈ px_TB := px_t4 178 rfl rfl
set_option maxRecDepth 20000 in
theorem wf_RX9_22 : Cond.fieldLink RX9 22 RX9 "size" "[I" ∈ px_TB := px_t4 158 rfl rfl
set_option maxRecDepth 20000 in
theorem wf_RX9_221 : Cond.fieldLink RX9 221 RX9 "signs" "I" ∈ px_TB := px_t4 179 rfl rfl
set_option maxRecDepth 20000 in
theorem wf_RX9_229 : Cond.fieldLink RX9 229 RX9 "textSize" "I" ∈ px_TB := px_t4 182 rfl rfl
set_option maxRecDepth 20000 in
theorem wf_RX9_236 : Cond.fieldLink RX9 236 RX9 "here" "I" ∈ px_TB := px_t4 183 rfl rfl
set_option maxRecDepth 20000 in
theorem wf_RX9_239 : Cond.fieldLink RX9 239 RX9 "faultOf" "I" ∈ px_TB := px_t4 184 rfl rfl
set_option maxRecDepth 20000 in
theorem wf_RX9_246 : Cond.fieldLink RX9 246 RX9 "begin" "I" ∈ px_TB := px_t4 186 rfl rfl
set_option maxRecDepth 20000 in
theorem wf_RX9_25 : Cond.fieldLink RX9 25 RX9 "isTaken" "[Z" ∈ px_TB := px_t4 159 rfl rfl
set_option maxRecDepth 20000 in
theorem wf_RX9_253 : Cond.fieldLink RX9 253 RX9 "many" "I" ∈ px_TB := px_t4 187 rfl rfl
set_option maxRecDepth 20000 in
theorem wf_RX9_29 : Cond.fieldLink RX9 29 RX9 "depth" "[I" ∈ px_TB := px_t4 160 rfl rfl
set_option maxRecDepth 20000 in
theorem wf_RX9_32 : Cond.fieldLink RX9 32 RX9 "words" "[I" ∈ px_TB := px_t4 161 rfl rfl
set_option maxRecDepth 20000 in
theorem wf_RX9_35 : Cond.fieldLink RX9 35 RX9 "word" "[I" ∈ px_TB := px_t4 162 rfl rfl
set_option maxRecDepth 20000 in
theorem wf_RX9_38 : Cond.fieldLink RX9 38 RX9 "draft" "[I" ∈ px_TB := px_t4 164 rfl rfl
set_option maxRecDepth 20000 in
theorem wf_RX9_41 : Cond.fieldLink RX9 41 RX9 "knownBy" "I" ∈ px_TB := px_t4 165 rfl rfl
set_option maxRecDepth 20000 in
theorem wf_RX9_45 : Cond.fieldLink RX9 45 RX9 "asIf" "I" ∈ px_TB := px_t4 166 rfl rfl
set_option maxRecDepth 20000 in
theorem wf_RX9_48 : Cond.fieldLink RX9 48 RX9 "far" "[I" ∈ px_TB := px_t4 167 rfl rfl
set_option maxRecDepth 20000 in
theorem wf_RX9_51 : Cond.fieldLink RX9 51 RX9 "pairs" "[I" ∈ px_TB := px_t4 168 rfl rfl
set_option maxRecDepth 20000 in
theorem wf_RX9_54 : Cond.fieldLink RX9 54 RX9 "parent" "[I" ∈ px_TB := px_t4 169 rfl rfl
set_option maxRecDepth 20000 in
theorem wf_RX9_57 : Cond.fieldLink RX9 57 RX9 "groupOf" "[I" ∈ px_TB := px_t4 170 rfl rfl
set_option maxRecDepth 20000 in
theorem wf_RX9_60 : Cond.fieldLink RX9 60 RX9 "pieceOf" "[I" ∈ px_TB := px_t4 172 rfl rfl
set_option maxRecDepth 20000 in
theorem wf_RX9_63 : Cond.fieldLink RX9 63 RX9 "pieceSize" "[I" ∈ px_TB := px_t4 173 rfl rfl
set_option maxRecDepth 20000 in
theorem wf_RX9_66 : Cond.fieldLink RX9 66 RX9 "piece" "[I" ∈ px_TB := px_t4 174 rfl rfl
set_option maxRecDepth 20000 in
theorem wf_RX9_7 : Cond.fieldLink RX9 7 RX9 "rules" "[I" ∈ px_TB := px_t4 153 rfl rfl
set_option maxRecDepth 20000 in
theorem wf_RX9_70 : Cond.fieldLink RX9 70 RX9 "wanted" "[I" ∈ px_TB := px_t4 176 rfl rfl
set_option maxRecDepth 20000 in
theorem wf_RX9_73 : Cond.fieldLink RX9 73 RX9 "row" "[I" ∈ px_TB := px_t4 177 rfl rfl
set_option maxRecDepth 20000 in
theorem wf_RX9_76 : Cond.fieldLink RX9 76 RX9 "sign" "[I" ∈ px_TB := px_t4 180 rfl rfl
set_option maxRecDepth 20000 in
theorem wf_RX9_79 : Cond.fieldLink RX9 79 RX9 "text" "[I" ∈ px_TB := px_t4 181 rfl rfl
set_option maxRecDepth 20000 in
theorem wf_RX9_82 : Cond.fieldLink RX9 82 RX9 "place" "I" ∈ px_TB := px_t4 185 rfl rfl
set_option maxRecDepth 20000 in
theorem wf_RX9_85 : Cond.fieldLink RX9 85 RX9 "newRules" "[I" ∈ px_TB := px_t4 188 rfl rfl
set_option maxRecDepth 20000 in
theorem wf_RX9_92 : Cond.fieldLink RX9 92 RX9 "letters" "I" ∈ px_TB := px_t4 154 rfl rfl
set_option maxRecDepth 20000 in
theorem wi_yJ0_charAt_5068e : Cond.instanceMethod yJ0_charAt_5068e ∈ px_TB := px_t4 70 rfl rfl
set_option maxRecDepth 20000 in
theorem wi_yJ0_coder_7d493 : Cond.instanceMethod yJ0_coder_7d493 ∈ px_TB := px_t4 64 rfl rfl
set_option maxRecDepth 20000 in
theorem wi_yJ0_isLatin1_aae02 : Cond.instanceMethod yJ0_isLatin1_aae02 ∈ px_TB := px_t4 74 rfl rfl
set_option maxRecDepth 20000 in
theorem wi_yJ0_length_8abf5 : Cond.instanceMethod yJ0_length_8abf5 ∈ px_TB := px_t4 60 rfl rfl
set_option maxRecDepth 20000 in
theorem wi_yX0_distance : Cond.instanceMethod yX0_distance ∈ px_TB := px_t2 190 rfl rfl
set_option maxRecDepth 20000 in
theorem wi_yX0_forgetAll : Cond.instanceMethod yX0_forgetAll ∈ px_TB := px_t4 131 rfl rfl
set_option maxRecDepth 20000 in
theorem wi_yX0_forgetLetter : Cond.instanceMethod yX0_forgetLetter ∈ px_TB := px_t2 102 rfl rfl
set_option maxRecDepth 20000 in
theorem wi_yX0_isLike : Cond.instanceMethod yX0_isLike ∈ px_TB := px_t2 186 rfl rfl
set_option maxRecDepth 20000 in
theorem wi_yX0_mostPairs : Cond.instanceMethod yX0_mostPairs ∈ px_TB := px_t2 179 rfl rfl
set_option maxRecDepth 20000 in
theorem wi_yX0_of : Cond.instanceMethod yX0_of ∈ px_TB := px_t2 174 rfl rfl
set_option maxRecDepth 20000 in
theorem wi_yX1_addLetter : Cond.instanceMethod yX1_addLetter ∈ px_TB := px_t2 87 rfl rfl
set_option maxRecDepth 20000 in
theorem wi_yX1_addLine : Cond.instanceMethod yX1_addLine ∈ px_TB := px_t2 95 rfl rfl
set_option maxRecDepth 20000 in
theorem wi_yX1_has : Cond.instanceMethod yX1_has ∈ px_TB := px_t2 73 rfl rfl
set_option maxRecDepth 20000 in
theorem wi_yX1_hasLine : Cond.instanceMethod yX1_hasLine ∈ px_TB := px_t3 0 rfl rfl
set_option maxRecDepth 20000 in
theorem wi_yX1_isSeen : Cond.instanceMethod yX1_isSeen ∈ px_TB := px_t2 139 rfl rfl
set_option maxRecDepth 20000 in
theorem wi_yX1_isSeenWith : Cond.instanceMethod yX1_isSeenWith ∈ px_TB := px_t2 143 rfl rfl
set_option maxRecDepth 20000 in
theorem wi_yX1_isTaken : Cond.instanceMethod yX1_isTaken ∈ px_TB := px_t2 119 rfl rfl
set_option maxRecDepth 20000 in
theorem wi_yX1_quoteInto : Cond.instanceMethod yX1_quoteInto ∈ px_TB := px_t2 110 rfl rfl
set_option maxRecDepth 20000 in
theorem wi_yX1_seenLetters : Cond.instanceMethod yX1_seenLetters ∈ px_TB := px_t3 24 rfl rfl
set_option maxRecDepth 20000 in
theorem wi_yX1_turnTaken : Cond.instanceMethod yX1_turnTaken ∈ px_TB := px_t2 123 rfl rfl
set_option maxRecDepth 20000 in
theorem wi_yX2_alteredLines : Cond.instanceMethod yX2_alteredLines ∈ px_TB := px_t3 37 rfl rfl
set_option maxRecDepth 20000 in
theorem wi_yX2_childrenOf : Cond.instanceMethod yX2_childrenOf ∈ px_TB := px_t2 226 rfl rfl
set_option maxRecDepth 20000 in
theorem wi_yX2_findHeld : Cond.instanceMethod yX2_findHeld ∈ px_TB := px_t2 210 rfl rfl
set_option maxRecDepth 20000 in
theorem wi_yX2_findParent : Cond.instanceMethod yX2_findParent ∈ px_TB := px_t2 158 rfl rfl
set_option maxRecDepth 20000 in
theorem wi_yX2_greatestDayAbove : Cond.instanceMethod yX2_greatestDayAbove ∈ px_TB := px_t3 207 rfl rfl
set_option maxRecDepth 20000 in
theorem wi_yX2_holdLines : Cond.instanceMethod yX2_holdLines ∈ px_TB := px_t2 205 rfl rfl
set_option maxRecDepth 20000 in
theorem wi_yX2_isAfter : Cond.instanceMethod yX2_isAfter ∈ px_TB := px_t2 171 rfl rfl
set_option maxRecDepth 20000 in
theorem wi_yX2_isAltered : Cond.instanceMethod yX2_isAltered ∈ px_TB := px_t3 41 rfl rfl
set_option maxRecDepth 20000 in
theorem wi_yX2_isFree : Cond.instanceMethod yX2_isFree ∈ px_TB := px_t2 163 rfl rfl
set_option maxRecDepth 20000 in
theorem wi_yX2_isQuarrel : Cond.instanceMethod yX2_isQuarrel ∈ px_TB := px_t3 85 rfl rfl
set_option maxRecDepth 20000 in
theorem wi_yX2_isSeen : Cond.instanceMethod yX2_isSeen ∈ px_TB := px_t2 153 rfl rfl
set_option maxRecDepth 20000 in
theorem wi_yX2_leadsTo : Cond.instanceMethod yX2_leadsTo ∈ px_TB := px_t2 167 rfl rfl
set_option maxRecDepth 20000 in
theorem wi_yX2_leastDayBelow : Cond.instanceMethod yX2_leastDayBelow ∈ px_TB := px_t3 212 rfl rfl
set_option maxRecDepth 20000 in
theorem wi_yX2_lettersOfThread : Cond.instanceMethod yX2_lettersOfThread ∈ px_TB := px_t2 230 rfl rfl
set_option maxRecDepth 20000 in
theorem wi_yX2_linesFrom : Cond.instanceMethod yX2_linesFrom ∈ px_TB := px_t3 45 rfl rfl
set_option maxRecDepth 20000 in
theorem wi_yX2_linesQuotedAlike : Cond.instanceMethod yX2_linesQuotedAlike ∈ px_TB := px_t4 10 rfl rfl
set_option maxRecDepth 20000 in
theorem wi_yX2_nextToWrite : Cond.instanceMethod yX2_nextToWrite ∈ px_TB := px_t3 192 rfl rfl
set_option maxRecDepth 20000 in
theorem wi_yX2_quarrelAt : Cond.instanceMethod yX2_quarrelAt ∈ px_TB := px_t3 199 rfl rfl
set_option maxRecDepth 20000 in
theorem wi_yX2_quarrels : Cond.instanceMethod yX2_quarrels ∈ px_TB := px_t3 80 rfl rfl
set_option maxRecDepth 20000 in
theorem wi_yX2_refresh : Cond.instanceMethod yX2_refresh ∈ px_TB := px_t2 148 rfl rfl
set_option maxRecDepth 20000 in
theorem wi_yX2_rootOf : Cond.instanceMethod yX2_rootOf ∈ px_TB := px_t2 218 rfl rfl
set_option maxRecDepth 20000 in
theorem wi_yX2_roots : Cond.instanceMethod yX2_roots ∈ px_TB := px_t3 33 rfl rfl
set_option maxRecDepth 20000 in
theorem wi_yX2_sourceOf : Cond.instanceMethod yX2_sourceOf ∈ px_TB := px_t3 49 rfl rfl
set_option maxRecDepth 20000 in
theorem wi_yX2_stepsOf : Cond.instanceMethod yX2_stepsOf ∈ px_TB := px_t2 222 rfl rfl
set_option maxRecDepth 20000 in
theorem wi_yX2_writtenAt : Cond.instanceMethod yX2_writtenAt ∈ px_TB := px_t3 187 rfl rfl
set_option maxRecDepth 20000 in
theorem wi_yX3_gather : Cond.instanceMethod yX3_gather ∈ px_TB := px_t3 69 rfl rfl
set_option maxRecDepth 20000 in
theorem wi_yX3_handOverPiece : Cond.instanceMethod yX3_handOverPiece ∈ px_TB := px_t3 131 rfl rfl
set_option maxRecDepth 20000 in
theorem wi_yX3_has : Cond.instanceMethod yX3_has ∈ px_TB := px_t3 110 rfl rfl
set_option maxRecDepth 20000 in
theorem wi_yX3_hasPiece : Cond.instanceMethod yX3_hasPiece ∈ px_TB := px_t3 59 rfl rfl
set_option maxRecDepth 20000 in
theorem wi_yX3_isLarge : Cond.instanceMethod yX3_isLarge ∈ px_TB := px_t3 114 rfl rfl
set_option maxRecDepth 20000 in
theorem wi_yX3_isOfPiece : Cond.instanceMethod yX3_isOfPiece ∈ px_TB := px_t3 63 rfl rfl
set_option maxRecDepth 20000 in
theorem wi_yX3_makeRow : Cond.instanceMethod yX3_makeRow ∈ px_TB := px_t3 123 rfl rfl
set_option maxRecDepth 20000 in
theorem wi_yX3_pieceHas : Cond.instanceMethod yX3_pieceHas ∈ px_TB := px_t3 77 rfl rfl
set_option maxRecDepth 20000 in
theorem wi_yX3_refresh : Cond.instanceMethod yX3_refresh ∈ px_TB := px_t3 53 rfl rfl
set_option maxRecDepth 20000 in
theorem wi_yX3_rowLength : Cond.instanceMethod yX3_rowLength ∈ px_TB := px_t3 118 rfl rfl
set_option maxRecDepth 20000 in
theorem wi_yX3_rowText : Cond.instanceMethod yX3_rowText ∈ px_TB := px_t3 179 rfl rfl
set_option maxRecDepth 20000 in
theorem wi_yX3_shareText : Cond.instanceMethod yX3_shareText ∈ px_TB := px_t3 73 rfl rfl
set_option maxRecDepth 20000 in
theorem wi_yX4_addSign : Cond.instanceMethod yX4_addSign ∈ px_TB := px_t3 221 rfl rfl
set_option maxRecDepth 20000 in
theorem wi_yX4_standsAt : Cond.instanceMethod yX4_standsAt ∈ px_TB := px_t4 2 rfl rfl
set_option maxRecDepth 20000 in
theorem wi_yX4_standsIn : Cond.instanceMethod yX4_standsIn ∈ px_TB := px_t3 236 rfl rfl
set_option maxRecDepth 20000 in
theorem wi_yX5_addPiece : Cond.instanceMethod yX5_addPiece ∈ px_TB := px_t3 134 rfl rfl
set_option maxRecDepth 20000 in
theorem wi_yX5_addText : Cond.instanceMethod yX5_addText ∈ px_TB := px_t3 138 rfl rfl
set_option maxRecDepth 20000 in
theorem wi_yX5_findRow : Cond.instanceMethod yX5_findRow ∈ px_TB := px_t3 142 rfl rfl
set_option maxRecDepth 20000 in
theorem wi_yX5_goOn : Cond.instanceMethod yX5_goOn ∈ px_TB := px_t3 147 rfl rfl
set_option maxRecDepth 20000 in
theorem wi_yX5_leastHeadAbove : Cond.instanceMethod yX5_leastHeadAbove ∈ px_TB := px_t3 155 rfl rfl
set_option maxRecDepth 20000 in
theorem wi_yX5_start : Cond.instanceMethod yX5_start ∈ px_TB := px_t3 126 rfl rfl
set_option maxRecDepth 20000 in
theorem wi_yX5_stepBy : Cond.instanceMethod yX5_stepBy ∈ px_TB := px_t3 159 rfl rfl
set_option maxRecDepth 20000 in
theorem wi_yX5_textOfStep : Cond.instanceMethod yX5_textOfStep ∈ px_TB := px_t3 168 rfl rfl
set_option maxRecDepth 20000 in
theorem wi_yX5_wipe : Cond.instanceMethod yX5_wipe ∈ px_TB := px_t3 172 rfl rfl
set_option maxRecDepth 20000 in
theorem wi_yX5_writeRow : Cond.instanceMethod yX5_writeRow ∈ px_TB := px_t3 164 rfl rfl
set_option maxRecDepth 20000 in
theorem wi_yX6_addBytes : Cond.instanceMethod yX6_addBytes ∈ px_TB := px_t4 18 rfl rfl
set_option maxRecDepth 20000 in
theorem wi_yX6_blame : Cond.instanceMethod yX6_blame ∈ px_TB := px_t4 109 rfl rfl
set_option maxRecDepth 20000 in
theorem wi_yX6_endOfWord : Cond.instanceMethod yX6_endOfWord ∈ px_TB := px_t4 41 rfl rfl
set_option maxRecDepth 20000 in
theorem wi_yX6_isWord : Cond.instanceMethod yX6_isWord ∈ px_TB := px_t4 57 rfl rfl
set_option maxRecDepth 20000 in
theorem wi_yX6_kindOf : Cond.instanceMethod yX6_kindOf ∈ px_TB := px_t4 45 rfl rfl
set_option maxRecDepth 20000 in
theorem wi_yX6_readClause : Cond.instanceMethod yX6_readClause ∈ px_TB := px_t4 37 rfl rfl
set_option maxRecDepth 20000 in
theorem wi_yX6_readClauses : Cond.instanceMethod yX6_readClauses ∈ px_TB := px_t4 26 rfl rfl
set_option maxRecDepth 20000 in
theorem wi_yX6_readNumber : Cond.instanceMethod yX6_readNumber ∈ px_TB := px_t4 119 rfl rfl
set_option maxRecDepth 20000 in
theorem wi_yX6_readSemicolon : Cond.instanceMethod yX6_readSemicolon ∈ px_TB := px_t4 128 rfl rfl
set_option maxRecDepth 20000 in
theorem wi_yX6_readYes : Cond.instanceMethod yX6_readYes ∈ px_TB := px_t4 113 rfl rfl
set_option maxRecDepth 20000 in
theorem wi_yX6_skipBlanks : Cond.instanceMethod yX6_skipBlanks ∈ px_TB := px_t4 33 rfl rfl
set_option maxRecDepth 20000 in
theorem wi_yX8_aboutKin : Cond.instanceMethod yX8_aboutKin ∈ px_TB := px_t2 215 rfl rfl
set_option maxRecDepth 20000 in
theorem wi_yX8_countFindings : Cond.instanceMethod yX8_countFindings ∈ px_TB := px_t3 30 rfl rfl
set_option maxRecDepth 20000 in
theorem wi_yX8_forgetFindings : Cond.instanceMethod yX8_forgetFindings ∈ px_TB := px_t2 84 rfl rfl
set_option maxRecDepth 20000 in
theorem wi_yX9_behind : Cond.instanceMethod yX9_behind ∈ px_TB := px_t5 199 rfl rfl
set_option maxRecDepth 20000 in
theorem wi_yX9_comesTo : Cond.instanceMethod yX9_comesTo ∈ px_TB := px_t5 110 rfl rfl
set_option maxRecDepth 20000 in
theorem wi_yX9_differBy : Cond.instanceMethod yX9_differBy ∈ px_TB := px_t5 77 rfl rfl
set_option maxRecDepth 20000 in
theorem wi_yX9_findGroups : Cond.instanceMethod yX9_findGroups ∈ px_TB := px_t5 163 rfl rfl
set_option maxRecDepth 20000 in
theorem wi_yX9_findParents : Cond.instanceMethod yX9_findParents ∈ px_TB := px_t5 106 rfl rfl
set_option maxRecDepth 20000 in
theorem wi_yX9_findPieces : Cond.instanceMethod yX9_findPieces ∈ px_TB := px_t5 183 rfl rfl
set_option maxRecDepth 20000 in
theorem wi_yX9_findRow : Cond.instanceMethod yX9_findRow ∈ px_TB := px_t5 187 rfl rfl
set_option maxRecDepth 20000 in
theorem wi_yX9_fitOf : Cond.instanceMethod yX9_fitOf ∈ px_TB := px_t5 89 rfl rfl
set_option maxRecDepth 20000 in
theorem wi_yX9_fitting : Cond.instanceMethod yX9_fitting ∈ px_TB := px_t5 114 rfl rfl
set_option maxRecDepth 20000 in
theorem wi_yX9_hasPiece : Cond.instanceMethod yX9_hasPiece ∈ px_TB := px_t5 167 rfl rfl
set_option maxRecDepth 20000 in
theorem wi_yX9_hasSigns : Cond.instanceMethod yX9_hasSigns ∈ px_TB := px_t6 2 rfl rfl
set_option maxRecDepth 20000 in
theorem wi_yX9_haveCommon : Cond.instanceMethod yX9_haveCommon ∈ px_TB := px_t5 175 rfl rfl
set_option maxRecDepth 20000 in
theorem wi_yX9_heldTo : Cond.instanceMethod yX9_heldTo ∈ px_TB := px_t5 139 rfl rfl
set_option maxRecDepth 20000 in
theorem wi_yX9_isAltered : Cond.instanceMethod yX9_isAltered ∈ px_TB := px_t5 151 rfl rfl
set_option maxRecDepth 20000 in
theorem wi_yX9_isLess : Cond.instanceMethod yX9_isLess ∈ px_TB := px_t5 206 rfl rfl
set_option maxRecDepth 20000 in
theorem wi_yX9_isLike : Cond.instanceMethod yX9_isLike ∈ px_TB := px_t5 93 rfl rfl
set_option maxRecDepth 20000 in
theorem wi_yX9_isPiece : Cond.instanceMethod yX9_isPiece ∈ px_TB := px_t5 171 rfl rfl
set_option maxRecDepth 20000 in
theorem wi_yX9_isSame : Cond.instanceMethod yX9_isSame ∈ px_TB := px_t5 143 rfl rfl
set_option maxRecDepth 20000 in
theorem wi_yX9_isSeen : Cond.instanceMethod yX9_isSeen ∈ px_TB := px_t5 85 rfl rfl
set_option maxRecDepth 20000 in
theorem wi_yX9_isWithin : Cond.instanceMethod yX9_isWithin ∈ px_TB := px_t5 191 rfl rfl
set_option maxRecDepth 20000 in
theorem wi_yX9_isWord : Cond.instanceMethod yX9_isWord ∈ px_TB := px_t6 39 rfl rfl
set_option maxRecDepth 20000 in
theorem wi_yX9_kindOf : Cond.instanceMethod yX9_kindOf ∈ px_TB := px_t6 35 rfl rfl
set_option maxRecDepth 20000 in
theorem wi_yX9_letter : Cond.instanceMethod yX9_letter ∈ px_TB := px_t5 32 rfl rfl
set_option maxRecDepth 20000 in
theorem wi_yX9_look : Cond.instanceMethod yX9_look ∈ px_TB := px_t6 25 rfl rfl
set_option maxRecDepth 20000 in
theorem wi_yX9_noLetter : Cond.instanceMethod yX9_noLetter ∈ px_TB := px_t5 37 rfl rfl
set_option maxRecDepth 20000 in
theorem wi_yX9_noLine : Cond.instanceMethod yX9_noLine ∈ px_TB := px_t5 73 rfl rfl
set_option maxRecDepth 20000 in
theorem wi_yX9_originOf : Cond.instanceMethod yX9_originOf ∈ px_TB := px_t5 135 rfl rfl
set_option maxRecDepth 20000 in
theorem wi_yX9_quarrels : Cond.instanceMethod yX9_quarrels ∈ px_TB := px_t5 222 rfl rfl
set_option maxRecDepth 20000 in
theorem wi_yX9_quoted : Cond.instanceMethod yX9_quoted ∈ px_TB := px_t5 102 rfl rfl
set_option maxRecDepth 20000 in
theorem wi_yX9_readClause : Cond.instanceMethod yX9_readClause ∈ px_TB := px_t6 47 rfl rfl
set_option maxRecDepth 20000 in
theorem wi_yX9_rootOf : Cond.instanceMethod yX9_rootOf ∈ px_TB := px_t5 118 rfl rfl
set_option maxRecDepth 20000 in
theorem wi_yX9_stepsOf : Cond.instanceMethod yX9_stepsOf ∈ px_TB := px_t5 122 rfl rfl
set_option maxRecDepth 20000 in
theorem wi_yX9_takeNumber : Cond.instanceMethod yX9_takeNumber ∈ px_TB := px_t6 51 rfl rfl
set_option maxRecDepth 20000 in
theorem wi_yX9_takeWord : Cond.instanceMethod yX9_takeWord ∈ px_TB := px_t6 29 rfl rfl
set_option maxRecDepth 20000 in
theorem wi_yX9_textAt : Cond.instanceMethod yX9_textAt ∈ px_TB := px_t5 195 rfl rfl
set_option maxRecDepth 20000 in
theorem wi_yX9_want : Cond.instanceMethod yX9_want ∈ px_TB := px_t6 43 rfl rfl
set_option maxRecDepth 20000 in
theorem wk_RX5_36 : Cond.constant RX5 36 65535 ∈ px_TB := px_t3 161 rfl rfl
set_option maxRecDepth 20000 in
theorem wk_RX5_47 : Cond.constantLong RX5 47 (-1) ∈ px_TB := px_t3 152 rfl rfl
set_option maxRecDepth 20000 in
theorem wk_RX7_11 : Cond.constantLong RX7 11 63 ∈ px_TB := px_t2 196 rfl rfl
set_option maxRecDepth 20000 in
theorem wk_RX9_103 : Cond.constantLong RX9 103 63 ∈ px_TB := px_t5 27 rfl rfl
set_option maxRecDepth 20000 in
theorem wk_RX9_108 : Cond.constantLong RX9 108 9 ∈ px_TB := px_t5 39 rfl rfl
set_option maxRecDepth 20000 in
theorem wk_RX9_110 : Cond.constantLong RX9 110 (-1) ∈ px_TB := px_t5 40 rfl rfl
set_option maxRecDepth 20000 in
theorem wk_RX9_112 : Cond.constantLong RX9 112 9999 ∈ px_TB := px_t5 41 rfl rfl
set_option maxRecDepth 20000 in
theorem wk_RX9_114 : Cond.constantLong RX9 114 5 ∈ px_TB := px_t5 46 rfl rfl
set_option maxRecDepth 20000 in
theorem wk_RX9_150 : Cond.constantLong RX9 150 11 ∈ px_TB := px_t5 99 rfl rfl
set_option maxRecDepth 20000 in
theorem wk_RX9_167 : Cond.constantLong RX9 167 2 ∈ px_TB := px_t5 132 rfl rfl
set_option maxRecDepth 20000 in
theorem wk_RX9_227 : Cond.constantLong RX9 227 4 ∈ px_TB := px_t6 12 rfl rfl
set_option maxRecDepth 20000 in
theorem wk_RX9_232 : Cond.constantLong RX9 232 8 ∈ px_TB := px_t6 17 rfl rfl
set_option maxRecDepth 20000 in
theorem wk_RX9_234 : Cond.constantLong RX9 234 255 ∈ px_TB := px_t6 18 rfl rfl
set_option maxRecDepth 20000 in
theorem wk_RX9_249 : Cond.constantLong RX9 249 97 ∈ px_TB := px_t6 31 rfl rfl
set_option maxRecDepth 20000 in
theorem wk_RX9_251 : Cond.constantLong RX9 251 122 ∈ px_TB := px_t6 32 rfl rfl
set_option maxRecDepth 20000 in
theorem wk_RX9_256 : Cond.constantLong RX9 256 48 ∈ px_TB := px_t6 53 rfl rfl
set_option maxRecDepth 20000 in
theorem wk_RX9_258 : Cond.constantLong RX9 258 57 ∈ px_TB := px_t6 54 rfl rfl
set_option maxRecDepth 20000 in
theorem wl_yJ0_charAt_5068e : Cond.selects RJ0 yJ0_charAt_5068e yJ0_charAt_5068e ∈ px_TB := px_t4 71 rfl rfl
set_option maxRecDepth 20000 in
theorem wl_yJ0_coder_7d493 : Cond.selects RJ0 yJ0_coder_7d493 yJ0_coder_7d493 ∈ px_TB := px_t4 65 rfl rfl
set_option maxRecDepth 20000 in
theorem wl_yJ0_isLatin1_aae02 : Cond.selects RJ0 yJ0_isLatin1_aae02 yJ0_isLatin1_aae02 ∈ px_TB := px_t4 75 rfl rfl
set_option maxRecDepth 20000 in
theorem wl_yJ0_length_8abf5 : Cond.selects RJ0 yJ0_length_8abf5 yJ0_length_8abf5 ∈ px_TB := px_t4 61 rfl rfl
set_option maxRecDepth 20000 in
theorem wl_yX0_distance : Cond.selects RX0 yX0_distance yX0_distance ∈ px_TB := px_t2 191 rfl rfl
set_option maxRecDepth 20000 in
theorem wl_yX0_forgetAll : Cond.selects RX0 yX0_forgetAll yX0_forgetAll ∈ px_TB := px_t4 132 rfl rfl
set_option maxRecDepth 20000 in
theorem wl_yX0_forgetLetter : Cond.selects RX0 yX0_forgetLetter yX0_forgetLetter ∈ px_TB := px_t2 103 rfl rfl
set_option maxRecDepth 20000 in
theorem wl_yX0_isLike : Cond.selects RX0 yX0_isLike yX0_isLike ∈ px_TB := px_t2 187 rfl rfl
set_option maxRecDepth 20000 in
theorem wl_yX0_mostPairs : Cond.selects RX0 yX0_mostPairs yX0_mostPairs ∈ px_TB := px_tp 5 rfl rfl
set_option maxRecDepth 20000 in
theorem wl_yX0_of : Cond.selects RX0 yX0_of yX0_of ∈ px_TB := px_t2 175 rfl rfl
set_option maxRecDepth 20000 in
theorem wl_yX1_addLetter : Cond.selects RX1 yX1_addLetter yX1_addLetter ∈ px_TB := px_t2 88 rfl rfl
set_option maxRecDepth 20000 in
theorem wl_yX1_addLine : Cond.selects RX1 yX1_addLine yX1_addLine ∈ px_TB := px_t2 96 rfl rfl
set_option maxRecDepth 20000 in
theorem wl_yX1_has : Cond.selects RX1 yX1_has yX1_has ∈ px_TB := px_t2 74 rfl rfl
set_option maxRecDepth 20000 in
theorem wl_yX1_hasLine : Cond.selects RX1 yX1_hasLine yX1_hasLine ∈ px_TB := px_t3 1 rfl rfl
set_option maxRecDepth 20000 in
theorem wl_yX1_isSeen : Cond.selects RX1 yX1_isSeen yX1_isSeen ∈ px_TB := px_t2 140 rfl rfl
set_option maxRecDepth 20000 in
theorem wl_yX1_isSeenWith : Cond.selects RX1 yX1_isSeenWith yX1_isSeenWith ∈ px_TB := px_t2 144 rfl rfl
set_option maxRecDepth 20000 in
theorem wl_yX1_isTaken : Cond.selects RX1 yX1_isTaken yX1_isTaken ∈ px_TB := px_t2 120 rfl rfl
set_option maxRecDepth 20000 in
theorem wl_yX1_quoteInto : Cond.selects RX1 yX1_quoteInto yX1_quoteInto ∈ px_TB := px_t2 111 rfl rfl
set_option maxRecDepth 20000 in
theorem wl_yX1_seenLetters : Cond.selects RX1 yX1_seenLetters yX1_seenLetters ∈ px_TB := px_t3 25 rfl rfl
set_option maxRecDepth 20000 in
theorem wl_yX1_turnTaken : Cond.selects RX1 yX1_turnTaken yX1_turnTaken ∈ px_TB := px_t2 124 rfl rfl
set_option maxRecDepth 20000 in
theorem wl_yX2_alteredLines : Cond.selects RX2 yX2_alteredLines yX2_alteredLines ∈ px_TB := px_t3 38 rfl rfl
set_option maxRecDepth 20000 in
theorem wl_yX2_childrenOf : Cond.selects RX2 yX2_childrenOf yX2_childrenOf ∈ px_TB := px_t2 227 rfl rfl
set_option maxRecDepth 20000 in
theorem wl_yX2_findHeld : Cond.selects RX2 yX2_findHeld yX2_findHeld ∈ px_TB := px_tp 7 rfl rfl
set_option maxRecDepth 20000 in
theorem wl_yX2_findParent : Cond.selects RX2 yX2_findParent yX2_findParent ∈ px_TB := px_tp 1 rfl rfl
set_option maxRecDepth 20000 in
theorem wl_yX2_greatestDayAbove : Cond.selects RX2 yX2_greatestDayAbove yX2_greatestDayAbove ∈ px_TB := px_t3 208 rfl rfl
set_option maxRecDepth 20000 in
theorem wl_yX2_holdLines : Cond.selects RX2 yX2_holdLines yX2_holdLines ∈ px_TB := px_tp 6 rfl rfl
set_option maxRecDepth 20000 in
theorem wl_yX2_isAfter : Cond.selects RX2 yX2_isAfter yX2_isAfter ∈ px_TB := px_tp 4 rfl rfl
set_option maxRecDepth 20000 in
theorem wl_yX2_isAltered : Cond.selects RX2 yX2_isAltered yX2_isAltered ∈ px_TB := px_t3 42 rfl rfl
set_option maxRecDepth 20000 in
theorem wl_yX2_isFree : Cond.selects RX2 yX2_isFree yX2_isFree ∈ px_TB := px_tp 2 rfl rfl
set_option maxRecDepth 20000 in
theorem wl_yX2_isQuarrel : Cond.selects RX2 yX2_isQuarrel yX2_isQuarrel ∈ px_TB := px_tp 15 rfl rfl
set_option maxRecDepth 20000 in
theorem wl_yX2_isSeen : Cond.selects RX2 yX2_isSeen yX2_isSeen ∈ px_TB := px_t2 154 rfl rfl
set_option maxRecDepth 20000 in
theorem wl_yX2_leadsTo : Cond.selects RX2 yX2_leadsTo yX2_leadsTo ∈ px_TB := px_tp 3 rfl rfl
set_option maxRecDepth 20000 in
theorem wl_yX2_leastDayBelow : Cond.selects RX2 yX2_leastDayBelow yX2_leastDayBelow ∈ px_TB := px_t3 213 rfl rfl
set_option maxRecDepth 20000 in
theorem wl_yX2_lettersOfThread : Cond.selects RX2 yX2_lettersOfThread yX2_lettersOfThread ∈ px_TB := px_t2 231 rfl rfl
set_option maxRecDepth 20000 in
theorem wl_yX2_linesFrom : Cond.selects RX2 yX2_linesFrom yX2_linesFrom ∈ px_TB := px_t3 46 rfl rfl
set_option maxRecDepth 20000 in
theorem wl_yX2_linesQuotedAlike : Cond.selects RX2 yX2_linesQuotedAlike yX2_linesQuotedAlike ∈ px_TB := px_t4 11 rfl rfl
set_option maxRecDepth 20000 in
theorem wl_yX2_nextToWrite : Cond.selects RX2 yX2_nextToWrite yX2_nextToWrite ∈ px_TB := px_tp 24 rfl rfl
set_option maxRecDepth 20000 in
theorem wl_yX2_quarrelAt : Cond.selects RX2 yX2_quarrelAt yX2_quarrelAt ∈ px_TB := px_t3 200 rfl rfl
set_option maxRecDepth 20000 in
theorem wl_yX2_quarrels : Cond.selects RX2 yX2_quarrels yX2_quarrels ∈ px_TB := px_t3 81 rfl rfl
set_option maxRecDepth 20000 in
theorem wl_yX2_refresh : Cond.selects RX2 yX2_refresh yX2_refresh ∈ px_TB := px_t2 149 rfl rfl
set_option maxRecDepth 20000 in
theorem wl_yX2_rootOf : Cond.selects RX2 yX2_rootOf yX2_rootOf ∈ px_TB := px_t2 219 rfl rfl
set_option maxRecDepth 20000 in
theorem wl_yX2_roots : Cond.selects RX2 yX2_roots yX2_roots ∈ px_TB := px_t3 34 rfl rfl
set_option maxRecDepth 20000 in
theorem wl_yX2_sourceOf : Cond.selects RX2 yX2_sourceOf yX2_sourceOf ∈ px_TB := px_t3 50 rfl rfl
set_option maxRecDepth 20000 in
theorem wl_yX2_stepsOf : Cond.selects RX2 yX2_stepsOf yX2_stepsOf ∈ px_TB := px_t2 223 rfl rfl
set_option maxRecDepth 20000 in
theorem wl_yX2_writtenAt : Cond.selects RX2 yX2_writtenAt yX2_writtenAt ∈ px_TB := px_t3 188 rfl rfl
set_option maxRecDepth 20000 in
theorem wl_yX3_gather : Cond.selects RX3 yX3_gather yX3_gather ∈ px_TB := px_tp 12 rfl rfl
set_option maxRecDepth 20000 in
theorem wl_yX3_handOverPiece : Cond.selects RX3 yX3_handOverPiece yX3_handOverPiece ∈ px_TB := px_tp 17 rfl rfl
set_option maxRecDepth 20000 in
theorem wl_yX3_has : Cond.selects RX3 yX3_has yX3_has ∈ px_TB := px_t3 111 rfl rfl
set_option maxRecDepth 20000 in
theorem wl_yX3_hasPiece : Cond.selects RX3 yX3_hasPiece yX3_hasPiece ∈ px_TB := px_tp 10 rfl rfl
set_option maxRecDepth 20000 in
theorem wl_yX3_isLarge : Cond.selects RX3 yX3_isLarge yX3_isLarge ∈ px_TB := px_t3 115 rfl rfl
set_option maxRecDepth 20000 in
theorem wl_yX3_isOfPiece : Cond.selects RX3 yX3_isOfPiece yX3_isOfPiece ∈ px_TB := px_tp 11 rfl rfl
set_option maxRecDepth 20000 in
theorem wl_yX3_makeRow : Cond.selects RX3 yX3_makeRow yX3_makeRow ∈ px_TB := px_tp 16 rfl rfl
set_option maxRecDepth 20000 in
theorem wl_yX3_pieceHas : Cond.selects RX3 yX3_pieceHas yX3_pieceHas ∈ px_TB := px_tp 14 rfl rfl
set_option maxRecDepth 20000 in
theorem wl_yX3_refresh : Cond.selects RX3 yX3_refresh yX3_refresh ∈ px_TB := px_t3 54 rfl rfl
set_option maxRecDepth 20000 in
theorem wl_yX3_rowLength : Cond.selects RX3 yX3_rowLength yX3_rowLength ∈ px_TB := px_t3 119 rfl rfl
set_option maxRecDepth 20000 in
theorem wl_yX3_rowText : Cond.selects RX3 yX3_rowText yX3_rowText ∈ px_TB := px_t3 180 rfl rfl
set_option maxRecDepth 20000 in
theorem wl_yX3_shareText : Cond.selects RX3 yX3_shareText yX3_shareText ∈ px_TB := px_tp 13 rfl rfl
set_option maxRecDepth 20000 in
theorem wl_yX4_addSign : Cond.selects RX4 yX4_addSign yX4_addSign ∈ px_TB := px_t3 222 rfl rfl
set_option maxRecDepth 20000 in
theorem wl_yX4_standsAt : Cond.selects RX4 yX4_standsAt yX4_standsAt ∈ px_TB := px_tp 25 rfl rfl
set_option maxRecDepth 20000 in
theorem wl_yX4_standsIn : Cond.selects RX4 yX4_standsIn yX4_standsIn ∈ px_TB := px_t3 237 rfl rfl
set_option maxRecDepth 20000 in
theorem wl_yX5_addPiece : Cond.selects RX5 yX5_addPiece yX5_addPiece ∈ px_TB := px_t3 135 rfl rfl
set_option maxRecDepth 20000 in
theorem wl_yX5_addText : Cond.selects RX5 yX5_addText yX5_addText ∈ px_TB := px_t3 139 rfl rfl
set_option maxRecDepth 20000 in
theorem wl_yX5_findRow : Cond.selects RX5 yX5_findRow yX5_findRow ∈ px_TB := px_t3 143 rfl rfl
set_option maxRecDepth 20000 in
theorem wl_yX5_goOn : Cond.selects RX5 yX5_goOn yX5_goOn ∈ px_TB := px_tp 18 rfl rfl
set_option maxRecDepth 20000 in
theorem wl_yX5_leastHeadAbove : Cond.selects RX5 yX5_leastHeadAbove yX5_leastHeadAbove ∈ px_TB := px_tp 19 rfl rfl
set_option maxRecDepth 20000 in
theorem wl_yX5_start : Cond.selects RX5 yX5_start yX5_start ∈ px_TB := px_t3 127 rfl rfl
set_option maxRecDepth 20000 in
theorem wl_yX5_stepBy : Cond.selects RX5 yX5_stepBy yX5_stepBy ∈ px_TB := px_tp 20 rfl rfl
set_option maxRecDepth 20000 in
theorem wl_yX5_textOfStep : Cond.selects RX5 yX5_textOfStep yX5_textOfStep ∈ px_TB := px_tp 22 rfl rfl
set_option maxRecDepth 20000 in
theorem wl_yX5_wipe : Cond.selects RX5 yX5_wipe yX5_wipe ∈ px_TB := px_tp 23 rfl rfl
set_option maxRecDepth 20000 in
theorem wl_yX5_writeRow : Cond.selects RX5 yX5_writeRow yX5_writeRow ∈ px_TB := px_tp 21 rfl rfl
set_option maxRecDepth 20000 in
theorem wl_yX6_addBytes : Cond.selects RX6 yX6_addBytes yX6_addBytes ∈ px_TB := px_t4 19 rfl rfl
set_option maxRecDepth 20000 in
theorem wl_yX6_blame : Cond.selects RX6 yX6_blame yX6_blame ∈ px_TB := px_tp 31 rfl rfl
set_option maxRecDepth 20000 in
theorem wl_yX6_endOfWord : Cond.selects RX6 yX6_endOfWord yX6_endOfWord ∈ px_TB := px_tp 28 rfl rfl
set_option maxRecDepth 20000 in
theorem wl_yX6_isWord : Cond.selects RX6 yX6_isWord yX6_isWord ∈ px_TB := px_tp 30 rfl rfl
set_option maxRecDepth 20000 in
theorem wl_yX6_kindOf : Cond.selects RX6 yX6_kindOf yX6_kindOf ∈ px_TB := px_tp 29 rfl rfl
set_option maxRecDepth 20000 in
theorem wl_yX6_readClause : Cond.selects RX6 yX6_readClause yX6_readClause ∈ px_TB := px_tp 27 rfl rfl
set_option maxRecDepth 20000 in
theorem wl_yX6_readClauses : Cond.selects RX6 yX6_readClauses yX6_readClauses ∈ px_TB := px_t4 27 rfl rfl
set_option maxRecDepth 20000 in
theorem wl_yX6_readNumber : Cond.selects RX6 yX6_readNumber yX6_readNumber ∈ px_TB := px_tp 33 rfl rfl
set_option maxRecDepth 20000 in
theorem wl_yX6_readSemicolon : Cond.selects RX6 yX6_readSemicolon yX6_readSemicolon ∈ px_TB := px_tp 34 rfl rfl
set_option maxRecDepth 20000 in
theorem wl_yX6_readYes : Cond.selects RX6 yX6_readYes yX6_readYes ∈ px_TB := px_tp 32 rfl rfl
set_option maxRecDepth 20000 in
theorem wl_yX6_skipBlanks : Cond.selects RX6 yX6_skipBlanks yX6_skipBlanks ∈ px_TB := px_tp 26 rfl rfl
set_option maxRecDepth 20000 in
theorem wl_yX8_aboutKin : Cond.selects RX8 yX8_aboutKin yX8_aboutKin ∈ px_TB := px_tp 8 rfl rfl
set_option maxRecDepth 20000 in
theorem wl_yX8_countFindings : Cond.selects RX8 yX8_countFindings yX8_countFindings ∈ px_TB := px_tp 9 rfl rfl
set_option maxRecDepth 20000 in
theorem wl_yX8_forgetFindings : Cond.selects RX8 yX8_forgetFindings yX8_forgetFindings ∈ px_TB := px_tp 0 rfl rfl
set_option maxRecDepth 20000 in
theorem wl_yX9_behind : Cond.selects RX9 yX9_behind yX9_behind ∈ px_TB := px_tp 59 rfl rfl
set_option maxRecDepth 20000 in
theorem wl_yX9_comesTo : Cond.selects RX9 yX9_comesTo yX9_comesTo ∈ px_TB := px_tp 43 rfl rfl
set_option maxRecDepth 20000 in
theorem wl_yX9_differBy : Cond.selects RX9 yX9_differBy yX9_differBy ∈ px_TB := px_tp 37 rfl rfl
set_option maxRecDepth 20000 in
theorem wl_yX9_findGroups : Cond.selects RX9 yX9_findGroups yX9_findGroups ∈ px_TB := px_tp 51 rfl rfl
set_option maxRecDepth 20000 in
theorem wl_yX9_findParents : Cond.selects RX9 yX9_findParents yX9_findParents ∈ px_TB := px_tp 42 rfl rfl
set_option maxRecDepth 20000 in
theorem wl_yX9_findPieces : Cond.selects RX9 yX9_findPieces yX9_findPieces ∈ px_TB := px_tp 55 rfl rfl
set_option maxRecDepth 20000 in
theorem wl_yX9_findRow : Cond.selects RX9 yX9_findRow yX9_findRow ∈ px_TB := px_tp 56 rfl rfl
set_option maxRecDepth 20000 in
theorem wl_yX9_fitOf : Cond.selects RX9 yX9_fitOf yX9_fitOf ∈ px_TB := px_tp 39 rfl rfl
set_option maxRecDepth 20000 in
theorem wl_yX9_fitting : Cond.selects RX9 yX9_fitting yX9_fitting ∈ px_TB := px_tp 44 rfl rfl
set_option maxRecDepth 20000 in
theorem wl_yX9_hasPiece : Cond.selects RX9 yX9_hasPiece yX9_hasPiece ∈ px_TB := px_tp 52 rfl rfl
set_option maxRecDepth 20000 in
theorem wl_yX9_hasSigns : Cond.selects RX9 yX9_hasSigns yX9_hasSigns ∈ px_TB := px_tp 62 rfl rfl
set_option maxRecDepth 20000 in
theorem wl_yX9_haveCommon : Cond.selects RX9 yX9_haveCommon yX9_haveCommon ∈ px_TB := px_tp 54 rfl rfl
set_option maxRecDepth 20000 in
theorem wl_yX9_heldTo : Cond.selects RX9 yX9_heldTo yX9_heldTo ∈ px_TB := px_tp 48 rfl rfl
set_option maxRecDepth 20000 in
theorem wl_yX9_isAltered : Cond.selects RX9 yX9_isAltered yX9_isAltered ∈ px_TB := px_tp 50 rfl rfl
set_option maxRecDepth 20000 in
theorem wl_yX9_isLess : Cond.selects RX9 yX9_isLess yX9_isLess ∈ px_TB := px_tp 60 rfl rfl
set_option maxRecDepth 20000 in
theorem wl_yX9_isLike : Cond.selects RX9 yX9_isLike yX9_isLike ∈ px_TB := px_tp 40 rfl rfl
set_option maxRecDepth 20000 in
theorem wl_yX9_isPiece : Cond.selects RX9 yX9_isPiece yX9_isPiece ∈ px_TB := px_tp 53 rfl rfl
set_option maxRecDepth 20000 in
theorem wl_yX9_isSame : Cond.selects RX9 yX9_isSame yX9_isSame ∈ px_TB := px_tp 49 rfl rfl
set_option maxRecDepth 20000 in
theorem wl_yX9_isSeen : Cond.selects RX9 yX9_isSeen yX9_isSeen ∈ px_TB := px_tp 38 rfl rfl
set_option maxRecDepth 20000 in
theorem wl_yX9_isWithin : Cond.selects RX9 yX9_isWithin yX9_isWithin ∈ px_TB := px_tp 57 rfl rfl
set_option maxRecDepth 20000 in
theorem wl_yX9_isWord : Cond.selects RX9 yX9_isWord yX9_isWord ∈ px_TB := px_tp 66 rfl rfl
set_option maxRecDepth 20000 in
theorem wl_yX9_kindOf : Cond.selects RX9 yX9_kindOf yX9_kindOf ∈ px_TB := px_tp 65 rfl rfl
set_option maxRecDepth 20000 in
theorem wl_yX9_letter : Cond.selects RX9 yX9_letter yX9_letter ∈ px_TB := px_t5 33 rfl rfl
set_option maxRecDepth 20000 in
theorem wl_yX9_look : Cond.selects RX9 yX9_look yX9_look ∈ px_TB := px_tp 63 rfl rfl
set_option maxRecDepth 20000 in
theorem wl_yX9_noLetter : Cond.selects RX9 yX9_noLetter yX9_noLetter ∈ px_TB := px_tp 35 rfl rfl
set_option maxRecDepth 20000 in
theorem wl_yX9_noLine : Cond.selects RX9 yX9_noLine yX9_noLine ∈ px_TB := px_tp 36 rfl rfl
set_option maxRecDepth 20000 in
theorem wl_yX9_originOf : Cond.selects RX9 yX9_originOf yX9_originOf ∈ px_TB := px_tp 47 rfl rfl
set_option maxRecDepth 20000 in
theorem wl_yX9_quarrels : Cond.selects RX9 yX9_quarrels yX9_quarrels ∈ px_TB := px_tp 61 rfl rfl
set_option maxRecDepth 20000 in
theorem wl_yX9_quoted : Cond.selects RX9 yX9_quoted yX9_quoted ∈ px_TB := px_tp 41 rfl rfl
set_option maxRecDepth 20000 in
theorem wl_yX9_readClause : Cond.selects RX9 yX9_readClause yX9_readClause ∈ px_TB := px_tp 68 rfl rfl
set_option maxRecDepth 20000 in
theorem wl_yX9_rootOf : Cond.selects RX9 yX9_rootOf yX9_rootOf ∈ px_TB := px_tp 45 rfl rfl
set_option maxRecDepth 20000 in
theorem wl_yX9_stepsOf : Cond.selects RX9 yX9_stepsOf yX9_stepsOf ∈ px_TB := px_tp 46 rfl rfl
set_option maxRecDepth 20000 in
theorem wl_yX9_takeNumber : Cond.selects RX9 yX9_takeNumber yX9_takeNumber ∈ px_TB := px_tp 69 rfl rfl
set_option maxRecDepth 20000 in
theorem wl_yX9_takeWord : Cond.selects RX9 yX9_takeWord yX9_takeWord ∈ px_TB := px_tp 64 rfl rfl
set_option maxRecDepth 20000 in
theorem wl_yX9_textAt : Cond.selects RX9 yX9_textAt yX9_textAt ∈ px_TB := px_tp 58 rfl rfl
set_option maxRecDepth 20000 in
theorem wl_yX9_want : Cond.selects RX9 yX9_want yX9_want ∈ px_TB := px_tp 67 rfl rfl
set_option maxRecDepth 20000 in
theorem wm_RJ0_1059 : Cond.methodLink RJ0 1059 yJ3_checkIndex_8e157 ∈ px_TB := px_t4 85 rfl rfl
set_option maxRecDepth 20000 in
theorem wm_RJ0_335 : Cond.methodLink RJ0 335 yJ0_coder_7d493 ∈ px_TB := px_t4 63 rfl rfl
set_option maxRecDepth 20000 in
theorem wm_RJ0_492 : Cond.methodLink RJ0 492 yJ0_isLatin1_aae02 ∈ px_TB := px_t4 73 rfl rfl
set_option maxRecDepth 20000 in
theorem wm_RJ0_495 : Cond.methodLink RJ0 495 yJ1_charAt_3b067 ∈ px_TB := px_t4 77 rfl rfl
set_option maxRecDepth 20000 in
theorem wm_RJ1_9 : Cond.methodLink RJ1 9 yJ0_checkIndex_df160 ∈ px_TB := px_t4 80 rfl rfl
set_option maxRecDepth 20000 in
theorem wm_RX0_28 : Cond.methodLink RX0 28 yJ7_fill_53178 ∈ px_TB := px_t1 99 rfl rfl
set_option maxRecDepth 20000 in
theorem wm_RX0_34 : Cond.methodLink RX0 34 yX0_mostPairs ∈ px_TB := px_t2 177 rfl rfl
set_option maxRecDepth 20000 in
theorem wm_RX0_43 : Cond.methodLink RX0 43 Lib.Math.max.name ∈ px_TB := px_t2 181 rfl rfl
set_option maxRecDepth 20000 in
theorem wm_RX0_51 : Cond.methodLink RX0 51 yX0_isLike ∈ px_TB := px_t2 185 rfl rfl
set_option maxRecDepth 20000 in
theorem wm_RX0_62 : Cond.methodLink RX0 62 yX0_distance ∈ px_TB := px_t2 189 rfl rfl
set_option maxRecDepth 20000 in
theorem wm_RX0_66 : Cond.methodLink RX0 66 yX7_wordsIn ∈ px_TB := px_t2 193 rfl rfl
set_option maxRecDepth 20000 in
theorem wm_RX0_72 : Cond.methodLink RX0 72 yX7_wordAt ∈ px_TB := px_t2 197 rfl rfl
set_option maxRecDepth 20000 in
theorem wm_RX0_76 : Cond.methodLink RX0 76 Lib.Math.min.name ∈ px_TB := px_t2 200 rfl rfl
set_option maxRecDepth 20000 in
theorem wm_RX1_41 : Cond.methodLink RX1 41 yX1_has ∈ px_TB := px_t3 3 rfl rfl
set_option maxRecDepth 20000 in
theorem wm_RX1_49 : Cond.methodLink RX1 49 yX1_isSeenWith ∈ px_TB := px_t2 142 rfl rfl
set_option maxRecDepth 20000 in
theorem wm_RX1_53 : Cond.methodLink RX1 53 yX1_isTaken ∈ px_TB := px_t2 146 rfl rfl
set_option maxRecDepth 20000 in
theorem wm_RX1_56 : Cond.methodLink RX1 56 yX1_isSeen ∈ px_TB := px_t3 27 rfl rfl
set_option maxRecDepth 20000 in
theorem wm_RX1_63 : Cond.methodLink RX1 63 yX1_addLine ∈ px_TB := px_t2 113 rfl rfl
set_option maxRecDepth 20000 in
theorem wm_RX2_105 : Cond.methodLink RX2 105 yX0_isLike ∈ px_TB := px_t2 212 rfl rfl
set_option maxRecDepth 20000 in
theorem wm_RX2_108 : Cond.methodLink RX2 108 yX2_rootOf ∈ px_TB := px_t2 233 rfl rfl
set_option maxRecDepth 20000 in
theorem wm_RX2_111 : Cond.methodLink RX2 111 yX2_isAltered ∈ px_TB := px_t3 40 rfl rfl
set_option maxRecDepth 20000 in
theorem wm_RX2_114 : Cond.methodLink RX2 114 yX2_sourceOf ∈ px_TB := px_t3 48 rfl rfl
set_option maxRecDepth 20000 in
theorem wm_RX2_117 : Cond.methodLink RX2 117 yX2_nextToWrite ∈ px_TB := px_t3 190 rfl rfl
set_option maxRecDepth 20000 in
theorem wm_RX2_121 : Cond.methodLink RX2 121 yX2_isQuarrel ∈ px_TB := px_t3 83 rfl rfl
set_option maxRecDepth 20000 in
theorem wm_RX2_124 : Cond.methodLink RX2 124 Lib.Math.max.name ∈ px_TB := px_t3 210 rfl rfl
set_option maxRecDepth 20000 in
theorem wm_RX2_129 : Cond.methodLink RX2 129 Lib.Math.min.name ∈ px_TB := px_t3 215 rfl rfl
set_option maxRecDepth 20000 in
theorem wm_RX2_46 : Cond.methodLink RX2 46 yX1_isSeenWith ∈ px_TB := px_t2 151 rfl rfl
set_option maxRecDepth 20000 in
theorem wm_RX2_50 : Cond.methodLink RX2 50 yX2_isSeen ∈ px_TB := px_t2 152 rfl rfl
set_option maxRecDepth 20000 in
theorem wm_RX2_54 : Cond.methodLink RX2 54 yX2_findParent ∈ px_TB := px_t2 156 rfl rfl
set_option maxRecDepth 20000 in
theorem wm_RX2_58 : Cond.methodLink RX2 58 yX2_holdLines ∈ px_TB := px_t2 203 rfl rfl
set_option maxRecDepth 20000 in
theorem wm_RX2_65 : Cond.methodLink RX2 65 yX1_has ∈ px_TB := px_t2 160 rfl rfl
set_option maxRecDepth 20000 in
theorem wm_RX2_68 : Cond.methodLink RX2 68 yX2_isFree ∈ px_TB := px_t2 161 rfl rfl
set_option maxRecDepth 20000 in
theorem wm_RX2_74 : Cond.methodLink RX2 74 yX2_isAfter ∈ px_TB := px_t2 169 rfl rfl
set_option maxRecDepth 20000 in
theorem wm_RX2_77 : Cond.methodLink RX2 77 yX0_of ∈ px_TB := px_t2 173 rfl rfl
set_option maxRecDepth 20000 in
theorem wm_RX2_83 : Cond.methodLink RX2 83 yX2_leadsTo ∈ px_TB := px_t2 165 rfl rfl
set_option maxRecDepth 20000 in
theorem wm_RX2_98 : Cond.methodLink RX2 98 yX2_findHeld ∈ px_TB := px_t2 208 rfl rfl
set_option maxRecDepth 20000 in
theorem wm_RX3_101 : Cond.methodLink RX3 101 yX3_makeRow ∈ px_TB := px_t3 121 rfl rfl
set_option maxRecDepth 20000 in
theorem wm_RX3_113 : Cond.methodLink RX3 113 yX5_start ∈ px_TB := px_t3 125 rfl rfl
set_option maxRecDepth 20000 in
theorem wm_RX3_116 : Cond.methodLink RX3 116 yX3_handOverPiece ∈ px_TB := px_t3 129 rfl rfl
set_option maxRecDepth 20000 in
theorem wm_RX3_119 : Cond.methodLink RX3 119 yX5_findRow ∈ px_TB := px_t3 141 rfl rfl
set_option maxRecDepth 20000 in
theorem wm_RX3_122 : Cond.methodLink RX3 122 yX5_addPiece ∈ px_TB := px_t3 133 rfl rfl
set_option maxRecDepth 20000 in
theorem wm_RX3_125 : Cond.methodLink RX3 125 yX5_addText ∈ px_TB := px_t3 137 rfl rfl
set_option maxRecDepth 20000 in
theorem wm_RX3_50 : Cond.methodLink RX3 50 yJ7_fill_53178 ∈ px_TB := px_t3 56 rfl rfl
set_option maxRecDepth 20000 in
theorem wm_RX3_61 : Cond.methodLink RX3 61 yX3_hasPiece ∈ px_TB := px_t3 57 rfl rfl
set_option maxRecDepth 20000 in
theorem wm_RX3_65 : Cond.methodLink RX3 65 yX3_gather ∈ px_TB := px_t3 67 rfl rfl
set_option maxRecDepth 20000 in
theorem wm_RX3_69 : Cond.methodLink RX3 69 yX3_shareText ∈ px_TB := px_t3 71 rfl rfl
set_option maxRecDepth 20000 in
theorem wm_RX3_76 : Cond.methodLink RX3 76 yX2_isSeen ∈ px_TB := px_t3 66 rfl rfl
set_option maxRecDepth 20000 in
theorem wm_RX3_90 : Cond.methodLink RX3 90 yX3_isOfPiece ∈ px_TB := px_t3 61 rfl rfl
set_option maxRecDepth 20000 in
theorem wm_RX3_97 : Cond.methodLink RX3 97 yX3_pieceHas ∈ px_TB := px_t3 75 rfl rfl
set_option maxRecDepth 20000 in
theorem wm_RX4_19 : Cond.methodLink RX4 19 yX7_wordsIn ∈ px_TB := px_t3 239 rfl rfl
set_option maxRecDepth 20000 in
theorem wm_RX4_25 : Cond.methodLink RX4 25 yX4_standsAt ∈ px_TB := px_t4 0 rfl rfl
set_option maxRecDepth 20000 in
theorem wm_RX4_29 : Cond.methodLink RX4 29 yX7_wordAt ∈ px_TB := px_t4 4 rfl rfl
set_option maxRecDepth 20000 in
theorem wm_RX5_32 : Cond.methodLink RX5 32 yX5_goOn ∈ px_TB := px_t3 145 rfl rfl
set_option maxRecDepth 20000 in
theorem wm_RX5_37 : Cond.methodLink RX5 37 yX5_writeRow ∈ px_TB := px_t3 162 rfl rfl
set_option maxRecDepth 20000 in
theorem wm_RX5_41 : Cond.methodLink RX5 41 yX5_wipe ∈ px_TB := px_t3 170 rfl rfl
set_option maxRecDepth 20000 in
theorem wm_RX5_44 : Cond.methodLink RX5 44 yX5_positionOf ∈ px_TB := px_t3 149 rfl rfl
set_option maxRecDepth 20000 in
theorem wm_RX5_49 : Cond.methodLink RX5 49 yX5_leastHeadAbove ∈ px_TB := px_t3 153 rfl rfl
set_option maxRecDepth 20000 in
theorem wm_RX5_53 : Cond.methodLink RX5 53 yX5_stepBy ∈ px_TB := px_t3 157 rfl rfl
set_option maxRecDepth 20000 in
theorem wm_RX5_60 : Cond.methodLink RX5 60 yX5_textOfStep ∈ px_TB := px_t3 166 rfl rfl
set_option maxRecDepth 20000 in
theorem wm_RX6_100 : Cond.methodLink RX6 100 yJ0_length_8abf5 ∈ px_TB := px_t4 59 rfl rfl
set_option maxRecDepth 20000 in
theorem wm_RX6_104 : Cond.methodLink RX6 104 yJ0_charAt_5068e ∈ px_TB := px_t4 69 rfl rfl
set_option maxRecDepth 20000 in
theorem wm_RX6_28 : Cond.methodLink RX6 28 arraycopyName ∈ px_TB := px_t4 30 rfl rfl
set_option maxRecDepth 20000 in
theorem wm_RX6_43 : Cond.methodLink RX6 43 yX6_skipBlanks ∈ px_TB := px_t4 31 rfl rfl
set_option maxRecDepth 20000 in
theorem wm_RX6_46 : Cond.methodLink RX6 46 yX6_readClause ∈ px_TB := px_t4 35 rfl rfl
set_option maxRecDepth 20000 in
theorem wm_RX6_50 : Cond.methodLink RX6 50 yX6_endOfWord ∈ px_TB := px_t4 39 rfl rfl
set_option maxRecDepth 20000 in
theorem wm_RX6_54 : Cond.methodLink RX6 54 yX6_kindOf ∈ px_TB := px_t4 43 rfl rfl
set_option maxRecDepth 20000 in
theorem wm_RX6_58 : Cond.methodLink RX6 58 yX6_blame ∈ px_TB := px_t4 107 rfl rfl
set_option maxRecDepth 20000 in
theorem wm_RX6_62 : Cond.methodLink RX6 62 yX6_readYes ∈ px_TB := px_t4 111 rfl rfl
set_option maxRecDepth 20000 in
theorem wm_RX6_65 : Cond.methodLink RX6 65 yX6_readNumber ∈ px_TB := px_t4 117 rfl rfl
set_option maxRecDepth 20000 in
theorem wm_RX6_69 : Cond.methodLink RX6 69 yX6_readSemicolon ∈ px_TB := px_t4 126 rfl rfl
set_option maxRecDepth 20000 in
theorem wm_RX6_74 : Cond.methodLink RX6 74 yX6_isWord ∈ px_TB := px_t4 55 rfl rfl
set_option maxRecDepth 20000 in
theorem wm_RX6_80 : Cond.methodLink RX6 80 yX6_isFigure ∈ px_TB := px_t4 121 rfl rfl
set_option maxRecDepth 20000 in
theorem wm_RX6_86 : Cond.methodLink RX6 86 yX6_nameOf ∈ px_TB := px_t4 47 rfl rfl
set_option maxRecDepth 20000 in
theorem wm_RX7_13 : Cond.methodLink RX7 13 yX7_wordAt ∈ px_TB := px_t3 9 rfl rfl
set_option maxRecDepth 20000 in
theorem wm_RX8_100 : Cond.methodLink RX8 100 yX8_forgetFindings ∈ px_TB := px_t2 82 rfl rfl
set_option maxRecDepth 20000 in
theorem wm_RX8_103 : Cond.methodLink RX8 103 yX1_addLetter ∈ px_TB := px_t2 86 rfl rfl
set_option maxRecDepth 20000 in
theorem wm_RX8_110 : Cond.methodLink RX8 110 yX1_addLine ∈ px_TB := px_t2 94 rfl rfl
set_option maxRecDepth 20000 in
theorem wm_RX8_114 : Cond.methodLink RX8 114 yX0_forgetLetter ∈ px_TB := px_t2 101 rfl rfl
set_option maxRecDepth 20000 in
theorem wm_RX8_118 : Cond.methodLink RX8 118 yX1_quoteInto ∈ px_TB := px_t2 109 rfl rfl
set_option maxRecDepth 20000 in
theorem wm_RX8_122 : Cond.methodLink RX8 122 yX1_isTaken ∈ px_TB := px_t2 118 rfl rfl
set_option maxRecDepth 20000 in
theorem wm_RX8_125 : Cond.methodLink RX8 125 yX1_turnTaken ∈ px_TB := px_t2 122 rfl rfl
set_option maxRecDepth 20000 in
theorem wm_RX8_143 : Cond.methodLink RX8 143 yX1_isSeen ∈ px_TB := px_t2 138 rfl rfl
set_option maxRecDepth 20000 in
theorem wm_RX8_146 : Cond.methodLink RX8 146 yX2_refresh ∈ px_TB := px_t2 147 rfl rfl
set_option maxRecDepth 20000 in
theorem wm_RX8_149 : Cond.methodLink RX8 149 yX8_aboutKin ∈ px_TB := px_t2 213 rfl rfl
set_option maxRecDepth 20000 in
theorem wm_RX8_153 : Cond.methodLink RX8 153 yX1_hasLine ∈ px_TB := px_t2 239 rfl rfl
set_option maxRecDepth 20000 in
theorem wm_RX8_157 : Cond.methodLink RX8 157 yX8_spotOf ∈ px_TB := px_t3 4 rfl rfl
set_option maxRecDepth 20000 in
theorem wm_RX8_16 : Cond.methodLink RX8 16 arraycopyName ∈ px_TB := px_t1 28 rfl rfl
set_option maxRecDepth 20000 in
theorem wm_RX8_167 : Cond.methodLink RX8 167 yX7_wordsIn ∈ px_TB := px_t3 5 rfl rfl
set_option maxRecDepth 20000 in
theorem wm_RX8_171 : Cond.methodLink RX8 171 yX7_wordOrNone ∈ px_TB := px_t3 6 rfl rfl
set_option maxRecDepth 20000 in
theorem wm_RX8_175 : Cond.methodLink RX8 175 yX0_distance ∈ px_TB := px_t3 14 rfl rfl
set_option maxRecDepth 20000 in
theorem wm_RX8_179 : Cond.methodLink RX8 179 yX0_of ∈ px_TB := px_t2 234 rfl rfl
set_option maxRecDepth 20000 in
theorem wm_RX8_182 : Cond.methodLink RX8 182 yX1_seenLetters ∈ px_TB := px_t3 23 rfl rfl
set_option maxRecDepth 20000 in
theorem wm_RX8_190 : Cond.methodLink RX8 190 yX8_countFindings ∈ px_TB := px_t3 28 rfl rfl
set_option maxRecDepth 20000 in
theorem wm_RX8_194 : Cond.methodLink RX8 194 yX2_sourceOf ∈ px_TB := px_t3 91 rfl rfl
set_option maxRecDepth 20000 in
theorem wm_RX8_197 : Cond.methodLink RX8 197 yX2_isAltered ∈ px_TB := px_t3 96 rfl rfl
set_option maxRecDepth 20000 in
theorem wm_RX8_200 : Cond.methodLink RX8 200 yX2_linesFrom ∈ px_TB := px_t3 44 rfl rfl
set_option maxRecDepth 20000 in
theorem wm_RX8_203 : Cond.methodLink RX8 203 yX3_refresh ∈ px_TB := px_t3 52 rfl rfl
set_option maxRecDepth 20000 in
theorem wm_RX8_208 : Cond.methodLink RX8 208 yX3_has ∈ px_TB := px_t3 109 rfl rfl
set_option maxRecDepth 20000 in
theorem wm_RX8_215 : Cond.methodLink RX8 215 yX3_isLarge ∈ px_TB := px_t3 113 rfl rfl
set_option maxRecDepth 20000 in
theorem wm_RX8_218 : Cond.methodLink RX8 218 yX3_rowLength ∈ px_TB := px_t3 117 rfl rfl
set_option maxRecDepth 20000 in
theorem wm_RX8_221 : Cond.methodLink RX8 221 yX3_rowText ∈ px_TB := px_t3 178 rfl rfl
set_option maxRecDepth 20000 in
theorem wm_RX8_225 : Cond.methodLink RX8 225 yX2_writtenAt ∈ px_TB := px_t3 186 rfl rfl
set_option maxRecDepth 20000 in
theorem wm_RX8_228 : Cond.methodLink RX8 228 yX2_quarrelAt ∈ px_TB := px_t3 198 rfl rfl
set_option maxRecDepth 20000 in
theorem wm_RX8_231 : Cond.methodLink RX8 231 yX2_greatestDayAbove ∈ px_TB := px_t3 206 rfl rfl
set_option maxRecDepth 20000 in
theorem wm_RX8_234 : Cond.methodLink RX8 234 yX2_leastDayBelow ∈ px_TB := px_t3 211 rfl rfl
set_option maxRecDepth 20000 in
theorem wm_RX8_237 : Cond.methodLink RX8 237 yX4_addSign ∈ px_TB := px_t3 220 rfl rfl
set_option maxRecDepth 20000 in
theorem wm_RX8_240 : Cond.methodLink RX8 240 yX8_isWhere ∈ px_TB := px_t3 232 rfl rfl
set_option maxRecDepth 20000 in
theorem wm_RX8_243 : Cond.methodLink RX8 243 yX4_standsIn ∈ px_TB := px_t3 235 rfl rfl
set_option maxRecDepth 20000 in
theorem wm_RX8_247 : Cond.methodLink RX8 247 yX2_linesQuotedAlike ∈ px_TB := px_t4 9 rfl rfl
set_option maxRecDepth 20000 in
theorem wm_RX8_250 : Cond.methodLink RX8 250 yX6_addBytes ∈ px_TB := px_t4 17 rfl rfl
set_option maxRecDepth 20000 in
theorem wm_RX8_254 : Cond.methodLink RX8 254 yX6_readClauses ∈ px_TB := px_t4 25 rfl rfl
set_option maxRecDepth 20000 in
theorem wm_RX8_266 : Cond.methodLink RX8 266 yX0_forgetAll ∈ px_TB := px_t4 130 rfl rfl
set_option maxRecDepth 20000 in
theorem wm_RX8_277 : Cond.methodLink RX8 277 yX2_rootOf ∈ px_TB := px_t2 217 rfl rfl
set_option maxRecDepth 20000 in
theorem wm_RX8_280 : Cond.methodLink RX8 280 yX2_stepsOf ∈ px_TB := px_t2 221 rfl rfl
set_option maxRecDepth 20000 in
theorem wm_RX8_283 : Cond.methodLink RX8 283 yX2_childrenOf ∈ px_TB := px_t2 225 rfl rfl
set_option maxRecDepth 20000 in
theorem wm_RX8_286 : Cond.methodLink RX8 286 yX2_lettersOfThread ∈ px_TB := px_t2 229 rfl rfl
set_option maxRecDepth 20000 in
theorem wm_RX8_289 : Cond.methodLink RX8 289 yX2_roots ∈ px_TB := px_t3 32 rfl rfl
set_option maxRecDepth 20000 in
theorem wm_RX8_292 : Cond.methodLink RX8 292 yX2_alteredLines ∈ px_TB := px_t3 36 rfl rfl
set_option maxRecDepth 20000 in
theorem wm_RX8_298 : Cond.methodLink RX8 298 yX2_quarrels ∈ px_TB := px_t3 79 rfl rfl
set_option maxRecDepth 20000 in
theorem wm_RX8_81 : Cond.methodLink RX8 81 yX7_with ∈ px_TB := px_t2 65 rfl rfl
set_option maxRecDepth 20000 in
theorem wm_RX8_87 : Cond.methodLink RX8 87 yX1_has ∈ px_TB := px_t2 72 rfl rfl
set_option maxRecDepth 20000 in
theorem wm_RX8_91 : Cond.methodLink RX8 91 yX8_isWrongWriter ∈ px_TB := px_t2 76 rfl rfl
set_option maxRecDepth 20000 in
theorem wm_RX8_94 : Cond.methodLink RX8 94 yX8_isWrongDay ∈ px_TB := px_t2 79 rfl rfl
set_option maxRecDepth 20000 in
theorem wm_RX9_116 : Cond.methodLink RX9 116 yX9_letter ∈ px_TB := px_t5 51 rfl rfl
set_option maxRecDepth 20000 in
theorem wm_RX9_120 : Cond.methodLink RX9 120 yX9_one ∈ px_TB := px_t5 52 rfl rfl
set_option maxRecDepth 20000 in
theorem wm_RX9_124 : Cond.methodLink RX9 124 yX9_differBy ∈ px_TB := px_t5 75 rfl rfl
set_option maxRecDepth 20000 in
theorem wm_RX9_128 : Cond.methodLink RX9 128 yX9_noLine ∈ px_TB := px_t5 71 rfl rfl
set_option maxRecDepth 20000 in
theorem wm_RX9_132 : Cond.methodLink RX9 132 yX9_isLike ∈ px_TB := px_t5 91 rfl rfl
set_option maxRecDepth 20000 in
theorem wm_RX9_135 : Cond.methodLink RX9 135 yX9_isSeen ∈ px_TB := px_t5 83 rfl rfl
set_option maxRecDepth 20000 in
theorem wm_RX9_138 : Cond.methodLink RX9 138 yX9_fitOf ∈ px_TB := px_t5 87 rfl rfl
set_option maxRecDepth 20000 in
theorem wm_RX9_141 : Cond.methodLink RX9 141 yX9_comesTo ∈ px_TB := px_t5 108 rfl rfl
set_option maxRecDepth 20000 in
theorem wm_RX9_144 : Cond.methodLink RX9 144 yX9_fitting ∈ px_TB := px_t5 112 rfl rfl
set_option maxRecDepth 20000 in
theorem wm_RX9_147 : Cond.methodLink RX9 147 yX9_quoted ∈ px_TB := px_t5 100 rfl rfl
set_option maxRecDepth 20000 in
theorem wm_RX9_152 : Cond.methodLink RX9 152 yX9_findParents ∈ px_TB := px_t5 104 rfl rfl
set_option maxRecDepth 20000 in
theorem wm_RX9_155 : Cond.methodLink RX9 155 yX9_rootOf ∈ px_TB := px_t5 116 rfl rfl
set_option maxRecDepth 20000 in
theorem wm_RX9_158 : Cond.methodLink RX9 158 yX9_stepsOf ∈ px_TB := px_t5 120 rfl rfl
set_option maxRecDepth 20000 in
theorem wm_RX9_161 : Cond.methodLink RX9 161 yX9_isSame ∈ px_TB := px_t5 141 rfl rfl
set_option maxRecDepth 20000 in
theorem wm_RX9_164 : Cond.methodLink RX9 164 yX9_heldTo ∈ px_TB := px_t5 137 rfl rfl
set_option maxRecDepth 20000 in
theorem wm_RX9_169 : Cond.methodLink RX9 169 yX9_originOf ∈ px_TB := px_t5 133 rfl rfl
set_option maxRecDepth 20000 in
theorem wm_RX9_172 : Cond.methodLink RX9 172 yX9_isAltered ∈ px_TB := px_t5 149 rfl rfl
set_option maxRecDepth 20000 in
theorem wm_RX9_175 : Cond.methodLink RX9 175 yX9_isPiece ∈ px_TB := px_t5 169 rfl rfl
set_option maxRecDepth 20000 in
theorem wm_RX9_178 : Cond.methodLink RX9 178 yX9_hasPiece ∈ px_TB := px_t5 165 rfl rfl
set_option maxRecDepth 20000 in
theorem wm_RX9_181 : Cond.methodLink RX9 181 yX9_haveCommon ∈ px_TB := px_t5 173 rfl rfl
set_option maxRecDepth 20000 in
theorem wm_RX9_187 : Cond.methodLink RX9 187 yX9_findGroups ∈ px_TB := px_t5 161 rfl rfl
set_option maxRecDepth 20000 in
theorem wm_RX9_193 : Cond.methodLink RX9 193 yX9_textAt ∈ px_TB := px_t5 193 rfl rfl
set_option maxRecDepth 20000 in
theorem wm_RX9_196 : Cond.methodLink RX9 196 yX9_step ∈ px_TB := px_t5 201 rfl rfl
set_option maxRecDepth 20000 in
theorem wm_RX9_199 : Cond.methodLink RX9 199 yX9_isWithin ∈ px_TB := px_t5 189 rfl rfl
set_option maxRecDepth 20000 in
theorem wm_RX9_202 : Cond.methodLink RX9 202 yX9_behind ∈ px_TB := px_t5 197 rfl rfl
set_option maxRecDepth 20000 in
theorem wm_RX9_208 : Cond.methodLink RX9 208 yX9_isLess ∈ px_TB := px_t5 204 rfl rfl
set_option maxRecDepth 20000 in
theorem wm_RX9_211 : Cond.methodLink RX9 211 yX9_findPieces ∈ px_TB := px_t5 181 rfl rfl
set_option maxRecDepth 20000 in
theorem wm_RX9_215 : Cond.methodLink RX9 215 yX9_findRow ∈ px_TB := px_t5 185 rfl rfl
set_option maxRecDepth 20000 in
theorem wm_RX9_218 : Cond.methodLink RX9 218 yX9_quarrels ∈ px_TB := px_t5 220 rfl rfl
set_option maxRecDepth 20000 in
theorem wm_RX9_224 : Cond.methodLink RX9 224 yX9_hasSigns ∈ px_TB := px_t6 0 rfl rfl
set_option maxRecDepth 20000 in
theorem wm_RX9_242 : Cond.methodLink RX9 242 yX9_look ∈ px_TB := px_t6 23 rfl rfl
set_option maxRecDepth 20000 in
theorem wm_RX9_260 : Cond.methodLink RX9 260 yX9_want ∈ px_TB := px_t6 41 rfl rfl
set_option maxRecDepth 20000 in
theorem wm_RX9_264 : Cond.methodLink RX9 264 yX9_isWord ∈ px_TB := px_t6 37 rfl rfl
set_option maxRecDepth 20000 in
theorem wm_RX9_268 : Cond.methodLink RX9 268 yX9_takeWord ∈ px_TB := px_t6 27 rfl rfl
set_option maxRecDepth 20000 in
theorem wm_RX9_271 : Cond.methodLink RX9 271 yX9_takeNumber ∈ px_TB := px_t6 49 rfl rfl
set_option maxRecDepth 20000 in
theorem wm_RX9_274 : Cond.methodLink RX9 274 yX9_kindOf ∈ px_TB := px_t6 33 rfl rfl
set_option maxRecDepth 20000 in
theorem wm_RX9_277 : Cond.methodLink RX9 277 yX9_readClause ∈ px_TB := px_t6 45 rfl rfl
set_option maxRecDepth 20000 in
theorem wm_RX9_88 : Cond.methodLink RX9 88 yX9_atFirst ∈ px_TB := px_t4 150 rfl rfl
set_option maxRecDepth 20000 in
theorem wm_RX9_95 : Cond.methodLink RX9 95 yX9_in ∈ px_TB := px_t5 28 rfl rfl
set_option maxRecDepth 20000 in
theorem wm_RX9_99 : Cond.methodLink RX9 99 yX9_noLetter ∈ px_TB := px_t5 35 rfl rfl
set_option maxRecDepth 20000 in
theorem wn_RJ0 : Cond.initialized RJ0 ∈ px_TB := px_t1 14 rfl rfl
set_option maxRecDepth 20000 in
theorem wn_RJ1 : Cond.initialized RJ1 ∈ px_TB := px_t1 15 rfl rfl
set_option maxRecDepth 20000 in
theorem wn_RJ10 : Cond.initialized RJ10 ∈ px_TB := px_t1 2 rfl rfl
set_option maxRecDepth 20000 in
theorem wn_RJ3 : Cond.initialized RJ3 ∈ px_TB := px_t1 16 rfl rfl
set_option maxRecDepth 20000 in
theorem wn_RJ7 : Cond.initialized RJ7 ∈ px_TB := px_t1 5 rfl rfl
set_option maxRecDepth 20000 in
theorem wn_RJ9 : Cond.initialized RJ9 ∈ px_TB := px_t1 13 rfl rfl
set_option maxRecDepth 20000 in
theorem wn_RX0 : Cond.initialized RX0 ∈ px_TB := px_t1 4 rfl rfl
set_option maxRecDepth 20000 in
theorem wn_RX1 : Cond.initialized RX1 ∈ px_TB := px_t1 3 rfl rfl
set_option maxRecDepth 20000 in
theorem wn_RX2 : Cond.initialized RX2 ∈ px_TB := px_t1 6 rfl rfl
set_option maxRecDepth 20000 in
theorem wn_RX3 : Cond.initialized RX3 ∈ px_TB := px_t1 7 rfl rfl
set_option maxRecDepth 20000 in
theorem wn_RX4 : Cond.initialized RX4 ∈ px_TB := px_t1 9 rfl rfl
set_option maxRecDepth 20000 in
theorem wn_RX5 : Cond.initialized RX5 ∈ px_TB := px_t1 8 rfl rfl
set_option maxRecDepth 20000 in
theorem wn_RX6 : Cond.initialized RX6 ∈ px_TB := px_t1 10 rfl rfl
set_option maxRecDepth 20000 in
theorem wn_RX7 : Cond.initialized RX7 ∈ px_TB := px_t1 12 rfl rfl
set_option maxRecDepth 20000 in
theorem wn_RX8 : Cond.initialized RX8 ∈ px_TB := px_t1 1 rfl rfl
set_option maxRecDepth 20000 in
theorem wn_RX9 : Cond.initialized RX9 ∈ px_TB := px_t1 11 rfl rfl
set_option maxRecDepth 20000 in
theorem ws_arraycopy : Cond.static arraycopyName ∈ px_TB := px_t1 29 rfl rfl
set_option maxRecDepth 20000 in
theorem ws_max : Cond.static Lib.Math.max.name ∈ px_TB := px_t2 182 rfl rfl
set_option maxRecDepth 20000 in
theorem ws_min : Cond.static Lib.Math.min.name ∈ px_TB := px_t2 201 rfl rfl
set_option maxRecDepth 20000 in
theorem ws_yJ0_checkIndex_df160 : Cond.static yJ0_checkIndex_df160 ∈ px_TB := px_t4 81 rfl rfl
set_option maxRecDepth 20000 in
theorem ws_yJ1_charAt_3b067 : Cond.static yJ1_charAt_3b067 ∈ px_TB := px_t4 78 rfl rfl
set_option maxRecDepth 20000 in
theorem ws_yJ3_checkIndex_8e157 : Cond.static yJ3_checkIndex_8e157 ∈ px_TB := px_t4 86 rfl rfl
set_option maxRecDepth 20000 in
theorem ws_yJ7_fill_53178 : Cond.static yJ7_fill_53178 ∈ px_TB := px_t1 100 rfl rfl
set_option maxRecDepth 20000 in
theorem ws_yX5_positionOf : Cond.static yX5_positionOf ∈ px_TB := px_t3 150 rfl rfl
set_option maxRecDepth 20000 in
theorem ws_yX6_isFigure : Cond.static yX6_isFigure ∈ px_TB := px_t4 122 rfl rfl
set_option maxRecDepth 20000 in
theorem ws_yX6_nameOf : Cond.static yX6_nameOf ∈ px_TB := px_t4 48 rfl rfl
set_option maxRecDepth 20000 in
theorem ws_yX7_with : Cond.static yX7_with ∈ px_TB := px_t2 66 rfl rfl
set_option maxRecDepth 20000 in
theorem ws_yX7_wordAt : Cond.static yX7_wordAt ∈ px_TB := px_t2 198 rfl rfl
set_option maxRecDepth 20000 in
theorem ws_yX7_wordOrNone : Cond.static yX7_wordOrNone ∈ px_TB := px_t3 7 rfl rfl
set_option maxRecDepth 20000 in
theorem ws_yX7_wordsIn : Cond.static yX7_wordsIn ∈ px_TB := px_t2 194 rfl rfl
set_option maxRecDepth 20000 in
theorem ws_yX8_isWhere : Cond.static yX8_isWhere ∈ px_TB := px_t3 233 rfl rfl
set_option maxRecDepth 20000 in
theorem ws_yX8_isWrongDay : Cond.static yX8_isWrongDay ∈ px_TB := px_t2 80 rfl rfl
set_option maxRecDepth 20000 in
theorem ws_yX8_isWrongWriter : Cond.static yX8_isWrongWriter ∈ px_TB := px_t2 77 rfl rfl
set_option maxRecDepth 20000 in
theorem ws_yX8_spotOf : Cond.static yX8_spotOf ∈ px_TB := px_t2 99 rfl rfl
set_option maxRecDepth 20000 in
theorem ws_yX9_atFirst : Cond.static yX9_atFirst ∈ px_TB := px_t4 151 rfl rfl
set_option maxRecDepth 20000 in
theorem ws_yX9_in : Cond.static yX9_in ∈ px_TB := px_t5 29 rfl rfl
set_option maxRecDepth 20000 in
theorem ws_yX9_one : Cond.static yX9_one ∈ px_TB := px_t5 53 rfl rfl
set_option maxRecDepth 20000 in
theorem ws_yX9_step : Cond.static yX9_step ∈ px_TB := px_t5 202 rfl rfl
set_option maxRecDepth 20000 in
theorem kl_X0_0 : u_lay RX0 TX0 0 ∈ px_TB := px_t1 107 rfl rfl
set_option maxRecDepth 20000 in
theorem kl_X0_1 : u_lay RX0 TX0 1 ∈ px_TB := px_t1 109 rfl rfl
set_option maxRecDepth 20000 in
theorem kl_X0_2 : u_lay RX0 TX0 2 ∈ px_TB := px_t1 111 rfl rfl
set_option maxRecDepth 20000 in
theorem kl_X0_3 : u_lay RX0 TX0 3 ∈ px_TB := px_t1 113 rfl rfl
set_option maxRecDepth 20000 in
theorem kl_X0_4 : u_lay RX0 TX0 4 ∈ px_TB := px_t1 115 rfl rfl
theorem ku_X0 : ∀ w ∈ u_ws RX0 TX0 5, w ∈ px_TB := by
  intro w hw
  obtain ⟨j, hj, rfl⟩ := List.mem_map.mp hw
  have hj := List.mem_range.mp hj
  match j, hj with
  | 0, _ => exact kl_X0_0
  | 1, _ => exact kl_X0_1
  | 2, _ => exact kl_X0_2
  | 3, _ => exact kl_X0_3
  | 4, _ => exact kl_X0_4
  | j + 5, h => omega
theorem kc_X0 : px_Kc 0 RX0 TX0 5 := ⟨rfl, ku_X0, nmX0, tyX0, tyX0_ok⟩
set_option maxRecDepth 20000 in
theorem kl_X1_0 : u_lay RX1 TX1 0 ∈ px_TB := px_t1 70 rfl rfl
set_option maxRecDepth 20000 in
theorem kl_X1_1 : u_lay RX1 TX1 1 ∈ px_TB := px_t1 72 rfl rfl
set_option maxRecDepth 20000 in
theorem kl_X1_2 : u_lay RX1 TX1 2 ∈ px_TB := px_t1 74 rfl rfl
set_option maxRecDepth 20000 in
theorem kl_X1_3 : u_lay RX1 TX1 3 ∈ px_TB := px_t1 76 rfl rfl
set_option maxRecDepth 20000 in
theorem kl_X1_4 : u_lay RX1 TX1 4 ∈ px_TB := px_t1 78 rfl rfl
set_option maxRecDepth 20000 in
theorem kl_X1_5 : u_lay RX1 TX1 5 ∈ px_TB := px_t1 80 rfl rfl
set_option maxRecDepth 20000 in
theorem kl_X1_6 : u_lay RX1 TX1 6 ∈ px_TB := px_t1 82 rfl rfl
set_option maxRecDepth 20000 in
theorem kl_X1_7 : u_lay RX1 TX1 7 ∈ px_TB := px_t1 84 rfl rfl
set_option maxRecDepth 20000 in
theorem kl_X1_8 : u_lay RX1 TX1 8 ∈ px_TB := px_t1 86 rfl rfl
set_option maxRecDepth 20000 in
theorem kl_X1_9 : u_lay RX1 TX1 9 ∈ px_TB := px_t1 88 rfl rfl
theorem ku_X1 : ∀ w ∈ u_ws RX1 TX1 10, w ∈ px_TB := by
  intro w hw
  obtain ⟨j, hj, rfl⟩ := List.mem_map.mp hw
  have hj := List.mem_range.mp hj
  match j, hj with
  | 0, _ => exact kl_X1_0
  | 1, _ => exact kl_X1_1
  | 2, _ => exact kl_X1_2
  | 3, _ => exact kl_X1_3
  | 4, _ => exact kl_X1_4
  | 5, _ => exact kl_X1_5
  | 6, _ => exact kl_X1_6
  | 7, _ => exact kl_X1_7
  | 8, _ => exact kl_X1_8
  | 9, _ => exact kl_X1_9
  | j + 10, h => omega
theorem kc_X1 : px_Kc 1 RX1 TX1 10 := ⟨rfl, ku_X1, nmX1, tyX1, tyX1_ok⟩
set_option maxRecDepth 20000 in
theorem kl_X2_0 : u_lay RX2 TX2 0 ∈ px_TB := px_t1 135 rfl rfl
set_option maxRecDepth 20000 in
theorem kl_X2_1 : u_lay RX2 TX2 1 ∈ px_TB := px_t1 137 rfl rfl
set_option maxRecDepth 20000 in
theorem kl_X2_2 : u_lay RX2 TX2 2 ∈ px_TB := px_t1 139 rfl rfl
set_option maxRecDepth 20000 in
theorem kl_X2_3 : u_lay RX2 TX2 3 ∈ px_TB := px_t1 141 rfl rfl
set_option maxRecDepth 20000 in
theorem kl_X2_4 : u_lay RX2 TX2 4 ∈ px_TB := px_t1 143 rfl rfl
set_option maxRecDepth 20000 in
theorem kl_X2_5 : u_lay RX2 TX2 5 ∈ px_TB := px_t1 145 rfl rfl
set_option maxRecDepth 20000 in
theorem kl_X2_6 : u_lay RX2 TX2 6 ∈ px_TB := px_t1 147 rfl rfl
set_option maxRecDepth 20000 in
theorem kl_X2_7 : u_lay RX2 TX2 7 ∈ px_TB := px_t1 149 rfl rfl
theorem ku_X2 : ∀ w ∈ u_ws RX2 TX2 8, w ∈ px_TB := by
  intro w hw
  obtain ⟨j, hj, rfl⟩ := List.mem_map.mp hw
  have hj := List.mem_range.mp hj
  match j, hj with
  | 0, _ => exact kl_X2_0
  | 1, _ => exact kl_X2_1
  | 2, _ => exact kl_X2_2
  | 3, _ => exact kl_X2_3
  | 4, _ => exact kl_X2_4
  | 5, _ => exact kl_X2_5
  | 6, _ => exact kl_X2_6
  | 7, _ => exact kl_X2_7
  | j + 8, h => omega
theorem kc_X2 : px_Kc 2 RX2 TX2 8 := ⟨rfl, ku_X2, nmX2, tyX2, tyX2_ok⟩
set_option maxRecDepth 20000 in
theorem kl_X3_0 : u_lay RX3 TX3 0 ∈ px_TB := px_t1 203 rfl rfl
set_option maxRecDepth 20000 in
theorem kl_X3_1 : u_lay RX3 TX3 1 ∈ px_TB := px_t1 205 rfl rfl
set_option maxRecDepth 20000 in
theorem kl_X3_2 : u_lay RX3 TX3 2 ∈ px_TB := px_t1 207 rfl rfl
set_option maxRecDepth 20000 in
theorem kl_X3_3 : u_lay RX3 TX3 3 ∈ px_TB := px_t1 209 rfl rfl
set_option maxRecDepth 20000 in
theorem kl_X3_4 : u_lay RX3 TX3 4 ∈ px_TB := px_t1 211 rfl rfl
set_option maxRecDepth 20000 in
theorem kl_X3_5 : u_lay RX3 TX3 5 ∈ px_TB := px_t1 213 rfl rfl
set_option maxRecDepth 20000 in
theorem kl_X3_6 : u_lay RX3 TX3 6 ∈ px_TB := px_t1 215 rfl rfl
set_option maxRecDepth 20000 in
theorem kl_X3_7 : u_lay RX3 TX3 7 ∈ px_TB := px_t1 217 rfl rfl
set_option maxRecDepth 20000 in
theorem kl_X3_8 : u_lay RX3 TX3 8 ∈ px_TB := px_t1 219 rfl rfl
set_option maxRecDepth 20000 in
theorem kl_X3_9 : u_lay RX3 TX3 9 ∈ px_TB := px_t1 221 rfl rfl
theorem ku_X3 : ∀ w ∈ u_ws RX3 TX3 10, w ∈ px_TB := by
  intro w hw
  obtain ⟨j, hj, rfl⟩ := List.mem_map.mp hw
  have hj := List.mem_range.mp hj
  match j, hj with
  | 0, _ => exact kl_X3_0
  | 1, _ => exact kl_X3_1
  | 2, _ => exact kl_X3_2
  | 3, _ => exact kl_X3_3
  | 4, _ => exact kl_X3_4
  | 5, _ => exact kl_X3_5
  | 6, _ => exact kl_X3_6
  | 7, _ => exact kl_X3_7
  | 8, _ => exact kl_X3_8
  | 9, _ => exact kl_X3_9
  | j + 10, h => omega
theorem kc_X3 : px_Kc 3 RX3 TX3 10 := ⟨rfl, ku_X3, nmX3, tyX3, tyX3_ok⟩
set_option maxRecDepth 20000 in
theorem kl_X4_0 : u_lay RX4 TX4 0 ∈ px_TB := px_t1 233 rfl rfl
set_option maxRecDepth 20000 in
theorem kl_X4_1 : u_lay RX4 TX4 1 ∈ px_TB := px_t1 235 rfl rfl
theorem ku_X4 : ∀ w ∈ u_ws RX4 TX4 2, w ∈ px_TB := by
  intro w hw
  obtain ⟨j, hj, rfl⟩ := List.mem_map.mp hw
  have hj := List.mem_range.mp hj
  match j, hj with
  | 0, _ => exact kl_X4_0
  | 1, _ => exact kl_X4_1
  | j + 2, h => omega
theorem kc_X4 : px_Kc 4 RX4 TX4 2 := ⟨rfl, ku_X4, nmX4, tyX4, tyX4_ok⟩
set_option maxRecDepth 20000 in
theorem kl_X5_0 : u_lay RX5 TX5 0 ∈ px_TB := px_t1 173 rfl rfl
set_option maxRecDepth 20000 in
theorem kl_X5_1 : u_lay RX5 TX5 1 ∈ px_TB := px_t1 175 rfl rfl
set_option maxRecDepth 20000 in
theorem kl_X5_2 : u_lay RX5 TX5 2 ∈ px_TB := px_t1 177 rfl rfl
set_option maxRecDepth 20000 in
theorem kl_X5_3 : u_lay RX5 TX5 3 ∈ px_TB := px_t1 179 rfl rfl
set_option maxRecDepth 20000 in
theorem kl_X5_4 : u_lay RX5 TX5 4 ∈ px_TB := px_t1 181 rfl rfl
set_option maxRecDepth 20000 in
theorem kl_X5_5 : u_lay RX5 TX5 5 ∈ px_TB := px_t1 183 rfl rfl
set_option maxRecDepth 20000 in
theorem kl_X5_6 : u_lay RX5 TX5 6 ∈ px_TB := px_t1 185 rfl rfl
theorem ku_X5 : ∀ w ∈ u_ws RX5 TX5 7, w ∈ px_TB := by
  intro w hw
  obtain ⟨j, hj, rfl⟩ := List.mem_map.mp hw
  have hj := List.mem_range.mp hj
  match j, hj with
  | 0, _ => exact kl_X5_0
  | 1, _ => exact kl_X5_1
  | 2, _ => exact kl_X5_2
  | 3, _ => exact kl_X5_3
  | 4, _ => exact kl_X5_4
  | 5, _ => exact kl_X5_5
  | 6, _ => exact kl_X5_6
  | j + 7, h => omega
theorem kc_X5 : px_Kc 5 RX5 TX5 7 := ⟨rfl, ku_X5, nmX5, tyX5, tyX5_ok⟩
set_option maxRecDepth 20000 in
theorem kl_X6_0 : u_lay RX6 TX6 0 ∈ px_TB := px_t2 15 rfl rfl
set_option maxRecDepth 20000 in
theorem kl_X6_1 : u_lay RX6 TX6 1 ∈ px_TB := px_t2 17 rfl rfl
set_option maxRecDepth 20000 in
theorem kl_X6_2 : u_lay RX6 TX6 2 ∈ px_TB := px_t2 19 rfl rfl
set_option maxRecDepth 20000 in
theorem kl_X6_3 : u_lay RX6 TX6 3 ∈ px_TB := px_t2 21 rfl rfl
set_option maxRecDepth 20000 in
theorem kl_X6_4 : u_lay RX6 TX6 4 ∈ px_TB := px_t2 23 rfl rfl
set_option maxRecDepth 20000 in
theorem kl_X6_5 : u_lay RX6 TX6 5 ∈ px_TB := px_t2 25 rfl rfl
set_option maxRecDepth 20000 in
theorem kl_X6_6 : u_lay RX6 TX6 6 ∈ px_TB := px_t2 27 rfl rfl
theorem ku_X6 : ∀ w ∈ u_ws RX6 TX6 7, w ∈ px_TB := by
  intro w hw
  obtain ⟨j, hj, rfl⟩ := List.mem_map.mp hw
  have hj := List.mem_range.mp hj
  match j, hj with
  | 0, _ => exact kl_X6_0
  | 1, _ => exact kl_X6_1
  | 2, _ => exact kl_X6_2
  | 3, _ => exact kl_X6_3
  | 4, _ => exact kl_X6_4
  | 5, _ => exact kl_X6_5
  | 6, _ => exact kl_X6_6
  | j + 7, h => omega
theorem kc_X6 : px_Kc 6 RX6 TX6 7 := ⟨rfl, ku_X6, nmX6, tyX6, tyX6_ok⟩
set_option maxRecDepth 20000 in
theorem kl_X8_0 : u_lay RX8 TX8 0 ∈ px_TB := px_t2 40 rfl rfl
set_option maxRecDepth 20000 in
theorem kl_X8_1 : u_lay RX8 TX8 1 ∈ px_TB := px_t2 42 rfl rfl
set_option maxRecDepth 20000 in
theorem kl_X8_2 : u_lay RX8 TX8 2 ∈ px_TB := px_t2 44 rfl rfl
set_option maxRecDepth 20000 in
theorem kl_X8_3 : u_lay RX8 TX8 3 ∈ px_TB := px_t2 46 rfl rfl
set_option maxRecDepth 20000 in
theorem kl_X8_4 : u_lay RX8 TX8 4 ∈ px_TB := px_t2 48 rfl rfl
set_option maxRecDepth 20000 in
theorem kl_X8_5 : u_lay RX8 TX8 5 ∈ px_TB := px_t2 50 rfl rfl
set_option maxRecDepth 20000 in
theorem kl_X8_6 : u_lay RX8 TX8 6 ∈ px_TB := px_t2 52 rfl rfl
set_option maxRecDepth 20000 in
theorem kl_X8_7 : u_lay RX8 TX8 7 ∈ px_TB := px_t2 54 rfl rfl
set_option maxRecDepth 20000 in
theorem kl_X8_8 : u_lay RX8 TX8 8 ∈ px_TB := px_t2 56 rfl rfl
set_option maxRecDepth 20000 in
theorem kl_X8_9 : u_lay RX8 TX8 9 ∈ px_TB := px_t2 58 rfl rfl
theorem ku_X8 : ∀ w ∈ u_ws RX8 TX8 10, w ∈ px_TB := by
  intro w hw
  obtain ⟨j, hj, rfl⟩ := List.mem_map.mp hw
  have hj := List.mem_range.mp hj
  match j, hj with
  | 0, _ => exact kl_X8_0
  | 1, _ => exact kl_X8_1
  | 2, _ => exact kl_X8_2
  | 3, _ => exact kl_X8_3
  | 4, _ => exact kl_X8_4
  | 5, _ => exact kl_X8_5
  | 6, _ => exact kl_X8_6
  | 7, _ => exact kl_X8_7
  | 8, _ => exact kl_X8_8
  | 9, _ => exact kl_X8_9
  | j + 10, h => omega
theorem kc_X8 : px_Kc 7 RX8 TX8 10 := ⟨rfl, ku_X8, nmX8, tyX8, tyX8_ok⟩
set_option maxRecDepth 20000 in
theorem kl_X9_0 : u_lay RX9 TX9 0 ∈ px_TB := px_t4 189 rfl rfl
set_option maxRecDepth 20000 in
theorem kl_X9_1 : u_lay RX9 TX9 1 ∈ px_TB := px_t4 191 rfl rfl
set_option maxRecDepth 20000 in
theorem kl_X9_2 : u_lay RX9 TX9 2 ∈ px_TB := px_t4 193 rfl rfl
set_option maxRecDepth 20000 in
theorem kl_X9_3 : u_lay RX9 TX9 3 ∈ px_TB := px_t4 195 rfl rfl
set_option maxRecDepth 20000 in
theorem kl_X9_4 : u_lay RX9 TX9 4 ∈ px_TB := px_t4 197 rfl rfl
set_option maxRecDepth 20000 in
theorem kl_X9_5 : u_lay RX9 TX9 5 ∈ px_TB := px_t4 199 rfl rfl
set_option maxRecDepth 20000 in
theorem kl_X9_6 : u_lay RX9 TX9 6 ∈ px_TB := px_t4 201 rfl rfl
set_option maxRecDepth 20000 in
theorem kl_X9_7 : u_lay RX9 TX9 7 ∈ px_TB := px_t4 203 rfl rfl
set_option maxRecDepth 20000 in
theorem kl_X9_8 : u_lay RX9 TX9 8 ∈ px_TB := px_t4 205 rfl rfl
set_option maxRecDepth 20000 in
theorem kl_X9_9 : u_lay RX9 TX9 9 ∈ px_TB := px_t4 207 rfl rfl
set_option maxRecDepth 20000 in
theorem kl_X9_10 : u_lay RX9 TX9 10 ∈ px_TB := px_t4 209 rfl rfl
set_option maxRecDepth 20000 in
theorem kl_X9_11 : u_lay RX9 TX9 11 ∈ px_TB := px_t4 211 rfl rfl
set_option maxRecDepth 20000 in
theorem kl_X9_12 : u_lay RX9 TX9 12 ∈ px_TB := px_t4 213 rfl rfl
set_option maxRecDepth 20000 in
theorem kl_X9_13 : u_lay RX9 TX9 13 ∈ px_TB := px_t4 215 rfl rfl
set_option maxRecDepth 20000 in
theorem kl_X9_14 : u_lay RX9 TX9 14 ∈ px_TB := px_t4 217 rfl rfl
set_option maxRecDepth 20000 in
theorem kl_X9_15 : u_lay RX9 TX9 15 ∈ px_TB := px_t4 219 rfl rfl
set_option maxRecDepth 20000 in
theorem kl_X9_16 : u_lay RX9 TX9 16 ∈ px_TB := px_t4 221 rfl rfl
set_option maxRecDepth 20000 in
theorem kl_X9_17 : u_lay RX9 TX9 17 ∈ px_TB := px_t4 223 rfl rfl
set_option maxRecDepth 20000 in
theorem kl_X9_18 : u_lay RX9 TX9 18 ∈ px_TB := px_t4 225 rfl rfl
set_option maxRecDepth 20000 in
theorem kl_X9_19 : u_lay RX9 TX9 19 ∈ px_TB := px_t4 227 rfl rfl
set_option maxRecDepth 20000 in
theorem kl_X9_20 : u_lay RX9 TX9 20 ∈ px_TB := px_t4 229 rfl rfl
set_option maxRecDepth 20000 in
theorem kl_X9_21 : u_lay RX9 TX9 21 ∈ px_TB := px_t4 231 rfl rfl
set_option maxRecDepth 20000 in
theorem kl_X9_22 : u_lay RX9 TX9 22 ∈ px_TB := px_t4 233 rfl rfl
set_option maxRecDepth 20000 in
theorem kl_X9_23 : u_lay RX9 TX9 23 ∈ px_TB := px_t4 235 rfl rfl
set_option maxRecDepth 20000 in
theorem kl_X9_24 : u_lay RX9 TX9 24 ∈ px_TB := px_t4 237 rfl rfl
set_option maxRecDepth 20000 in
theorem kl_X9_25 : u_lay RX9 TX9 25 ∈ px_TB := px_t4 239 rfl rfl
set_option maxRecDepth 20000 in
theorem kl_X9_26 : u_lay RX9 TX9 26 ∈ px_TB := px_t5 1 rfl rfl
set_option maxRecDepth 20000 in
theorem kl_X9_27 : u_lay RX9 TX9 27 ∈ px_TB := px_t5 3 rfl rfl
set_option maxRecDepth 20000 in
theorem kl_X9_28 : u_lay RX9 TX9 28 ∈ px_TB := px_t5 5 rfl rfl
set_option maxRecDepth 20000 in
theorem kl_X9_29 : u_lay RX9 TX9 29 ∈ px_TB := px_t5 7 rfl rfl
set_option maxRecDepth 20000 in
theorem kl_X9_30 : u_lay RX9 TX9 30 ∈ px_TB := px_t5 9 rfl rfl
set_option maxRecDepth 20000 in
theorem kl_X9_31 : u_lay RX9 TX9 31 ∈ px_TB := px_t5 11 rfl rfl
set_option maxRecDepth 20000 in
theorem kl_X9_32 : u_lay RX9 TX9 32 ∈ px_TB := px_t5 13 rfl rfl
set_option maxRecDepth 20000 in
theorem kl_X9_33 : u_lay RX9 TX9 33 ∈ px_TB := px_t5 15 rfl rfl
set_option maxRecDepth 20000 in
theorem kl_X9_34 : u_lay RX9 TX9 34 ∈ px_TB := px_t5 17 rfl rfl
set_option maxRecDepth 20000 in
theorem kl_X9_35 : u_lay RX9 TX9 35 ∈ px_TB := px_t5 19 rfl rfl
theorem ku_X9 : ∀ w ∈ u_ws RX9 TX9 36, w ∈ px_TB := by
  intro w hw
  obtain ⟨j, hj, rfl⟩ := List.mem_map.mp hw
  have hj := List.mem_range.mp hj
  match j, hj with
  | 0, _ => exact kl_X9_0
  | 1, _ => exact kl_X9_1
  | 2, _ => exact kl_X9_2
  | 3, _ => exact kl_X9_3
  | 4, _ => exact kl_X9_4
  | 5, _ => exact kl_X9_5
  | 6, _ => exact kl_X9_6
  | 7, _ => exact kl_X9_7
  | 8, _ => exact kl_X9_8
  | 9, _ => exact kl_X9_9
  | 10, _ => exact kl_X9_10
  | 11, _ => exact kl_X9_11
  | 12, _ => exact kl_X9_12
  | 13, _ => exact kl_X9_13
  | 14, _ => exact kl_X9_14
  | 15, _ => exact kl_X9_15
  | 16, _ => exact kl_X9_16
  | 17, _ => exact kl_X9_17
  | 18, _ => exact kl_X9_18
  | 19, _ => exact kl_X9_19
  | 20, _ => exact kl_X9_20
  | 21, _ => exact kl_X9_21
  | 22, _ => exact kl_X9_22
  | 23, _ => exact kl_X9_23
  | 24, _ => exact kl_X9_24
  | 25, _ => exact kl_X9_25
  | 26, _ => exact kl_X9_26
  | 27, _ => exact kl_X9_27
  | 28, _ => exact kl_X9_28
  | 29, _ => exact kl_X9_29
  | 30, _ => exact kl_X9_30
  | 31, _ => exact kl_X9_31
  | 32, _ => exact kl_X9_32
  | 33, _ => exact kl_X9_33
  | 34, _ => exact kl_X9_34
  | 35, _ => exact kl_X9_35
  | j + 36, h => omega
theorem kc_X9 : px_Kc 8 RX9 TX9 36 := ⟨rfl, ku_X9, nmX9, tyX9, tyX9_ok⟩
theorem kp_X1_7 : ∀ o ∈ px_ob, o.1 = 1 → ∀ d, o.2[7]? = some d → (d.1 = 0 ∧ (.int : FieldType) = .int) ∨ (d.1 = 3 ∧ (.int : FieldType) = .boolean) ∨ (d.1 = 1 ∧ (.int : FieldType) = .long) := by
  intro o ho hc d hd
  simp only [px_ob, List.mem_cons, List.not_mem_nil, or_false] at ho
  rcases ho with rfl | rfl | rfl | rfl | rfl | rfl | rfl | rfl | rfl | rfl <;> first | exact absurd hc (by decide) | (cases hd; decide)
theorem kp_X1_8 : ∀ o ∈ px_ob, o.1 = 1 → ∀ d, o.2[8]? = some d → (d.1 = 0 ∧ (.int : FieldType) = .int) ∨ (d.1 = 3 ∧ (.int : FieldType) = .boolean) ∨ (d.1 = 1 ∧ (.int : FieldType) = .long) := by
  intro o ho hc d hd
  simp only [px_ob, List.mem_cons, List.not_mem_nil, or_false] at ho
  rcases ho with rfl | rfl | rfl | rfl | rfl | rfl | rfl | rfl | rfl | rfl <;> first | exact absurd hc (by decide) | (cases hd; decide)
theorem kp_X1_9 : ∀ o ∈ px_ob, o.1 = 1 → ∀ d, o.2[9]? = some d → (d.1 = 0 ∧ (.long : FieldType) = .int) ∨ (d.1 = 3 ∧ (.long : FieldType) = .boolean) ∨ (d.1 = 1 ∧ (.long : FieldType) = .long) := by
  intro o ho hc d hd
  simp only [px_ob, List.mem_cons, List.not_mem_nil, or_false] at ho
  rcases ho with rfl | rfl | rfl | rfl | rfl | rfl | rfl | rfl | rfl | rfl <;> first | exact absurd hc (by decide) | (cases hd; decide)
theorem kp_X2_5 : ∀ o ∈ px_ob, o.1 = 2 → ∀ d, o.2[5]? = some d → (d.1 = 0 ∧ (.boolean : FieldType) = .int) ∨ (d.1 = 3 ∧ (.boolean : FieldType) = .boolean) ∨ (d.1 = 1 ∧ (.boolean : FieldType) = .long) := by
  intro o ho hc d hd
  simp only [px_ob, List.mem_cons, List.not_mem_nil, or_false] at ho
  rcases ho with rfl | rfl | rfl | rfl | rfl | rfl | rfl | rfl | rfl | rfl <;> first | exact absurd hc (by decide) | (cases hd; decide)
theorem kp_X2_6 : ∀ o ∈ px_ob, o.1 = 2 → ∀ d, o.2[6]? = some d → (d.1 = 0 ∧ (.int : FieldType) = .int) ∨ (d.1 = 3 ∧ (.int : FieldType) = .boolean) ∨ (d.1 = 1 ∧ (.int : FieldType) = .long) := by
  intro o ho hc d hd
  simp only [px_ob, List.mem_cons, List.not_mem_nil, or_false] at ho
  rcases ho with rfl | rfl | rfl | rfl | rfl | rfl | rfl | rfl | rfl | rfl <;> first | exact absurd hc (by decide) | (cases hd; decide)
theorem kp_X2_7 : ∀ o ∈ px_ob, o.1 = 2 → ∀ d, o.2[7]? = some d → (d.1 = 0 ∧ (.long : FieldType) = .int) ∨ (d.1 = 3 ∧ (.long : FieldType) = .boolean) ∨ (d.1 = 1 ∧ (.long : FieldType) = .long) := by
  intro o ho hc d hd
  simp only [px_ob, List.mem_cons, List.not_mem_nil, or_false] at ho
  rcases ho with rfl | rfl | rfl | rfl | rfl | rfl | rfl | rfl | rfl | rfl <;> first | exact absurd hc (by decide) | (cases hd; decide)
theorem kp_X3_7 : ∀ o ∈ px_ob, o.1 = 3 → ∀ d, o.2[7]? = some d → (d.1 = 0 ∧ (.int : FieldType) = .int) ∨ (d.1 = 3 ∧ (.int : FieldType) = .boolean) ∨ (d.1 = 1 ∧ (.int : FieldType) = .long) := by
  intro o ho hc d hd
  simp only [px_ob, List.mem_cons, List.not_mem_nil, or_false] at ho
  rcases ho with rfl | rfl | rfl | rfl | rfl | rfl | rfl | rfl | rfl | rfl <;> first | exact absurd hc (by decide) | (cases hd; decide)
theorem kp_X3_8 : ∀ o ∈ px_ob, o.1 = 3 → ∀ d, o.2[8]? = some d → (d.1 = 0 ∧ (.boolean : FieldType) = .int) ∨ (d.1 = 3 ∧ (.boolean : FieldType) = .boolean) ∨ (d.1 = 1 ∧ (.boolean : FieldType) = .long) := by
  intro o ho hc d hd
  simp only [px_ob, List.mem_cons, List.not_mem_nil, or_false] at ho
  rcases ho with rfl | rfl | rfl | rfl | rfl | rfl | rfl | rfl | rfl | rfl <;> first | exact absurd hc (by decide) | (cases hd; decide)
theorem kp_X3_9 : ∀ o ∈ px_ob, o.1 = 3 → ∀ d, o.2[9]? = some d → (d.1 = 0 ∧ (.int : FieldType) = .int) ∨ (d.1 = 3 ∧ (.int : FieldType) = .boolean) ∨ (d.1 = 1 ∧ (.int : FieldType) = .long) := by
  intro o ho hc d hd
  simp only [px_ob, List.mem_cons, List.not_mem_nil, or_false] at ho
  rcases ho with rfl | rfl | rfl | rfl | rfl | rfl | rfl | rfl | rfl | rfl <;> first | exact absurd hc (by decide) | (cases hd; decide)
theorem kp_X4_1 : ∀ o ∈ px_ob, o.1 = 4 → ∀ d, o.2[1]? = some d → (d.1 = 0 ∧ (.int : FieldType) = .int) ∨ (d.1 = 3 ∧ (.int : FieldType) = .boolean) ∨ (d.1 = 1 ∧ (.int : FieldType) = .long) := by
  intro o ho hc d hd
  simp only [px_ob, List.mem_cons, List.not_mem_nil, or_false] at ho
  rcases ho with rfl | rfl | rfl | rfl | rfl | rfl | rfl | rfl | rfl | rfl <;> first | exact absurd hc (by decide) | (cases hd; decide)
theorem kp_X5_4 : ∀ o ∈ px_ob, o.1 = 5 → ∀ d, o.2[4]? = some d → (d.1 = 0 ∧ (.int : FieldType) = .int) ∨ (d.1 = 3 ∧ (.int : FieldType) = .boolean) ∨ (d.1 = 1 ∧ (.int : FieldType) = .long) := by
  intro o ho hc d hd
  simp only [px_ob, List.mem_cons, List.not_mem_nil, or_false] at ho
  rcases ho with rfl | rfl | rfl | rfl | rfl | rfl | rfl | rfl | rfl | rfl <;> first | exact absurd hc (by decide) | (cases hd; decide)
theorem kp_X5_5 : ∀ o ∈ px_ob, o.1 = 5 → ∀ d, o.2[5]? = some d → (d.1 = 0 ∧ (.int : FieldType) = .int) ∨ (d.1 = 3 ∧ (.int : FieldType) = .boolean) ∨ (d.1 = 1 ∧ (.int : FieldType) = .long) := by
  intro o ho hc d hd
  simp only [px_ob, List.mem_cons, List.not_mem_nil, or_false] at ho
  rcases ho with rfl | rfl | rfl | rfl | rfl | rfl | rfl | rfl | rfl | rfl <;> first | exact absurd hc (by decide) | (cases hd; decide)
theorem kp_X6_2 : ∀ o ∈ px_ob, o.1 = 6 → ∀ d, o.2[2]? = some d → (d.1 = 0 ∧ (.int : FieldType) = .int) ∨ (d.1 = 3 ∧ (.int : FieldType) = .boolean) ∨ (d.1 = 1 ∧ (.int : FieldType) = .long) := by
  intro o ho hc d hd
  simp only [px_ob, List.mem_cons, List.not_mem_nil, or_false] at ho
  rcases ho with rfl | rfl | rfl | rfl | rfl | rfl | rfl | rfl | rfl | rfl <;> first | exact absurd hc (by decide) | (cases hd; decide)
theorem kp_X6_3 : ∀ o ∈ px_ob, o.1 = 6 → ∀ d, o.2[3]? = some d → (d.1 = 0 ∧ (.int : FieldType) = .int) ∨ (d.1 = 3 ∧ (.int : FieldType) = .boolean) ∨ (d.1 = 1 ∧ (.int : FieldType) = .long) := by
  intro o ho hc d hd
  simp only [px_ob, List.mem_cons, List.not_mem_nil, or_false] at ho
  rcases ho with rfl | rfl | rfl | rfl | rfl | rfl | rfl | rfl | rfl | rfl <;> first | exact absurd hc (by decide) | (cases hd; decide)
theorem kp_X6_4 : ∀ o ∈ px_ob, o.1 = 6 → ∀ d, o.2[4]? = some d → (d.1 = 0 ∧ (.int : FieldType) = .int) ∨ (d.1 = 3 ∧ (.int : FieldType) = .boolean) ∨ (d.1 = 1 ∧ (.int : FieldType) = .long) := by
  intro o ho hc d hd
  simp only [px_ob, List.mem_cons, List.not_mem_nil, or_false] at ho
  rcases ho with rfl | rfl | rfl | rfl | rfl | rfl | rfl | rfl | rfl | rfl <;> first | exact absurd hc (by decide) | (cases hd; decide)
theorem kp_X6_5 : ∀ o ∈ px_ob, o.1 = 6 → ∀ d, o.2[5]? = some d → (d.1 = 0 ∧ (.int : FieldType) = .int) ∨ (d.1 = 3 ∧ (.int : FieldType) = .boolean) ∨ (d.1 = 1 ∧ (.int : FieldType) = .long) := by
  intro o ho hc d hd
  simp only [px_ob, List.mem_cons, List.not_mem_nil, or_false] at ho
  rcases ho with rfl | rfl | rfl | rfl | rfl | rfl | rfl | rfl | rfl | rfl <;> first | exact absurd hc (by decide) | (cases hd; decide)
theorem kp_X6_6 : ∀ o ∈ px_ob, o.1 = 6 → ∀ d, o.2[6]? = some d → (d.1 = 0 ∧ (.int : FieldType) = .int) ∨ (d.1 = 3 ∧ (.int : FieldType) = .boolean) ∨ (d.1 = 1 ∧ (.int : FieldType) = .long) := by
  intro o ho hc d hd
  simp only [px_ob, List.mem_cons, List.not_mem_nil, or_false] at ho
  rcases ho with rfl | rfl | rfl | rfl | rfl | rfl | rfl | rfl | rfl | rfl <;> first | exact absurd hc (by decide) | (cases hd; decide)
theorem kp_X8_8 : ∀ o ∈ px_ob, o.1 = 7 → ∀ d, o.2[8]? = some d → (d.1 = 0 ∧ (.long : FieldType) = .int) ∨ (d.1 = 3 ∧ (.long : FieldType) = .boolean) ∨ (d.1 = 1 ∧ (.long : FieldType) = .long) := by
  intro o ho hc d hd
  simp only [px_ob, List.mem_cons, List.not_mem_nil, or_false] at ho
  rcases ho with rfl | rfl | rfl | rfl | rfl | rfl | rfl | rfl | rfl | rfl <;> first | exact absurd hc (by decide) | (cases hd; decide)
theorem kp_X8_9 : ∀ o ∈ px_ob, o.1 = 7 → ∀ d, o.2[9]? = some d → (d.1 = 0 ∧ (.int : FieldType) = .int) ∨ (d.1 = 3 ∧ (.int : FieldType) = .boolean) ∨ (d.1 = 1 ∧ (.int : FieldType) = .long) := by
  intro o ho hc d hd
  simp only [px_ob, List.mem_cons, List.not_mem_nil, or_false] at ho
  rcases ho with rfl | rfl | rfl | rfl | rfl | rfl | rfl | rfl | rfl | rfl <;> first | exact absurd hc (by decide) | (cases hd; decide)
theorem kp_X9_1 : ∀ o ∈ px_ob, o.1 = 8 → ∀ d, o.2[1]? = some d → (d.1 = 0 ∧ (.int : FieldType) = .int) ∨ (d.1 = 3 ∧ (.int : FieldType) = .boolean) ∨ (d.1 = 1 ∧ (.int : FieldType) = .long) := by
  intro o ho hc d hd
  simp only [px_ob, List.mem_cons, List.not_mem_nil, or_false] at ho
  rcases ho with rfl | rfl | rfl | rfl | rfl | rfl | rfl | rfl | rfl | rfl <;> first | exact absurd hc (by decide) | (cases hd; decide)
theorem kp_X9_10 : ∀ o ∈ px_ob, o.1 = 8 → ∀ d, o.2[10]? = some d → (d.1 = 0 ∧ (.int : FieldType) = .int) ∨ (d.1 = 3 ∧ (.int : FieldType) = .boolean) ∨ (d.1 = 1 ∧ (.int : FieldType) = .long) := by
  intro o ho hc d hd
  simp only [px_ob, List.mem_cons, List.not_mem_nil, or_false] at ho
  rcases ho with rfl | rfl | rfl | rfl | rfl | rfl | rfl | rfl | rfl | rfl <;> first | exact absurd hc (by decide) | (cases hd; decide)
theorem kp_X9_12 : ∀ o ∈ px_ob, o.1 = 8 → ∀ d, o.2[12]? = some d → (d.1 = 0 ∧ (.int : FieldType) = .int) ∨ (d.1 = 3 ∧ (.int : FieldType) = .boolean) ∨ (d.1 = 1 ∧ (.int : FieldType) = .long) := by
  intro o ho hc d hd
  simp only [px_ob, List.mem_cons, List.not_mem_nil, or_false] at ho
  rcases ho with rfl | rfl | rfl | rfl | rfl | rfl | rfl | rfl | rfl | rfl <;> first | exact absurd hc (by decide) | (cases hd; decide)
theorem kp_X9_13 : ∀ o ∈ px_ob, o.1 = 8 → ∀ d, o.2[13]? = some d → (d.1 = 0 ∧ (.int : FieldType) = .int) ∨ (d.1 = 3 ∧ (.int : FieldType) = .boolean) ∨ (d.1 = 1 ∧ (.int : FieldType) = .long) := by
  intro o ho hc d hd
  simp only [px_ob, List.mem_cons, List.not_mem_nil, or_false] at ho
  rcases ho with rfl | rfl | rfl | rfl | rfl | rfl | rfl | rfl | rfl | rfl <;> first | exact absurd hc (by decide) | (cases hd; decide)
theorem kp_X9_18 : ∀ o ∈ px_ob, o.1 = 8 → ∀ d, o.2[18]? = some d → (d.1 = 0 ∧ (.int : FieldType) = .int) ∨ (d.1 = 3 ∧ (.int : FieldType) = .boolean) ∨ (d.1 = 1 ∧ (.int : FieldType) = .long) := by
  intro o ho hc d hd
  simp only [px_ob, List.mem_cons, List.not_mem_nil, or_false] at ho
  rcases ho with rfl | rfl | rfl | rfl | rfl | rfl | rfl | rfl | rfl | rfl <;> first | exact absurd hc (by decide) | (cases hd; decide)
theorem kp_X9_22 : ∀ o ∈ px_ob, o.1 = 8 → ∀ d, o.2[22]? = some d → (d.1 = 0 ∧ (.int : FieldType) = .int) ∨ (d.1 = 3 ∧ (.int : FieldType) = .boolean) ∨ (d.1 = 1 ∧ (.int : FieldType) = .long) := by
  intro o ho hc d hd
  simp only [px_ob, List.mem_cons, List.not_mem_nil, or_false] at ho
  rcases ho with rfl | rfl | rfl | rfl | rfl | rfl | rfl | rfl | rfl | rfl <;> first | exact absurd hc (by decide) | (cases hd; decide)
theorem kp_X9_25 : ∀ o ∈ px_ob, o.1 = 8 → ∀ d, o.2[25]? = some d → (d.1 = 0 ∧ (.int : FieldType) = .int) ∨ (d.1 = 3 ∧ (.int : FieldType) = .boolean) ∨ (d.1 = 1 ∧ (.int : FieldType) = .long) := by
  intro o ho hc d hd
  simp only [px_ob, List.mem_cons, List.not_mem_nil, or_false] at ho
  rcases ho with rfl | rfl | rfl | rfl | rfl | rfl | rfl | rfl | rfl | rfl <;> first | exact absurd hc (by decide) | (cases hd; decide)
theorem kp_X9_26 : ∀ o ∈ px_ob, o.1 = 8 → ∀ d, o.2[26]? = some d → (d.1 = 0 ∧ (.int : FieldType) = .int) ∨ (d.1 = 3 ∧ (.int : FieldType) = .boolean) ∨ (d.1 = 1 ∧ (.int : FieldType) = .long) := by
  intro o ho hc d hd
  simp only [px_ob, List.mem_cons, List.not_mem_nil, or_false] at ho
  rcases ho with rfl | rfl | rfl | rfl | rfl | rfl | rfl | rfl | rfl | rfl <;> first | exact absurd hc (by decide) | (cases hd; decide)
theorem kp_X9_29 : ∀ o ∈ px_ob, o.1 = 8 → ∀ d, o.2[29]? = some d → (d.1 = 0 ∧ (.int : FieldType) = .int) ∨ (d.1 = 3 ∧ (.int : FieldType) = .boolean) ∨ (d.1 = 1 ∧ (.int : FieldType) = .long) := by
  intro o ho hc d hd
  simp only [px_ob, List.mem_cons, List.not_mem_nil, or_false] at ho
  rcases ho with rfl | rfl | rfl | rfl | rfl | rfl | rfl | rfl | rfl | rfl <;> first | exact absurd hc (by decide) | (cases hd; decide)
theorem kp_X9_30 : ∀ o ∈ px_ob, o.1 = 8 → ∀ d, o.2[30]? = some d → (d.1 = 0 ∧ (.int : FieldType) = .int) ∨ (d.1 = 3 ∧ (.int : FieldType) = .boolean) ∨ (d.1 = 1 ∧ (.int : FieldType) = .long) := by
  intro o ho hc d hd
  simp only [px_ob, List.mem_cons, List.not_mem_nil, or_false] at ho
  rcases ho with rfl | rfl | rfl | rfl | rfl | rfl | rfl | rfl | rfl | rfl <;> first | exact absurd hc (by decide) | (cases hd; decide)
theorem kp_X9_31 : ∀ o ∈ px_ob, o.1 = 8 → ∀ d, o.2[31]? = some d → (d.1 = 0 ∧ (.int : FieldType) = .int) ∨ (d.1 = 3 ∧ (.int : FieldType) = .boolean) ∨ (d.1 = 1 ∧ (.int : FieldType) = .long) := by
  intro o ho hc d hd
  simp only [px_ob, List.mem_cons, List.not_mem_nil, or_false] at ho
  rcases ho with rfl | rfl | rfl | rfl | rfl | rfl | rfl | rfl | rfl | rfl <;> first | exact absurd hc (by decide) | (cases hd; decide)
theorem kp_X9_32 : ∀ o ∈ px_ob, o.1 = 8 → ∀ d, o.2[32]? = some d → (d.1 = 0 ∧ (.int : FieldType) = .int) ∨ (d.1 = 3 ∧ (.int : FieldType) = .boolean) ∨ (d.1 = 1 ∧ (.int : FieldType) = .long) := by
  intro o ho hc d hd
  simp only [px_ob, List.mem_cons, List.not_mem_nil, or_false] at ho
  rcases ho with rfl | rfl | rfl | rfl | rfl | rfl | rfl | rfl | rfl | rfl <;> first | exact absurd hc (by decide) | (cases hd; decide)
theorem kp_X9_33 : ∀ o ∈ px_ob, o.1 = 8 → ∀ d, o.2[33]? = some d → (d.1 = 0 ∧ (.int : FieldType) = .int) ∨ (d.1 = 3 ∧ (.int : FieldType) = .boolean) ∨ (d.1 = 1 ∧ (.int : FieldType) = .long) := by
  intro o ho hc d hd
  simp only [px_ob, List.mem_cons, List.not_mem_nil, or_false] at ho
  rcases ho with rfl | rfl | rfl | rfl | rfl | rfl | rfl | rfl | rfl | rfl <;> first | exact absurd hc (by decide) | (cases hd; decide)
theorem kp_X9_34 : ∀ o ∈ px_ob, o.1 = 8 → ∀ d, o.2[34]? = some d → (d.1 = 0 ∧ (.int : FieldType) = .int) ∨ (d.1 = 3 ∧ (.int : FieldType) = .boolean) ∨ (d.1 = 1 ∧ (.int : FieldType) = .long) := by
  intro o ho hc d hd
  simp only [px_ob, List.mem_cons, List.not_mem_nil, or_false] at ho
  rcases ho with rfl | rfl | rfl | rfl | rfl | rfl | rfl | rfl | rfl | rfl <;> first | exact absurd hc (by decide) | (cases hd; decide)
