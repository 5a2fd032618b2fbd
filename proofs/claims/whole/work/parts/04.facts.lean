-- facts of the tables: written by gen81.py
/-- the words that hold in every later state -/
def am_T : List Cond := lw_tbl.filter goodWord
theorem tn {w : Cond} (i : Nat) (h : lw_tbl[i]? = some w) : w ∈ lw_tbl := List.mem_of_getElem? h
theorem tm {w : Cond} (i : Nat) (h : lw_tbl[i]? = some w ∧ goodWord w = true) : w ∈ am_T := List.mem_filter.mpr ⟨List.mem_of_getElem? h.1, h.2⟩
theorem tm_sub {ws : List Cond} (ps : List Nat) (hp : ws = ps.filterMap (fun i => lw_tbl[i]?) ∧ ws.all goodWord = true) : ∀ w ∈ ws, w ∈ am_T := by
  intro w hw
  refine List.mem_filter.mpr ⟨?_, List.all_eq_true.mp hp.2 w hw⟩
  rw [hp.1] at hw
  obtain ⟨i, -, hi⟩ := List.mem_filterMap.mp hw
  exact List.mem_of_getElem? hi
theorem am_good : ∀ w ∈ am_T, (w.onTables && w.keeps) = true ∨ ∃ ty, w = .arrayClass ty := fun w hw => good_of_word (List.mem_filter.mp hw).2
theorem am_T_in : ∀ w ∈ am_T, w ∈ lw_tbl := fun w hw => (List.mem_filter.mp hw).1
abbrev am_cl : List vw_C := [("TextIndices", F_TI, 7), ("TextIndices$Tape", F_Ta, 6), ("TextIndices$Language", F_La, 6), ("TextIndices$Shelf", F_Sh, 10), ("TextIndices$Question", F_Qu, 9), ("java/util/ArrayList", F_AL, 3), ("TextIndices$Answers", F_An, 3), ("TextIndices$Likes", F_Li, 7), ("TextIndicesModel", F_Mo, 33), ("TextIndices$Part", F_Pa, 5)]
def am_ons : List String := ["TextIndices$Answers", "TextIndices$Language", "TextIndices$Likes", "TextIndices$Part", "TextIndices$Question", "TextIndices$Shelf", "TextIndices$Tape", "TextIndices$Words", "TextIndices", "TextIndicesModel", "TextIndicesLaw", "java/util/ArrayList", "java/util/AbstractList", "java/util/AbstractCollection", "java/util/Arrays", "java/util/Objects", "jdk/internal/util/ArraysSupport", "jdk/internal/util/Preconditions"]
def am_on (o : Nat) : String := match am_get am_ons o with
  | some s => s
  | none => ""
def am_ows : List Nat := [0, 0, 0, 0, 0, 0, 0, 1, 1, 1, 1, 1, 1, 1, 1, 1, 2, 2, 2, 2, 2, 2, 2, 2, 2, 2, 3, 4, 4, 4, 4, 4, 4, 4, 4, 4, 4, 4, 4, 4, 4, 5, 5, 5, 5, 5, 5, 5, 5, 5, 5, 5, 5, 5, 5, 5, 5, 5, 5, 5, 5, 5, 6, 6, 6, 6, 6, 6, 6, 6, 6, 6, 6, 6, 6, 6, 7, 7, 7, 7, 7, 7, 7, 7, 8, 8, 8, 8, 8, 8, 8, 8, 8, 8, 8, 8, 8, 8, 8, 8, 8, 8, 8, 9, 9, 9, 9, 9, 9, 9, 9, 9, 9, 9, 9, 9, 9, 9, 9, 9, 9, 9, 9, 9, 9, 9, 9, 9, 9, 9, 9, 9, 9, 9, 9, 9, 9, 9, 9, 9, 9, 9, 9, 9, 9, 9, 9, 9, 9, 9, 9, 9, 9, 9, 10, 11, 11, 11, 11, 11, 11, 11, 11, 11, 12, 13, 14, 14, 14, 15, 16, 17]
def am_ow (m : Nat) : Nat := match am_get am_ows m with
  | some s => s
  | none => 99
def am_ys : List MethodName := [y_An_init, y_An_clear, y_An_count, y_An_add, y_An_has, y_An_textAt, y_An_weightAt, y_La_init, y_La_number, y_La_isStop, y_La_addStop, y_La_ruleCount, y_La_addRule, y_La_stemOf, y_La_isEnding, y_La_stemInTexts, y_Li_init, y_Li_clear, y_Li_count, y_Li_wordAt, y_Li_search, y_Li_offer, y_Li_holds, y_Li_insert, y_Li_standsBefore, y_Li_changesNeeded, y_Pa_init, y_Qu_init, y_Qu_read, y_Qu_skipBlanks, y_Qu_readPart, y_Qu_readPhrase, y_Qu_readWord, y_Qu_seek, y_Qu_stemSought, y_Qu_soughtBy, y_Qu_weigh, y_Qu_hasTerm, y_Qu_weightOf, y_Qu_isAnsweredBy, y_Qu_isPartAnsweredBy, y_Sh_init, y_Sh_put, y_Sh_takeAway, y_Sh_has, y_Sh_isIn, y_Sh_firstOf, y_Sh_endOf, y_Sh_stemAgain, y_Sh_hasPlace, y_Sh_startOf, y_Sh_sizeOf, y_Sh_countTexts, y_Sh_countStems, y_Sh_countNewStems, y_Sh_hasEarlier, y_Sh_timesOf, y_Sh_countTextsWith, y_Sh_hasBeginning, y_Sh_hasPhrase, y_Sh_standsAt, y_Sh_wordUnlessStop, y_Ta_init, y_Ta_length, y_Ta_append, y_Ta_clear, y_Ta_symbolAt, y_Ta_wordEnd, y_Ta_wordBetween, y_Ta_split, y_Ta_keepWord, y_Ta_wordCount, y_Ta_hasWord, y_Ta_wordAt, y_Ta_startAt, y_Ta_sizeAt, y_Wo_digitOf, y_Wo_withDigit, y_Wo_withZeros, y_Wo_withoutLast, y_Wo_lengthOf, y_Wo_symbolAt, y_Wo_isBeginning, y_Wo_spread, y_TI_init, y_TI_type, y_TI_text, y_TI_remove, y_TI_stop, y_TI_ending, y_TI_stem, y_TI_ask, y_TI_answer, y_TI_score, y_TI_like, y_TI_word, y_TI_at, y_TI_place, y_TI_texts, y_TI_stems, y_TI_languageOf, y_TI_takeFirstWord, y_TI_tell, y_Mo_init, y_Mo_byteOf, y_Mo_same, y_Mo_beginsSo, y_Mo_add, y_Mo_copy, y_Mo_letter, y_Mo_type, y_Mo_readWords, y_Mo_isLanguage, y_Mo_isStop, y_Mo_stop, y_Mo_endingAt, y_Mo_ending, y_Mo_ends, y_Mo_stemTo, y_Mo_show, y_Mo_stem, y_Mo_at, y_Mo_text, y_Mo_wordsOf, y_Mo_isText, y_Mo_remove, y_Mo_texts, y_Mo_place, y_Mo_hasAt, y_Mo_times, y_Mo_stems, y_Mo_isFirst, y_Mo_here, y_Mo_need, y_Mo_skip, y_Mo_isLetter, y_Mo_isPart, y_Mo_readWord, y_Mo_readPart, y_Mo_readQuestion, y_Mo_hasPhrase, y_Mo_answersPart, y_Mo_answersRow, y_Mo_isAsked, y_Mo_countStems, y_Mo_scoreOf, y_Mo_ask, y_Mo_answer, y_Mo_score, y_Mo_distance, y_Mo_isBefore, y_Mo_like, y_Mo_isLiked, y_Mo_word, y_Law_law, y_AL_init, y_AL_grow1, y_AL_grow2, y_AL_size, y_AL_elementData, y_AL_get, y_AL_add1, y_AL_add2, y_AL_clear, y_Ab_init, y_AC_init, y_Ar_copyOf1, y_Ar_copyOf2, y_Ar_copyOf3, y_Ob_checkIndex, y_AS_newLength, y_Pr_checkIndex]
def am_y (m : Nat) : MethodName := match am_get am_ys m with
  | some s => s
  | none => ⟨"", "", ""⟩
def am_bcs : List ByteArray := [b_An_init, b_An_clear, b_An_count, b_An_add, b_An_has, b_An_textAt, b_An_weightAt, b_La_init, b_La_number, b_La_isStop, b_La_addStop, b_La_ruleCount, b_La_addRule, b_La_stemOf, b_La_isEnding, b_La_stemInTexts, b_Li_init, b_Li_clear, b_Li_count, b_Li_wordAt, b_Li_search, b_Li_offer, b_Li_holds, b_Li_insert, b_Li_standsBefore, b_Li_changesNeeded, b_Pa_init, b_Qu_init, b_Qu_read, b_Qu_skipBlanks, b_Qu_readPart, b_Qu_readPhrase, b_Qu_readWord, b_Qu_seek, b_Qu_stemSought, b_Qu_soughtBy, b_Qu_weigh, b_Qu_hasTerm, b_Qu_weightOf, b_Qu_isAnsweredBy, b_Qu_isPartAnsweredBy, b_Sh_init, b_Sh_put, b_Sh_takeAway, b_Sh_has, b_Sh_isIn, b_Sh_firstOf, b_Sh_endOf, b_Sh_stemAgain, b_Sh_hasPlace, b_Sh_startOf, b_Sh_sizeOf, b_Sh_countTexts, b_Sh_countStems, b_Sh_countNewStems, b_Sh_hasEarlier, b_Sh_timesOf, b_Sh_countTextsWith, b_Sh_hasBeginning, b_Sh_hasPhrase, b_Sh_standsAt, b_Sh_wordUnlessStop, b_Ta_init, b_Ta_length, b_Ta_append, b_Ta_clear, b_Ta_symbolAt, b_Ta_wordEnd, b_Ta_wordBetween, b_Ta_split, b_Ta_keepWord, b_Ta_wordCount, b_Ta_hasWord, b_Ta_wordAt, b_Ta_startAt, b_Ta_sizeAt, b_Wo_digitOf, b_Wo_withDigit, b_Wo_withZeros, b_Wo_withoutLast, b_Wo_lengthOf, b_Wo_symbolAt, b_Wo_isBeginning, b_Wo_spread, b_TI_init, b_TI_type, b_TI_text, b_TI_remove, b_TI_stop, b_TI_ending, b_TI_stem, b_TI_ask, b_TI_answer, b_TI_score, b_TI_like, b_TI_word, b_TI_at, b_TI_place, b_TI_texts, b_TI_stems, b_TI_languageOf, b_TI_takeFirstWord, b_TI_tell, b_Mo_init, b_Mo_byteOf, b_Mo_same, b_Mo_beginsSo, b_Mo_add, b_Mo_copy, b_Mo_letter, b_Mo_type, b_Mo_readWords, b_Mo_isLanguage, b_Mo_isStop, b_Mo_stop, b_Mo_endingAt, b_Mo_ending, b_Mo_ends, b_Mo_stemTo, b_Mo_show, b_Mo_stem, b_Mo_at, b_Mo_text, b_Mo_wordsOf, b_Mo_isText, b_Mo_remove, b_Mo_texts, b_Mo_place, b_Mo_hasAt, b_Mo_times, b_Mo_stems, b_Mo_isFirst, b_Mo_here, b_Mo_need, b_Mo_skip, b_Mo_isLetter, b_Mo_isPart, b_Mo_readWord, b_Mo_readPart, b_Mo_readQuestion, b_Mo_hasPhrase, b_Mo_answersPart, b_Mo_answersRow, b_Mo_isAsked, b_Mo_countStems, b_Mo_scoreOf, b_Mo_ask, b_Mo_answer, b_Mo_score, b_Mo_distance, b_Mo_isBefore, b_Mo_like, b_Mo_isLiked, b_Mo_word, b_Law_law, b_AL_init, b_AL_grow1, b_AL_grow2, b_AL_size, b_AL_elementData, b_AL_get, b_AL_add1, b_AL_add2, b_AL_clear, b_Ab_init, b_AC_init, b_Ar_copyOf1, b_Ar_copyOf2, b_Ar_copyOf3, b_Ob_checkIndex, b_AS_newLength, b_Pr_checkIndex]
def am_bc (m : Nat) : ByteArray := match am_get am_bcs m with
  | some s => s
  | none => ⟨#[]⟩
def am_rts : List (Option FieldType) := [none, none, (some .int), none, (some .boolean), (some .int), (some .long), none, (some .int), (some .boolean), (some .boolean), (some .int), (some .boolean), (some .long), (some .boolean), (some .long), none, none, (some .int), (some .long), none, none, (some .boolean), none, (some .boolean), (some .int), none, none, (some .int), none, (some .boolean), (some .boolean), (some .long), none, none, (some .long), none, (some .boolean), (some .long), (some .boolean), (some .boolean), none, (some .int), (some .boolean), (some .boolean), (some .boolean), (some .int), (some .int), none, (some .boolean), (some .int), (some .int), (some .int), (some .int), (some .int), (some .boolean), (some .int), (some .int), (some .boolean), (some .boolean), (some .boolean), (some .long), none, (some .int), (some .boolean), none, (some .int), (some .int), (some .long), (some .int), none, (some .int), (some .boolean), (some .long), (some .int), (some .int), (some .int), (some .long), (some .long), (some .long), (some .int), (some .int), (some .boolean), (some .int), none, (some .int), (some .int), (some .int), (some .int), (some .int), (some .int), (some .int), (some .int), (some .long), (some .int), (some .int), (some .int), (some .int), (some .int), (some .int), (some (.object "TextIndices$Language")), (some .long), (some .int), none, (some .int), (some .boolean), (some .boolean), none, none, (some .int), (some .int), none, (some .boolean), (some .boolean), (some .int), (some .int), (some .int), (some .boolean), none, (some .int), (some .int), (some .int), (some .int), (some .int), (some .boolean), (some .int), (some .int), (some .int), (some .boolean), (some .int), (some .int), (some .boolean), (some .int), none, none, (some .boolean), (some .boolean), none, none, (some .int), (some .boolean), (some .boolean), (some .boolean), (some .boolean), (some .int), (some .long), (some .int), (some .int), (some .long), (some .int), (some .boolean), (some .int), (some .boolean), (some .int), (some .boolean), none, (some (.array (.object "java/lang/Object"))), (some (.array (.object "java/lang/Object"))), (some .int), (some (.object "java/lang/Object")), (some (.object "java/lang/Object")), none, (some .boolean), none, none, none, (some (.array (.object "java/lang/Object"))), (some (.array (.object "java/lang/Object"))), (some (.array .long)), (some .int), (some .int), (some .int)]
def am_rt (m : Nat) : Option FieldType := match am_get am_rts m with
  | some s => s
  | none => none
def am_ncs : List Nat := [0, 0, 0, 2, 1, 1, 1, 1, 0, 1, 1, 0, 2, 1, 2, 1, 0, 0, 0, 1, 4, 2, 1, 2, 3, 1, 5, 1, 0, 0, 0, 1, 0, 1, 1, 1, 3, 1, 2, 2, 3, 0, 3, 1, 1, 3, 1, 1, 1, 2, 2, 2, 0, 1, 2, 3, 2, 3, 2, 4, 4, 1, 0, 0, 2, 0, 1, 1, 2, 0, 2, 0, 1, 1, 1, 1, 1, 2, 2, 2, 1, 2, 2, 2, 0, 2, 2, 1, 1, 1, 1, 2, 1, 1, 2, 1, 1, 3, 0, 1, 1, 0, 1, 0, 2, 2, 2, 2, 2, 1, 2, 0, 1, 2, 1, 2, 1, 2, 3, 1, 1, 1, 2, 1, 1, 1, 0, 3, 4, 3, 1, 3, 0, 1, 0, 0, 0, 0, 1, 0, 2, 2, 2, 3, 1, 4, 2, 1, 1, 2, 2, 2, 1, 1, 1, 0, 1, 0, 0, 1, 1, 3, 1, 0, 0, 0, 2, 3, 2, 2, 3, 3]
def am_nc (m : Nat) : Nat := match am_get am_ncs m with
  | some s => s
  | none => 0
def am_okF (q : Nat × Nat × Nat × Nat) : Prop := ∃ (C : String) (T : u_T) (N : Nat) (ref : String), am_cl[q.2.2.1]? = some (C, T, N) ∧ q.2.2.2 < N ∧ Cond.fieldLink (am_on q.1) q.2.1 ref (T q.2.2.2).2.1 (T q.2.2.2).2.2.1 ∈ am_T ∧ (ref = (T q.2.2.2).1 ∨ Cond.sameField ref (T q.2.2.2).1 (T q.2.2.2).2.1 (T q.2.2.2).2.2.1 ∈ am_T)
def am_FL : List (Nat × Nat × Nat × Nat) := [(8, 10, 0, 0), (8, 18, 0, 1), (8, 28, 0, 2), (8, 37, 0, 3), (8, 44, 0, 4), (8, 51, 0, 5), (8, 57, 0, 6), (0, 11, 6, 0), (0, 17, 6, 1), (0, 21, 6, 2), (1, 9, 2, 1), (1, 13, 2, 2), (1, 16, 2, 4), (1, 19, 2, 0), (1, 23, 2, 5), (1, 36, 2, 3), (2, 11, 7, 0), (2, 17, 7, 1), (2, 23, 7, 3), (2, 26, 7, 5), (2, 29, 7, 6), (2, 32, 7, 2), (2, 40, 7, 4), (3, 7, 9, 0), (3, 13, 9, 1), (3, 17, 9, 2), (3, 21, 9, 3), (3, 24, 9, 4), (4, 12, 4, 1), (4, 20, 4, 2), (4, 24, 4, 4), (4, 27, 4, 5), (4, 30, 4, 0), (4, 37, 4, 3), (4, 41, 4, 7), (4, 44, 4, 8), (4, 111, 9, 3), (4, 114, 9, 4), (4, 122, 9, 0), (4, 131, 4, 6), (4, 138, 9, 1), (4, 158, 9, 2), (5, 11, 3, 0), (5, 15, 3, 1), (5, 18, 3, 2), (5, 22, 3, 3), (5, 25, 3, 5), (5, 29, 3, 6), (5, 32, 3, 7), (5, 35, 3, 8), (5, 38, 3, 4), (5, 42, 3, 9), (6, 9, 1, 0), (6, 13, 1, 2), (6, 17, 1, 3), (6, 20, 1, 4), (6, 23, 1, 1), (6, 29, 1, 5), (9, 8, 8, 0), (9, 14, 8, 1), (9, 18, 8, 2), (9, 21, 8, 4), (9, 24, 8, 5), (9, 27, 8, 6), (9, 30, 8, 7), (9, 33, 8, 8), (9, 36, 8, 11), (9, 39, 8, 13), (9, 42, 8, 15), (9, 45, 8, 16), (9, 48, 8, 17), (9, 51, 8, 18), (9, 54, 8, 19), (9, 57, 8, 20), (9, 60, 8, 25), (9, 63, 8, 26), (9, 67, 8, 28), (9, 70, 8, 30), (9, 73, 8, 32), (9, 84, 8, 3), (9, 88, 8, 14), (9, 95, 8, 12), (9, 121, 8, 31), (9, 131, 8, 9), (9, 140, 8, 10), (9, 154, 8, 23), (9, 157, 8, 24), (9, 172, 8, 22), (9, 175, 8, 21), (9, 209, 8, 27), (9, 222, 8, 29), (12, 7, 5, 0), (11, 9, 5, 1), (11, 48, 5, 2), (11, 63, 5, 0)]
theorem am_FL_0 : am_okF (8, 10, 0, 0) := ⟨_, _, _, "TextIndices", rfl, by decide, tm 282 (by decide +kernel), Or.inl rfl⟩
theorem am_FL_1 : am_okF (8, 18, 0, 1) := ⟨_, _, _, "TextIndices", rfl, by decide, tm 283 (by decide +kernel), Or.inl rfl⟩
theorem am_FL_2 : am_okF (8, 28, 0, 2) := ⟨_, _, _, "TextIndices", rfl, by decide, tm 284 (by decide +kernel), Or.inl rfl⟩
theorem am_FL_3 : am_okF (8, 37, 0, 3) := ⟨_, _, _, "TextIndices", rfl, by decide, tm 285 (by decide +kernel), Or.inl rfl⟩
theorem am_FL_4 : am_okF (8, 44, 0, 4) := ⟨_, _, _, "TextIndices", rfl, by decide, tm 286 (by decide +kernel), Or.inl rfl⟩
theorem am_FL_5 : am_okF (8, 51, 0, 5) := ⟨_, _, _, "TextIndices", rfl, by decide, tm 287 (by decide +kernel), Or.inl rfl⟩
theorem am_FL_6 : am_okF (8, 57, 0, 6) := ⟨_, _, _, "TextIndices", rfl, by decide, tm 288 (by decide +kernel), Or.inl rfl⟩
theorem am_FL_7 : am_okF (0, 11, 6, 0) := ⟨_, _, _, "TextIndices$Answers", rfl, by decide, tm 244 (by decide +kernel), Or.inl rfl⟩
theorem am_FL_8 : am_okF (0, 17, 6, 1) := ⟨_, _, _, "TextIndices$Answers", rfl, by decide, tm 245 (by decide +kernel), Or.inl rfl⟩
theorem am_FL_9 : am_okF (0, 21, 6, 2) := ⟨_, _, _, "TextIndices$Answers", rfl, by decide, tm 246 (by decide +kernel), Or.inl rfl⟩
theorem am_FL_10 : am_okF (1, 9, 2, 1) := ⟨_, _, _, "TextIndices$Language", rfl, by decide, tm 122 (by decide +kernel), Or.inl rfl⟩
theorem am_FL_11 : am_okF (1, 13, 2, 2) := ⟨_, _, _, "TextIndices$Language", rfl, by decide, tm 123 (by decide +kernel), Or.inl rfl⟩
theorem am_FL_12 : am_okF (1, 16, 2, 4) := ⟨_, _, _, "TextIndices$Language", rfl, by decide, tm 125 (by decide +kernel), Or.inl rfl⟩
theorem am_FL_13 : am_okF (1, 19, 2, 0) := ⟨_, _, _, "TextIndices$Language", rfl, by decide, tm 121 (by decide +kernel), Or.inl rfl⟩
theorem am_FL_14 : am_okF (1, 23, 2, 5) := ⟨_, _, _, "TextIndices$Language", rfl, by decide, tm 126 (by decide +kernel), Or.inl rfl⟩
theorem am_FL_15 : am_okF (1, 36, 2, 3) := ⟨_, _, _, "TextIndices$Language", rfl, by decide, tm 124 (by decide +kernel), Or.inl rfl⟩
theorem am_FL_16 : am_okF (2, 11, 7, 0) := ⟨_, _, _, "TextIndices$Likes", rfl, by decide, tm 260 (by decide +kernel), Or.inl rfl⟩
theorem am_FL_17 : am_okF (2, 17, 7, 1) := ⟨_, _, _, "TextIndices$Likes", rfl, by decide, tm 261 (by decide +kernel), Or.inl rfl⟩
theorem am_FL_18 : am_okF (2, 23, 7, 3) := ⟨_, _, _, "TextIndices$Likes", rfl, by decide, tm 263 (by decide +kernel), Or.inl rfl⟩
theorem am_FL_19 : am_okF (2, 26, 7, 5) := ⟨_, _, _, "TextIndices$Likes", rfl, by decide, tm 265 (by decide +kernel), Or.inl rfl⟩
theorem am_FL_20 : am_okF (2, 29, 7, 6) := ⟨_, _, _, "TextIndices$Likes", rfl, by decide, tm 266 (by decide +kernel), Or.inl rfl⟩
theorem am_FL_21 : am_okF (2, 32, 7, 2) := ⟨_, _, _, "TextIndices$Likes", rfl, by decide, tm 262 (by decide +kernel), Or.inl rfl⟩
theorem am_FL_22 : am_okF (2, 40, 7, 4) := ⟨_, _, _, "TextIndices$Likes", rfl, by decide, tm 264 (by decide +kernel), Or.inl rfl⟩
theorem am_FL_23 : am_okF (3, 7, 9, 0) := ⟨_, _, _, "TextIndices$Part", rfl, by decide, tm 522 (by decide +kernel), Or.inl rfl⟩
theorem am_FL_24 : am_okF (3, 13, 9, 1) := ⟨_, _, _, "TextIndices$Part", rfl, by decide, tm 524 (by decide +kernel), Or.inl rfl⟩
theorem am_FL_25 : am_okF (3, 17, 9, 2) := ⟨_, _, _, "TextIndices$Part", rfl, by decide, tm 526 (by decide +kernel), Or.inl rfl⟩
theorem am_FL_26 : am_okF (3, 21, 9, 3) := ⟨_, _, _, "TextIndices$Part", rfl, by decide, tm 528 (by decide +kernel), Or.inl rfl⟩
theorem am_FL_27 : am_okF (3, 24, 9, 4) := ⟨_, _, _, "TextIndices$Part", rfl, by decide, tm 530 (by decide +kernel), Or.inl rfl⟩
theorem am_FL_28 : am_okF (4, 12, 4, 1) := ⟨_, _, _, "TextIndices$Question", rfl, by decide, tm 211 (by decide +kernel), Or.inl rfl⟩
theorem am_FL_29 : am_okF (4, 20, 4, 2) := ⟨_, _, _, "TextIndices$Question", rfl, by decide, tm 212 (by decide +kernel), Or.inl rfl⟩
theorem am_FL_30 : am_okF (4, 24, 4, 4) := ⟨_, _, _, "TextIndices$Question", rfl, by decide, tm 214 (by decide +kernel), Or.inl rfl⟩
theorem am_FL_31 : am_okF (4, 27, 4, 5) := ⟨_, _, _, "TextIndices$Question", rfl, by decide, tm 215 (by decide +kernel), Or.inl rfl⟩
theorem am_FL_32 : am_okF (4, 30, 4, 0) := ⟨_, _, _, "TextIndices$Question", rfl, by decide, tm 210 (by decide +kernel), Or.inl rfl⟩
theorem am_FL_33 : am_okF (4, 37, 4, 3) := ⟨_, _, _, "TextIndices$Question", rfl, by decide, tm 213 (by decide +kernel), Or.inl rfl⟩
theorem am_FL_34 : am_okF (4, 41, 4, 7) := ⟨_, _, _, "TextIndices$Question", rfl, by decide, tm 217 (by decide +kernel), Or.inl rfl⟩
theorem am_FL_35 : am_okF (4, 44, 4, 8) := ⟨_, _, _, "TextIndices$Question", rfl, by decide, tm 218 (by decide +kernel), Or.inl rfl⟩
theorem am_FL_36 : am_okF (4, 111, 9, 3) := ⟨_, _, _, "TextIndices$Part", rfl, by decide, tm 529 (by decide +kernel), Or.inl rfl⟩
theorem am_FL_37 : am_okF (4, 114, 9, 4) := ⟨_, _, _, "TextIndices$Part", rfl, by decide, tm 531 (by decide +kernel), Or.inl rfl⟩
theorem am_FL_38 : am_okF (4, 122, 9, 0) := ⟨_, _, _, "TextIndices$Part", rfl, by decide, tm 523 (by decide +kernel), Or.inl rfl⟩
theorem am_FL_39 : am_okF (4, 131, 4, 6) := ⟨_, _, _, "TextIndices$Question", rfl, by decide, tm 216 (by decide +kernel), Or.inl rfl⟩
theorem am_FL_40 : am_okF (4, 138, 9, 1) := ⟨_, _, _, "TextIndices$Part", rfl, by decide, tm 525 (by decide +kernel), Or.inl rfl⟩
theorem am_FL_41 : am_okF (4, 158, 9, 2) := ⟨_, _, _, "TextIndices$Part", rfl, by decide, tm 527 (by decide +kernel), Or.inl rfl⟩
theorem am_FL_42 : am_okF (5, 11, 3, 0) := ⟨_, _, _, "TextIndices$Shelf", rfl, by decide, tm 146 (by decide +kernel), Or.inl rfl⟩
theorem am_FL_43 : am_okF (5, 15, 3, 1) := ⟨_, _, _, "TextIndices$Shelf", rfl, by decide, tm 147 (by decide +kernel), Or.inl rfl⟩
theorem am_FL_44 : am_okF (5, 18, 3, 2) := ⟨_, _, _, "TextIndices$Shelf", rfl, by decide, tm 148 (by decide +kernel), Or.inl rfl⟩
theorem am_FL_45 : am_okF (5, 22, 3, 3) := ⟨_, _, _, "TextIndices$Shelf", rfl, by decide, tm 149 (by decide +kernel), Or.inl rfl⟩
theorem am_FL_46 : am_okF (5, 25, 3, 5) := ⟨_, _, _, "TextIndices$Shelf", rfl, by decide, tm 151 (by decide +kernel), Or.inl rfl⟩
theorem am_FL_47 : am_okF (5, 29, 3, 6) := ⟨_, _, _, "TextIndices$Shelf", rfl, by decide, tm 152 (by decide +kernel), Or.inl rfl⟩
theorem am_FL_48 : am_okF (5, 32, 3, 7) := ⟨_, _, _, "TextIndices$Shelf", rfl, by decide, tm 153 (by decide +kernel), Or.inl rfl⟩
theorem am_FL_49 : am_okF (5, 35, 3, 8) := ⟨_, _, _, "TextIndices$Shelf", rfl, by decide, tm 154 (by decide +kernel), Or.inl rfl⟩
theorem am_FL_50 : am_okF (5, 38, 3, 4) := ⟨_, _, _, "TextIndices$Shelf", rfl, by decide, tm 150 (by decide +kernel), Or.inl rfl⟩
theorem am_FL_51 : am_okF (5, 42, 3, 9) := ⟨_, _, _, "TextIndices$Shelf", rfl, by decide, tm 155 (by decide +kernel), Or.inl rfl⟩
theorem am_FL_52 : am_okF (6, 9, 1, 0) := ⟨_, _, _, "TextIndices$Tape", rfl, by decide, tm 93 (by decide +kernel), Or.inl rfl⟩
theorem am_FL_53 : am_okF (6, 13, 1, 2) := ⟨_, _, _, "TextIndices$Tape", rfl, by decide, tm 95 (by decide +kernel), Or.inl rfl⟩
theorem am_FL_54 : am_okF (6, 17, 1, 3) := ⟨_, _, _, "TextIndices$Tape", rfl, by decide, tm 96 (by decide +kernel), Or.inl rfl⟩
theorem am_FL_55 : am_okF (6, 20, 1, 4) := ⟨_, _, _, "TextIndices$Tape", rfl, by decide, tm 97 (by decide +kernel), Or.inl rfl⟩
theorem am_FL_56 : am_okF (6, 23, 1, 1) := ⟨_, _, _, "TextIndices$Tape", rfl, by decide, tm 94 (by decide +kernel), Or.inl rfl⟩
theorem am_FL_57 : am_okF (6, 29, 1, 5) := ⟨_, _, _, "TextIndices$Tape", rfl, by decide, tm 98 (by decide +kernel), Or.inl rfl⟩
theorem am_FL_58 : am_okF (9, 8, 8, 0) := ⟨_, _, _, "TextIndicesModel", rfl, by decide, tm 827 (by decide +kernel), Or.inl rfl⟩
theorem am_FL_59 : am_okF (9, 14, 8, 1) := ⟨_, _, _, "TextIndicesModel", rfl, by decide, tm 828 (by decide +kernel), Or.inl rfl⟩
theorem am_FL_60 : am_okF (9, 18, 8, 2) := ⟨_, _, _, "TextIndicesModel", rfl, by decide, tm 829 (by decide +kernel), Or.inl rfl⟩
theorem am_FL_61 : am_okF (9, 21, 8, 4) := ⟨_, _, _, "TextIndicesModel", rfl, by decide, tm 831 (by decide +kernel), Or.inl rfl⟩
theorem am_FL_62 : am_okF (9, 24, 8, 5) := ⟨_, _, _, "TextIndicesModel", rfl, by decide, tm 832 (by decide +kernel), Or.inl rfl⟩
theorem am_FL_63 : am_okF (9, 27, 8, 6) := ⟨_, _, _, "TextIndicesModel", rfl, by decide, tm 833 (by decide +kernel), Or.inl rfl⟩
theorem am_FL_64 : am_okF (9, 30, 8, 7) := ⟨_, _, _, "TextIndicesModel", rfl, by decide, tm 834 (by decide +kernel), Or.inl rfl⟩
theorem am_FL_65 : am_okF (9, 33, 8, 8) := ⟨_, _, _, "TextIndicesModel", rfl, by decide, tm 835 (by decide +kernel), Or.inl rfl⟩
theorem am_FL_66 : am_okF (9, 36, 8, 11) := ⟨_, _, _, "TextIndicesModel", rfl, by decide, tm 838 (by decide +kernel), Or.inl rfl⟩
theorem am_FL_67 : am_okF (9, 39, 8, 13) := ⟨_, _, _, "TextIndicesModel", rfl, by decide, tm 840 (by decide +kernel), Or.inl rfl⟩
theorem am_FL_68 : am_okF (9, 42, 8, 15) := ⟨_, _, _, "TextIndicesModel", rfl, by decide, tm 842 (by decide +kernel), Or.inl rfl⟩
theorem am_FL_69 : am_okF (9, 45, 8, 16) := ⟨_, _, _, "TextIndicesModel", rfl, by decide, tm 843 (by decide +kernel), Or.inl rfl⟩
theorem am_FL_70 : am_okF (9, 48, 8, 17) := ⟨_, _, _, "TextIndicesModel", rfl, by decide, tm 844 (by decide +kernel), Or.inl rfl⟩
theorem am_FL_71 : am_okF (9, 51, 8, 18) := ⟨_, _, _, "TextIndicesModel", rfl, by decide, tm 845 (by decide +kernel), Or.inl rfl⟩
theorem am_FL_72 : am_okF (9, 54, 8, 19) := ⟨_, _, _, "TextIndicesModel", rfl, by decide, tm 846 (by decide +kernel), Or.inl rfl⟩
theorem am_FL_73 : am_okF (9, 57, 8, 20) := ⟨_, _, _, "TextIndicesModel", rfl, by decide, tm 847 (by decide +kernel), Or.inl rfl⟩
theorem am_FL_74 : am_okF (9, 60, 8, 25) := ⟨_, _, _, "TextIndicesModel", rfl, by decide, tm 852 (by decide +kernel), Or.inl rfl⟩
theorem am_FL_75 : am_okF (9, 63, 8, 26) := ⟨_, _, _, "TextIndicesModel", rfl, by decide, tm 853 (by decide +kernel), Or.inl rfl⟩
theorem am_FL_76 : am_okF (9, 67, 8, 28) := ⟨_, _, _, "TextIndicesModel", rfl, by decide, tm 855 (by decide +kernel), Or.inl rfl⟩
theorem am_FL_77 : am_okF (9, 70, 8, 30) := ⟨_, _, _, "TextIndicesModel", rfl, by decide, tm 857 (by decide +kernel), Or.inl rfl⟩
theorem am_FL_78 : am_okF (9, 73, 8, 32) := ⟨_, _, _, "TextIndicesModel", rfl, by decide, tm 859 (by decide +kernel), Or.inl rfl⟩
theorem am_FL_79 : am_okF (9, 84, 8, 3) := ⟨_, _, _, "TextIndicesModel", rfl, by decide, tm 830 (by decide +kernel), Or.inl rfl⟩
theorem am_FL_80 : am_okF (9, 88, 8, 14) := ⟨_, _, _, "TextIndicesModel", rfl, by decide, tm 841 (by decide +kernel), Or.inl rfl⟩
theorem am_FL_81 : am_okF (9, 95, 8, 12) := ⟨_, _, _, "TextIndicesModel", rfl, by decide, tm 839 (by decide +kernel), Or.inl rfl⟩
theorem am_FL_82 : am_okF (9, 121, 8, 31) := ⟨_, _, _, "TextIndicesModel", rfl, by decide, tm 858 (by decide +kernel), Or.inl rfl⟩
theorem am_FL_83 : am_okF (9, 131, 8, 9) := ⟨_, _, _, "TextIndicesModel", rfl, by decide, tm 836 (by decide +kernel), Or.inl rfl⟩
theorem am_FL_84 : am_okF (9, 140, 8, 10) := ⟨_, _, _, "TextIndicesModel", rfl, by decide, tm 837 (by decide +kernel), Or.inl rfl⟩
theorem am_FL_85 : am_okF (9, 154, 8, 23) := ⟨_, _, _, "TextIndicesModel", rfl, by decide, tm 850 (by decide +kernel), Or.inl rfl⟩
theorem am_FL_86 : am_okF (9, 157, 8, 24) := ⟨_, _, _, "TextIndicesModel", rfl, by decide, tm 851 (by decide +kernel), Or.inl rfl⟩
theorem am_FL_87 : am_okF (9, 172, 8, 22) := ⟨_, _, _, "TextIndicesModel", rfl, by decide, tm 849 (by decide +kernel), Or.inl rfl⟩
theorem am_FL_88 : am_okF (9, 175, 8, 21) := ⟨_, _, _, "TextIndicesModel", rfl, by decide, tm 848 (by decide +kernel), Or.inl rfl⟩
theorem am_FL_89 : am_okF (9, 209, 8, 27) := ⟨_, _, _, "TextIndicesModel", rfl, by decide, tm 854 (by decide +kernel), Or.inl rfl⟩
theorem am_FL_90 : am_okF (9, 222, 8, 29) := ⟨_, _, _, "TextIndicesModel", rfl, by decide, tm 856 (by decide +kernel), Or.inl rfl⟩
theorem am_FL_91 : am_okF (12, 7, 5, 0) := ⟨_, _, _, "java/util/AbstractList", rfl, by decide, tm 200 (by decide +kernel), Or.inl rfl⟩
theorem am_FL_92 : am_okF (11, 9, 5, 1) := ⟨_, _, _, "java/util/ArrayList", rfl, by decide, tm 198 (by decide +kernel), Or.inl rfl⟩
theorem am_FL_93 : am_okF (11, 48, 5, 2) := ⟨_, _, _, "java/util/ArrayList", rfl, by decide, tm 199 (by decide +kernel), Or.inl rfl⟩
theorem am_FL_94 : am_okF (11, 63, 5, 0) := ⟨_, _, _, "java/util/ArrayList", rfl, by decide, tm 201 (by decide +kernel), Or.inr (tm 202 (by decide +kernel))⟩
set_option maxRecDepth 20000 in
theorem am_FL_ok : ∀ q ∈ am_FL, am_okF q := List.forall_mem_cons.mpr ⟨am_FL_0, List.forall_mem_cons.mpr ⟨am_FL_1, List.forall_mem_cons.mpr ⟨am_FL_2, List.forall_mem_cons.mpr ⟨am_FL_3, List.forall_mem_cons.mpr ⟨am_FL_4, List.forall_mem_cons.mpr ⟨am_FL_5, List.forall_mem_cons.mpr ⟨am_FL_6, List.forall_mem_cons.mpr ⟨am_FL_7, List.forall_mem_cons.mpr ⟨am_FL_8, List.forall_mem_cons.mpr ⟨am_FL_9, List.forall_mem_cons.mpr ⟨am_FL_10, List.forall_mem_cons.mpr ⟨am_FL_11, List.forall_mem_cons.mpr ⟨am_FL_12, List.forall_mem_cons.mpr ⟨am_FL_13, List.forall_mem_cons.mpr ⟨am_FL_14, List.forall_mem_cons.mpr ⟨am_FL_15, List.forall_mem_cons.mpr ⟨am_FL_16, List.forall_mem_cons.mpr ⟨am_FL_17, List.forall_mem_cons.mpr ⟨am_FL_18, List.forall_mem_cons.mpr ⟨am_FL_19, List.forall_mem_cons.mpr ⟨am_FL_20, List.forall_mem_cons.mpr ⟨am_FL_21, List.forall_mem_cons.mpr ⟨am_FL_22, List.forall_mem_cons.mpr ⟨am_FL_23, List.forall_mem_cons.mpr ⟨am_FL_24, List.forall_mem_cons.mpr ⟨am_FL_25, List.forall_mem_cons.mpr ⟨am_FL_26, List.forall_mem_cons.mpr ⟨am_FL_27, List.forall_mem_cons.mpr ⟨am_FL_28, List.forall_mem_cons.mpr ⟨am_FL_29, List.forall_mem_cons.mpr ⟨am_FL_30, List.forall_mem_cons.mpr ⟨am_FL_31, List.forall_mem_cons.mpr ⟨am_FL_32, List.forall_mem_cons.mpr ⟨am_FL_33, List.forall_mem_cons.mpr ⟨am_FL_34, List.forall_mem_cons.mpr ⟨am_FL_35, List.forall_mem_cons.mpr ⟨am_FL_36, List.forall_mem_cons.mpr ⟨am_FL_37, List.forall_mem_cons.mpr ⟨am_FL_38, List.forall_mem_cons.mpr ⟨am_FL_39, List.forall_mem_cons.mpr ⟨am_FL_40, List.forall_mem_cons.mpr ⟨am_FL_41, List.forall_mem_cons.mpr ⟨am_FL_42, List.forall_mem_cons.mpr ⟨am_FL_43, List.forall_mem_cons.mpr ⟨am_FL_44, List.forall_mem_cons.mpr ⟨am_FL_45, List.forall_mem_cons.mpr ⟨am_FL_46, List.forall_mem_cons.mpr ⟨am_FL_47, List.forall_mem_cons.mpr ⟨am_FL_48, List.forall_mem_cons.mpr ⟨am_FL_49, List.forall_mem_cons.mpr ⟨am_FL_50, List.forall_mem_cons.mpr ⟨am_FL_51, List.forall_mem_cons.mpr ⟨am_FL_52, List.forall_mem_cons.mpr ⟨am_FL_53, List.forall_mem_cons.mpr ⟨am_FL_54, List.forall_mem_cons.mpr ⟨am_FL_55, List.forall_mem_cons.mpr ⟨am_FL_56, List.forall_mem_cons.mpr ⟨am_FL_57, List.forall_mem_cons.mpr ⟨am_FL_58, List.forall_mem_cons.mpr ⟨am_FL_59, List.forall_mem_cons.mpr ⟨am_FL_60, List.forall_mem_cons.mpr ⟨am_FL_61, List.forall_mem_cons.mpr ⟨am_FL_62, List.forall_mem_cons.mpr ⟨am_FL_63, List.forall_mem_cons.mpr ⟨am_FL_64, List.forall_mem_cons.mpr ⟨am_FL_65, List.forall_mem_cons.mpr ⟨am_FL_66, List.forall_mem_cons.mpr ⟨am_FL_67, List.forall_mem_cons.mpr ⟨am_FL_68, List.forall_mem_cons.mpr ⟨am_FL_69, List.forall_mem_cons.mpr ⟨am_FL_70, List.forall_mem_cons.mpr ⟨am_FL_71, List.forall_mem_cons.mpr ⟨am_FL_72, List.forall_mem_cons.mpr ⟨am_FL_73, List.forall_mem_cons.mpr ⟨am_FL_74, List.forall_mem_cons.mpr ⟨am_FL_75, List.forall_mem_cons.mpr ⟨am_FL_76, List.forall_mem_cons.mpr ⟨am_FL_77, List.forall_mem_cons.mpr ⟨am_FL_78, List.forall_mem_cons.mpr ⟨am_FL_79, List.forall_mem_cons.mpr ⟨am_FL_80, List.forall_mem_cons.mpr ⟨am_FL_81, List.forall_mem_cons.mpr ⟨am_FL_82, List.forall_mem_cons.mpr ⟨am_FL_83, List.forall_mem_cons.mpr ⟨am_FL_84, List.forall_mem_cons.mpr ⟨am_FL_85, List.forall_mem_cons.mpr ⟨am_FL_86, List.forall_mem_cons.mpr ⟨am_FL_87, List.forall_mem_cons.mpr ⟨am_FL_88, List.forall_mem_cons.mpr ⟨am_FL_89, List.forall_mem_cons.mpr ⟨am_FL_90, List.forall_mem_cons.mpr ⟨am_FL_91, List.forall_mem_cons.mpr ⟨am_FL_92, List.forall_mem_cons.mpr ⟨am_FL_93, List.forall_mem_cons.mpr ⟨am_FL_94, fun _ h => absurd h List.not_mem_nil⟩⟩⟩⟩⟩⟩⟩⟩⟩⟩⟩⟩⟩⟩⟩⟩⟩⟩⟩⟩⟩⟩⟩⟩⟩⟩⟩⟩⟩⟩⟩⟩⟩⟩⟩⟩⟩⟩⟩⟩⟩⟩⟩⟩⟩⟩⟩⟩⟩⟩⟩⟩⟩⟩⟩⟩⟩⟩⟩⟩⟩⟩⟩⟩⟩⟩⟩⟩⟩⟩⟩⟩⟩⟩⟩⟩⟩⟩⟩⟩⟩⟩⟩⟩⟩⟩⟩⟩⟩⟩⟩⟩⟩⟩⟩
def am_xs (x : Nat) : Option (String × String × String) := match x with
  | 0 => some ("java/util/ArrayList", "DEFAULTCAPACITY_EMPTY_ELEMENTDATA", "[Ljava/lang/Object;")
  | 1 => some ("TextIndices$Kind", "WORD", "LTextIndices$Kind;")
  | 2 => some ("TextIndices$Kind", "BEGINNING", "LTextIndices$Kind;")
  | 3 => some ("TextIndices$Kind", "PHRASE", "LTextIndices$Kind;")
  | _ => none
def am_okS (q : Nat × Nat × Nat) : Prop := ∃ (C n d : String), am_xs q.2.2 = some (C, n, d) ∧ Cond.fieldLink (am_on q.1) q.2.1 C n d ∈ am_T
def am_SL : List (Nat × Nat × Nat) := [(4, 74, 2), (4, 80, 1), (4, 94, 3), (11, 39, 0)]
theorem am_SL_0 : am_okS (4, 74, 2) := ⟨_, _, _, rfl, tm 605 (by decide +kernel)⟩
theorem am_SL_1 : am_okS (4, 80, 1) := ⟨_, _, _, rfl, tm 607 (by decide +kernel)⟩
theorem am_SL_2 : am_okS (4, 94, 3) := ⟨_, _, _, rfl, tm 516 (by decide +kernel)⟩
theorem am_SL_3 : am_okS (11, 39, 0) := ⟨_, _, _, rfl, tm 196 (by decide +kernel)⟩
set_option maxRecDepth 20000 in
theorem am_SL_ok : ∀ q ∈ am_SL, am_okS q := List.forall_mem_cons.mpr ⟨am_SL_0, List.forall_mem_cons.mpr ⟨am_SL_1, List.forall_mem_cons.mpr ⟨am_SL_2, List.forall_mem_cons.mpr ⟨am_SL_3, fun _ h => absurd h List.not_mem_nil⟩⟩⟩⟩
def am_okKL (q : Nat × Nat × Int64) : Prop := Cond.constantLong (am_on q.1) q.2.1 q.2.2 ∈ am_T
def am_KL : List (Nat × Nat × Int64) := [(4, 152, 5342931457063200), (6, 27, 255), (7, 9, 37), (10, 13, 4294967295), (9, 204, 5342931457063200)]
theorem am_KL_0 : am_okKL (4, 152, 5342931457063200) := tm 653 (by decide +kernel)
theorem am_KL_1 : am_okKL (6, 27, 255) := tm 312 (by decide +kernel)
theorem am_KL_2 : am_okKL (7, 9, 37) := tm 351 (by decide +kernel)
theorem am_KL_3 : am_okKL (10, 13, 4294967295) := tm 1126 (by decide +kernel)
theorem am_KL_4 : am_okKL (9, 204, 5342931457063200) := tm 1097 (by decide +kernel)
set_option maxRecDepth 20000 in
theorem am_KL_ok : ∀ q ∈ am_KL, am_okKL q := List.forall_mem_cons.mpr ⟨am_KL_0, List.forall_mem_cons.mpr ⟨am_KL_1, List.forall_mem_cons.mpr ⟨am_KL_2, List.forall_mem_cons.mpr ⟨am_KL_3, List.forall_mem_cons.mpr ⟨am_KL_4, fun _ h => absurd h List.not_mem_nil⟩⟩⟩⟩⟩
def am_okKI (q : Nat × Nat × Int32) : Prop := Cond.constant (am_on q.1) q.2.1 q.2.2 ∈ am_T
def am_KI : List (Nat × Nat × Int32) := [(9, 7, 72408), (16, 200, 2147483639)]
theorem am_KI_0 : am_okKI (9, 7, 72408) := tm 826 (by decide +kernel)
theorem am_KI_1 : am_okKI (16, 200, 2147483639) := tm 565 (by decide +kernel)
set_option maxRecDepth 20000 in
theorem am_KI_ok : ∀ q ∈ am_KI, am_okKI q := List.forall_mem_cons.mpr ⟨am_KI_0, List.forall_mem_cons.mpr ⟨am_KI_1, fun _ h => absurd h List.not_mem_nil⟩⟩
def am_okN (q : Nat × Nat × Nat) : Prop := ∃ (C : String) (T : u_T) (N : Nat), am_cl[q.2.2]? = some (C, T, N) ∧ Cond.classLink (am_on q.1) q.2.1 C ∈ am_T
def am_NL : List (Nat × Nat × Nat) := [(8, 7, 1), (8, 16, 2), (8, 25, 3), (8, 32, 4), (8, 41, 6), (8, 48, 7), (4, 9, 5), (4, 72, 9), (10, 7, 0), (10, 10, 8)]
theorem am_NL_0 : am_okN (8, 7, 1) := ⟨_, _, _, rfl, tm 87 (by decide +kernel)⟩
theorem am_NL_1 : am_okN (8, 16, 2) := ⟨_, _, _, rfl, tm 114 (by decide +kernel)⟩
theorem am_NL_2 : am_okN (8, 25, 3) := ⟨_, _, _, rfl, tm 140 (by decide +kernel)⟩
theorem am_NL_3 : am_okN (8, 32, 4) := ⟨_, _, _, rfl, tm 178 (by decide +kernel)⟩
theorem am_NL_4 : am_okN (8, 41, 6) := ⟨_, _, _, rfl, tm 238 (by decide +kernel)⟩
theorem am_NL_5 : am_okN (8, 48, 7) := ⟨_, _, _, rfl, tm 254 (by decide +kernel)⟩
theorem am_NL_6 : am_okN (4, 9, 5) := ⟨_, _, _, rfl, tm 184 (by decide +kernel)⟩
theorem am_NL_7 : am_okN (4, 72, 9) := ⟨_, _, _, rfl, tm 514 (by decide +kernel)⟩
theorem am_NL_8 : am_okN (10, 7, 0) := ⟨_, _, _, rfl, tm 79 (by decide +kernel)⟩
theorem am_NL_9 : am_okN (10, 10, 8) := ⟨_, _, _, rfl, tm 820 (by decide +kernel)⟩
set_option maxRecDepth 20000 in
theorem am_NL_ok : ∀ q ∈ am_NL, am_okN q := List.forall_mem_cons.mpr ⟨am_NL_0, List.forall_mem_cons.mpr ⟨am_NL_1, List.forall_mem_cons.mpr ⟨am_NL_2, List.forall_mem_cons.mpr ⟨am_NL_3, List.forall_mem_cons.mpr ⟨am_NL_4, List.forall_mem_cons.mpr ⟨am_NL_5, List.forall_mem_cons.mpr ⟨am_NL_6, List.forall_mem_cons.mpr ⟨am_NL_7, List.forall_mem_cons.mpr ⟨am_NL_8, List.forall_mem_cons.mpr ⟨am_NL_9, fun _ h => absurd h List.not_mem_nil⟩⟩⟩⟩⟩⟩⟩⟩⟩⟩
/-- kinds of rows -/
def am_TY : List FieldType := [.int, .byte, .boolean, .long, .object "java/lang/Object", .object "TextIndices$Language"]
def am_okQ (q : Nat × Nat × Nat) : Prop := ∃ C : String, am_TY[q.2.2]? = some (.object C) ∧ Cond.classLink (am_on q.1) q.2.1 C ∈ am_T ∧ Cond.arrayOver (.object C) ∈ lw_tbl
def am_QL : List (Nat × Nat × Nat) := [(8, 16, 5), (11, 7, 4), (14, 2, 4)]
theorem am_QL_0 : am_okQ (8, 16, 5) := ⟨"TextIndices$Language", rfl, tm 114 (by decide +kernel), tn 115 (by decide +kernel)⟩
theorem am_QL_1 : am_okQ (11, 7, 4) := ⟨"java/lang/Object", rfl, tm 594 (by decide +kernel), tn 591 (by decide +kernel)⟩
theorem am_QL_2 : am_okQ (14, 2, 4) := ⟨"java/lang/Object", rfl, tm 592 (by decide +kernel), tn 591 (by decide +kernel)⟩
set_option maxRecDepth 20000 in
theorem am_QL_ok : ∀ q ∈ am_QL, am_okQ q := List.forall_mem_cons.mpr ⟨am_QL_0, List.forall_mem_cons.mpr ⟨am_QL_1, List.forall_mem_cons.mpr ⟨am_QL_2, fun _ h => absurd h List.not_mem_nil⟩⟩⟩
def am_okMI (q : Nat × Nat) : Prop := Cond.classLink (am_on q.1) q.2 "[Ljava/lang/Object;" ∈ am_T
def am_MI : List (Nat × Nat) := [(14, 110)]
theorem am_MI_0 : am_okMI (14, 110) := tm 590 (by decide +kernel)
set_option maxRecDepth 20000 in
theorem am_MI_ok : ∀ q ∈ am_MI, am_okMI q := List.forall_mem_cons.mpr ⟨am_MI_0, fun _ h => absurd h List.not_mem_nil⟩
theorem am_ac_int : Cond.arrayClass .int ∈ am_T := tm 112 (by decide +kernel)
theorem am_ac_byte : Cond.arrayClass .byte ∈ am_T := tm 927 (by decide +kernel)
theorem am_ac_boolean : Cond.arrayClass .boolean ∈ am_T := tm 177 (by decide +kernel)
theorem am_ac_long : Cond.arrayClass .long ∈ am_T := tm 113 (by decide +kernel)
def am_okC (ci : Nat) : Prop := ∀ (C : String) (T : u_T) (N : Nat), am_cl[ci]? = some (C, T, N) → (∀ w ∈ u_ws C T N, w ∈ am_T) ∧ (∀ k, k < N → parseFieldDescriptor (T k).2.2.1 = some (am_ft ci k)) ∧ (∀ a, a < N → ∀ b, b < N → a ≠ b → (T a).2.1 ≠ (T b).2.1) ∧ Cond.instantiable C N ∈ am_T ∧ Cond.initialized C ∈ am_T ∧ (am_df ci).length = N ∧ ∀ j, j < N → defaultValue (am_ft ci j) = vp_V (am_df ci) j
theorem am_okC_0 : am_okC 0 := by
  intro C T N h
  cases h
  exact ⟨tm_sub [289, 291, 293, 295, 297, 299, 301] (by decide +kernel), tyok_TI, nm_TI, tm 80 (by decide +kernel), tm 58 (by decide +kernel), by decide, by decide +kernel⟩
theorem am_okC_1 : am_okC 1 := by
  intro C T N h
  cases h
  exact ⟨tm_sub [99, 101, 103, 105, 107, 109] (by decide +kernel), tyok_Ta, nm_Ta, tm 88 (by decide +kernel), tm 59 (by decide +kernel), by decide, by decide +kernel⟩
theorem am_okC_2 : am_okC 2 := by
  intro C T N h
  cases h
  exact ⟨tm_sub [127, 129, 131, 133, 135, 137] (by decide +kernel), tyok_La, nm_La, tm 116 (by decide +kernel), tm 60 (by decide +kernel), by decide, by decide +kernel⟩
theorem am_okC_3 : am_okC 3 := by
  intro C T N h
  cases h
  exact ⟨tm_sub [156, 158, 160, 162, 164, 166, 168, 170, 172, 174] (by decide +kernel), tyok_Sh, nm_Sh, tm 141 (by decide +kernel), tm 61 (by decide +kernel), by decide, by decide +kernel⟩
theorem am_okC_4 : am_okC 4 := by
  intro C T N h
  cases h
  exact ⟨tm_sub [219, 221, 223, 225, 227, 229, 231, 233, 235] (by decide +kernel), tyok_Qu, nm_Qu, tm 179 (by decide +kernel), tm 62 (by decide +kernel), by decide, by decide +kernel⟩
theorem am_okC_5 : am_okC 5 := by
  intro C T N h
  cases h
  exact ⟨tm_sub [207, 203, 205] (by decide +kernel), tyok_AL, nm_AL, tm 185 (by decide +kernel), tm 65 (by decide +kernel), by decide, by decide +kernel⟩
theorem am_okC_6 : am_okC 6 := by
  intro C T N h
  cases h
  exact ⟨tm_sub [247, 249, 251] (by decide +kernel), tyok_An, nm_An, tm 239 (by decide +kernel), tm 66 (by decide +kernel), by decide, by decide +kernel⟩
theorem am_okC_7 : am_okC 7 := by
  intro C T N h
  cases h
  exact ⟨tm_sub [267, 269, 271, 273, 275, 277, 279] (by decide +kernel), tyok_Li, nm_Li, tm 255 (by decide +kernel), tm 67 (by decide +kernel), by decide, by decide +kernel⟩
theorem am_okC_8 : am_okC 8 := by
  intro C T N h
  cases h
  exact ⟨tm_sub [860, 862, 864, 866, 868, 870, 872, 874, 876, 878, 880, 882, 884, 886, 888, 890, 892, 894, 896, 898, 900, 902, 904, 906, 908, 910, 912, 914, 916, 918, 920, 922, 924] (by decide +kernel), tyok_Mo, nm_Mo, tm 821 (by decide +kernel), tm 68 (by decide +kernel), by decide, by decide +kernel⟩
theorem am_okC_9 : am_okC 9 := by
  intro C T N h
  cases h
  exact ⟨tm_sub [532, 534, 536, 538, 540] (by decide +kernel), tyok_Pa, nm_Pa, tm 515 (by decide +kernel), tm 73 (by decide +kernel), by decide, by decide +kernel⟩
theorem am_okC_all (ci : Nat) : am_okC ci := by
  match ci with
  | 0 => exact am_okC_0
  | 1 => exact am_okC_1
  | 2 => exact am_okC_2
  | 3 => exact am_okC_3
  | 4 => exact am_okC_4
  | 5 => exact am_okC_5
  | 6 => exact am_okC_6
  | 7 => exact am_okC_7
  | 8 => exact am_okC_8
  | 9 => exact am_okC_9
  | n + 10 => intro C T N h; simp [am_cl] at h
def am_okJ (j : Nat) : Prop := Cond.code (am_y j) (am_bc j) (am_ml j) (am_rt j) ∈ am_T ∧ Cond.initialized (am_y j).cls ∈ am_T ∧ (am_y j).cls = am_on (am_ow j) ∧ plainFor (am_y j) = true ∧ ((am_y j).cls ≠ "java/lang/invoke/MethodHandle" ∧ (am_y j).cls ≠ "java/lang/invoke/VarHandle" ∧ (parseMethodDescriptor (am_y j).desc).map (fun d => d.parameters.length) = some (am_nc j))
theorem am_J_0 : am_okJ 0 := ⟨tm 242 (by decide +kernel), tm 66 (by decide +kernel), rfl, plainFor_of_name (by decide +kernel), by decide +kernel, by decide +kernel, by decide +kernel⟩
theorem am_J_1 : am_okJ 1 := ⟨tm 657 (by decide +kernel), tm 66 (by decide +kernel), rfl, plainFor_of_name (by decide +kernel), by decide +kernel, by decide +kernel, by decide +kernel⟩
theorem am_J_2 : am_okJ 2 := ⟨tm 696 (by decide +kernel), tm 66 (by decide +kernel), rfl, plainFor_of_name (by decide +kernel), by decide +kernel, by decide +kernel, by decide +kernel⟩
theorem am_J_3 : am_okJ 3 := ⟨tm 692 (by decide +kernel), tm 66 (by decide +kernel), rfl, plainFor_of_name (by decide +kernel), by decide +kernel, by decide +kernel, by decide +kernel⟩
theorem am_J_4 : am_okJ 4 := ⟨tm 708 (by decide +kernel), tm 66 (by decide +kernel), rfl, plainFor_of_name (by decide +kernel), by decide +kernel, by decide +kernel, by decide +kernel⟩
theorem am_J_5 : am_okJ 5 := ⟨tm 704 (by decide +kernel), tm 66 (by decide +kernel), rfl, plainFor_of_name (by decide +kernel), by decide +kernel, by decide +kernel, by decide +kernel⟩
theorem am_J_6 : am_okJ 6 := ⟨tm 716 (by decide +kernel), tm 66 (by decide +kernel), rfl, plainFor_of_name (by decide +kernel), by decide +kernel, by decide +kernel, by decide +kernel⟩
theorem am_J_7 : am_okJ 7 := ⟨tm 119 (by decide +kernel), tm 60 (by decide +kernel), rfl, plainFor_of_name (by decide +kernel), by decide +kernel, by decide +kernel, by decide +kernel⟩
theorem am_J_8 : am_okJ 8 := ⟨tm 363 (by decide +kernel), tm 60 (by decide +kernel), rfl, plainFor_of_name (by decide +kernel), by decide +kernel, by decide +kernel, by decide +kernel⟩
theorem am_J_9 : am_okJ 9 := ⟨tm 379 (by decide +kernel), tm 60 (by decide +kernel), rfl, plainFor_of_name (by decide +kernel), by decide +kernel, by decide +kernel, by decide +kernel⟩
theorem am_J_10 : am_okJ 10 := ⟨tm 428 (by decide +kernel), tm 60 (by decide +kernel), rfl, plainFor_of_name (by decide +kernel), by decide +kernel, by decide +kernel, by decide +kernel⟩
theorem am_J_11 : am_okJ 11 := ⟨tm 473 (by decide +kernel), tm 60 (by decide +kernel), rfl, plainFor_of_name (by decide +kernel), by decide +kernel, by decide +kernel, by decide +kernel⟩
theorem am_J_12 : am_okJ 12 := ⟨tm 469 (by decide +kernel), tm 60 (by decide +kernel), rfl, plainFor_of_name (by decide +kernel), by decide +kernel, by decide +kernel, by decide +kernel⟩
theorem am_J_13 : am_okJ 13 := ⟨tm 383 (by decide +kernel), tm 60 (by decide +kernel), rfl, plainFor_of_name (by decide +kernel), by decide +kernel, by decide +kernel, by decide +kernel⟩
theorem am_J_14 : am_okJ 14 := ⟨tm 389 (by decide +kernel), tm 60 (by decide +kernel), rfl, plainFor_of_name (by decide +kernel), by decide +kernel, by decide +kernel, by decide +kernel⟩
theorem am_J_15 : am_okJ 15 := ⟨tm 375 (by decide +kernel), tm 60 (by decide +kernel), rfl, plainFor_of_name (by decide +kernel), by decide +kernel, by decide +kernel, by decide +kernel⟩
theorem am_J_16 : am_okJ 16 := ⟨tm 258 (by decide +kernel), tm 67 (by decide +kernel), rfl, plainFor_of_name (by decide +kernel), by decide +kernel, by decide +kernel, by decide +kernel⟩
theorem am_J_17 : am_okJ 17 := ⟨tm 724 (by decide +kernel), tm 67 (by decide +kernel), rfl, plainFor_of_name (by decide +kernel), by decide +kernel, by decide +kernel, by decide +kernel⟩
theorem am_J_18 : am_okJ 18 := ⟨tm 763 (by decide +kernel), tm 67 (by decide +kernel), rfl, plainFor_of_name (by decide +kernel), by decide +kernel, by decide +kernel, by decide +kernel⟩
theorem am_J_19 : am_okJ 19 := ⟨tm 771 (by decide +kernel), tm 67 (by decide +kernel), rfl, plainFor_of_name (by decide +kernel), by decide +kernel, by decide +kernel, by decide +kernel⟩
theorem am_J_20 : am_okJ 20 := ⟨tm 728 (by decide +kernel), tm 67 (by decide +kernel), rfl, plainFor_of_name (by decide +kernel), by decide +kernel, by decide +kernel, by decide +kernel⟩
theorem am_J_21 : am_okJ 21 := ⟨tm 742 (by decide +kernel), tm 67 (by decide +kernel), rfl, plainFor_of_name (by decide +kernel), by decide +kernel, by decide +kernel, by decide +kernel⟩
theorem am_J_22 : am_okJ 22 := ⟨tm 746 (by decide +kernel), tm 67 (by decide +kernel), rfl, plainFor_of_name (by decide +kernel), by decide +kernel, by decide +kernel, by decide +kernel⟩
theorem am_J_23 : am_okJ 23 := ⟨tm 755 (by decide +kernel), tm 67 (by decide +kernel), rfl, plainFor_of_name (by decide +kernel), by decide +kernel, by decide +kernel, by decide +kernel⟩
theorem am_J_24 : am_okJ 24 := ⟨tm 759 (by decide +kernel), tm 67 (by decide +kernel), rfl, plainFor_of_name (by decide +kernel), by decide +kernel, by decide +kernel, by decide +kernel⟩
theorem am_J_25 : am_okJ 25 := ⟨tm 750 (by decide +kernel), tm 67 (by decide +kernel), rfl, plainFor_of_name (by decide +kernel), by decide +kernel, by decide +kernel, by decide +kernel⟩
theorem am_J_26 : am_okJ 26 := ⟨tm 520 (by decide +kernel), tm 73 (by decide +kernel), rfl, plainFor_of_name (by decide +kernel), by decide +kernel, by decide +kernel, by decide +kernel⟩
theorem am_J_27 : am_okJ 27 := ⟨tm 182 (by decide +kernel), tm 62 (by decide +kernel), rfl, plainFor_of_name (by decide +kernel), by decide +kernel, by decide +kernel, by decide +kernel⟩
theorem am_J_28 : am_okJ 28 := ⟨tm 495 (by decide +kernel), tm 62 (by decide +kernel), rfl, plainFor_of_name (by decide +kernel), by decide +kernel, by decide +kernel, by decide +kernel⟩
theorem am_J_29 : am_okJ 29 := ⟨tm 503 (by decide +kernel), tm 62 (by decide +kernel), rfl, plainFor_of_name (by decide +kernel), by decide +kernel, by decide +kernel, by decide +kernel⟩
theorem am_J_30 : am_okJ 30 := ⟨tm 509 (by decide +kernel), tm 62 (by decide +kernel), rfl, plainFor_of_name (by decide +kernel), by decide +kernel, by decide +kernel, by decide +kernel⟩
theorem am_J_31 : am_okJ 31 := ⟨tm 513 (by decide +kernel), tm 62 (by decide +kernel), rfl, plainFor_of_name (by decide +kernel), by decide +kernel, by decide +kernel, by decide +kernel⟩
theorem am_J_32 : am_okJ 32 := ⟨tm 598 (by decide +kernel), tm 62 (by decide +kernel), rfl, plainFor_of_name (by decide +kernel), by decide +kernel, by decide +kernel, by decide +kernel⟩
theorem am_J_33 : am_okJ 33 := ⟨tm 604 (by decide +kernel), tm 62 (by decide +kernel), rfl, plainFor_of_name (by decide +kernel), by decide +kernel, by decide +kernel, by decide +kernel⟩
theorem am_J_34 : am_okJ 34 := ⟨tm 612 (by decide +kernel), tm 62 (by decide +kernel), rfl, plainFor_of_name (by decide +kernel), by decide +kernel, by decide +kernel, by decide +kernel⟩
theorem am_J_35 : am_okJ 35 := ⟨tm 640 (by decide +kernel), tm 62 (by decide +kernel), rfl, plainFor_of_name (by decide +kernel), by decide +kernel, by decide +kernel, by decide +kernel⟩
theorem am_J_36 : am_okJ 36 := ⟨tm 636 (by decide +kernel), tm 62 (by decide +kernel), rfl, plainFor_of_name (by decide +kernel), by decide +kernel, by decide +kernel, by decide +kernel⟩
theorem am_J_37 : am_okJ 37 := ⟨tm 644 (by decide +kernel), tm 62 (by decide +kernel), rfl, plainFor_of_name (by decide +kernel), by decide +kernel, by decide +kernel, by decide +kernel⟩
theorem am_J_38 : am_okJ 38 := ⟨tm 688 (by decide +kernel), tm 62 (by decide +kernel), rfl, plainFor_of_name (by decide +kernel), by decide +kernel, by decide +kernel, by decide +kernel⟩
theorem am_J_39 : am_okJ 39 := ⟨tm 662 (by decide +kernel), tm 62 (by decide +kernel), rfl, plainFor_of_name (by decide +kernel), by decide +kernel, by decide +kernel, by decide +kernel⟩
theorem am_J_40 : am_okJ 40 := ⟨tm 666 (by decide +kernel), tm 62 (by decide +kernel), rfl, plainFor_of_name (by decide +kernel), by decide +kernel, by decide +kernel, by decide +kernel⟩
theorem am_J_41 : am_okJ 41 := ⟨tm 144 (by decide +kernel), tm 61 (by decide +kernel), rfl, plainFor_of_name (by decide +kernel), by decide +kernel, by decide +kernel, by decide +kernel⟩
theorem am_J_42 : am_okJ 42 := ⟨tm 355 (by decide +kernel), tm 61 (by decide +kernel), rfl, plainFor_of_name (by decide +kernel), by decide +kernel, by decide +kernel, by decide +kernel⟩
theorem am_J_43 : am_okJ 43 := ⟨tm 415 (by decide +kernel), tm 61 (by decide +kernel), rfl, plainFor_of_name (by decide +kernel), by decide +kernel, by decide +kernel, by decide +kernel⟩
theorem am_J_44 : am_okJ 44 := ⟨tm 419 (by decide +kernel), tm 61 (by decide +kernel), rfl, plainFor_of_name (by decide +kernel), by decide +kernel, by decide +kernel, by decide +kernel⟩
theorem am_J_45 : am_okJ 45 := ⟨tm 452 (by decide +kernel), tm 61 (by decide +kernel), rfl, plainFor_of_name (by decide +kernel), by decide +kernel, by decide +kernel, by decide +kernel⟩
theorem am_J_46 : am_okJ 46 := ⟨tm 461 (by decide +kernel), tm 61 (by decide +kernel), rfl, plainFor_of_name (by decide +kernel), by decide +kernel, by decide +kernel, by decide +kernel⟩
theorem am_J_47 : am_okJ 47 := ⟨tm 456 (by decide +kernel), tm 61 (by decide +kernel), rfl, plainFor_of_name (by decide +kernel), by decide +kernel, by decide +kernel, by decide +kernel⟩
theorem am_J_48 : am_okJ 48 := ⟨tm 448 (by decide +kernel), tm 61 (by decide +kernel), rfl, plainFor_of_name (by decide +kernel), by decide +kernel, by decide +kernel, by decide +kernel⟩
theorem am_J_49 : am_okJ 49 := ⟨tm 786 (by decide +kernel), tm 61 (by decide +kernel), rfl, plainFor_of_name (by decide +kernel), by decide +kernel, by decide +kernel, by decide +kernel⟩
theorem am_J_50 : am_okJ 50 := ⟨tm 790 (by decide +kernel), tm 61 (by decide +kernel), rfl, plainFor_of_name (by decide +kernel), by decide +kernel, by decide +kernel, by decide +kernel⟩
theorem am_J_51 : am_okJ 51 := ⟨tm 795 (by decide +kernel), tm 61 (by decide +kernel), rfl, plainFor_of_name (by decide +kernel), by decide +kernel, by decide +kernel, by decide +kernel⟩
theorem am_J_52 : am_okJ 52 := ⟨tm 803 (by decide +kernel), tm 61 (by decide +kernel), rfl, plainFor_of_name (by decide +kernel), by decide +kernel, by decide +kernel, by decide +kernel⟩
theorem am_J_53 : am_okJ 53 := ⟨tm 811 (by decide +kernel), tm 61 (by decide +kernel), rfl, plainFor_of_name (by decide +kernel), by decide +kernel, by decide +kernel, by decide +kernel⟩
theorem am_J_54 : am_okJ 54 := ⟨tm 815 (by decide +kernel), tm 61 (by decide +kernel), rfl, plainFor_of_name (by decide +kernel), by decide +kernel, by decide +kernel, by decide +kernel⟩
theorem am_J_55 : am_okJ 55 := ⟨tm 819 (by decide +kernel), tm 61 (by decide +kernel), rfl, plainFor_of_name (by decide +kernel), by decide +kernel, by decide +kernel, by decide +kernel⟩
theorem am_J_56 : am_okJ 56 := ⟨tm 652 (by decide +kernel), tm 61 (by decide +kernel), rfl, plainFor_of_name (by decide +kernel), by decide +kernel, by decide +kernel, by decide +kernel⟩
theorem am_J_57 : am_okJ 57 := ⟨tm 648 (by decide +kernel), tm 61 (by decide +kernel), rfl, plainFor_of_name (by decide +kernel), by decide +kernel, by decide +kernel, by decide +kernel⟩
theorem am_J_58 : am_okJ 58 := ⟨tm 678 (by decide +kernel), tm 61 (by decide +kernel), rfl, plainFor_of_name (by decide +kernel), by decide +kernel, by decide +kernel, by decide +kernel⟩
theorem am_J_59 : am_okJ 59 := ⟨tm 670 (by decide +kernel), tm 61 (by decide +kernel), rfl, plainFor_of_name (by decide +kernel), by decide +kernel, by decide +kernel, by decide +kernel⟩
theorem am_J_60 : am_okJ 60 := ⟨tm 674 (by decide +kernel), tm 61 (by decide +kernel), rfl, plainFor_of_name (by decide +kernel), by decide +kernel, by decide +kernel, by decide +kernel⟩
theorem am_J_61 : am_okJ 61 := ⟨tm 738 (by decide +kernel), tm 61 (by decide +kernel), rfl, plainFor_of_name (by decide +kernel), by decide +kernel, by decide +kernel, by decide +kernel⟩
theorem am_J_62 : am_okJ 62 := ⟨tm 91 (by decide +kernel), tm 59 (by decide +kernel), rfl, plainFor_of_name (by decide +kernel), by decide +kernel, by decide +kernel, by decide +kernel⟩
theorem am_J_63 : am_okJ 63 := ⟨tm 316 (by decide +kernel), tm 59 (by decide +kernel), rfl, plainFor_of_name (by decide +kernel), by decide +kernel, by decide +kernel, by decide +kernel⟩
theorem am_J_64 : am_okJ 64 := ⟨tm 311 (by decide +kernel), tm 59 (by decide +kernel), rfl, plainFor_of_name (by decide +kernel), by decide +kernel, by decide +kernel, by decide +kernel⟩
theorem am_J_65 : am_okJ 65 := ⟨tm 407 (by decide +kernel), tm 59 (by decide +kernel), rfl, plainFor_of_name (by decide +kernel), by decide +kernel, by decide +kernel, by decide +kernel⟩
theorem am_J_66 : am_okJ 66 := ⟨tm 332 (by decide +kernel), tm 59 (by decide +kernel), rfl, plainFor_of_name (by decide +kernel), by decide +kernel, by decide +kernel, by decide +kernel⟩
theorem am_J_67 : am_okJ 67 := ⟨tm 339 (by decide +kernel), tm 59 (by decide +kernel), rfl, plainFor_of_name (by decide +kernel), by decide +kernel, by decide +kernel, by decide +kernel⟩
theorem am_J_68 : am_okJ 68 := ⟨tm 347 (by decide +kernel), tm 59 (by decide +kernel), rfl, plainFor_of_name (by decide +kernel), by decide +kernel, by decide +kernel, by decide +kernel⟩
theorem am_J_69 : am_okJ 69 := ⟨tm 328 (by decide +kernel), tm 59 (by decide +kernel), rfl, plainFor_of_name (by decide +kernel), by decide +kernel, by decide +kernel, by decide +kernel⟩
theorem am_J_70 : am_okJ 70 := ⟨tm 343 (by decide +kernel), tm 59 (by decide +kernel), rfl, plainFor_of_name (by decide +kernel), by decide +kernel, by decide +kernel, by decide +kernel⟩
theorem am_J_71 : am_okJ 71 := ⟨tm 359 (by decide +kernel), tm 59 (by decide +kernel), rfl, plainFor_of_name (by decide +kernel), by decide +kernel, by decide +kernel, by decide +kernel⟩
theorem am_J_72 : am_okJ 72 := ⟨tm 371 (by decide +kernel), tm 59 (by decide +kernel), rfl, plainFor_of_name (by decide +kernel), by decide +kernel, by decide +kernel, by decide +kernel⟩
theorem am_J_73 : am_okJ 73 := ⟨tm 367 (by decide +kernel), tm 59 (by decide +kernel), rfl, plainFor_of_name (by decide +kernel), by decide +kernel, by decide +kernel, by decide +kernel⟩
theorem am_J_74 : am_okJ 74 := ⟨tm 399 (by decide +kernel), tm 59 (by decide +kernel), rfl, plainFor_of_name (by decide +kernel), by decide +kernel, by decide +kernel, by decide +kernel⟩
theorem am_J_75 : am_okJ 75 := ⟨tm 403 (by decide +kernel), tm 59 (by decide +kernel), rfl, plainFor_of_name (by decide +kernel), by decide +kernel, by decide +kernel, by decide +kernel⟩
theorem am_J_76 : am_okJ 76 := ⟨tm 335 (by decide +kernel), tm 69 (by decide +kernel), rfl, plainFor_of_name (by decide +kernel), by decide +kernel, by decide +kernel, by decide +kernel⟩
theorem am_J_77 : am_okJ 77 := ⟨tm 350 (by decide +kernel), tm 69 (by decide +kernel), rfl, plainFor_of_name (by decide +kernel), by decide +kernel, by decide +kernel, by decide +kernel⟩
theorem am_J_78 : am_okJ 78 := ⟨tm 395 (by decide +kernel), tm 69 (by decide +kernel), rfl, plainFor_of_name (by decide +kernel), by decide +kernel, by decide +kernel, by decide +kernel⟩
theorem am_J_79 : am_okJ 79 := ⟨tm 392 (by decide +kernel), tm 69 (by decide +kernel), rfl, plainFor_of_name (by decide +kernel), by decide +kernel, by decide +kernel, by decide +kernel⟩
theorem am_J_80 : am_okJ 80 := ⟨tm 386 (by decide +kernel), tm 69 (by decide +kernel), rfl, plainFor_of_name (by decide +kernel), by decide +kernel, by decide +kernel, by decide +kernel⟩
theorem am_J_81 : am_okJ 81 := ⟨tm 778 (by decide +kernel), tm 69 (by decide +kernel), rfl, plainFor_of_name (by decide +kernel), by decide +kernel, by decide +kernel, by decide +kernel⟩
theorem am_J_82 : am_okJ 82 := ⟨tm 681 (by decide +kernel), tm 69 (by decide +kernel), rfl, plainFor_of_name (by decide +kernel), by decide +kernel, by decide +kernel, by decide +kernel⟩
theorem am_J_83 : am_okJ 83 := ⟨tm 731 (by decide +kernel), tm 69 (by decide +kernel), rfl, plainFor_of_name (by decide +kernel), by decide +kernel, by decide +kernel, by decide +kernel⟩
theorem am_J_84 : am_okJ 84 := ⟨tm 83 (by decide +kernel), tm 58 (by decide +kernel), rfl, plainFor_of_name (by decide +kernel), by decide +kernel, by decide +kernel, by decide +kernel⟩
theorem am_J_85 : am_okJ 85 := ⟨tm 307 (by decide +kernel), tm 58 (by decide +kernel), rfl, plainFor_of_name (by decide +kernel), by decide +kernel, by decide +kernel, by decide +kernel⟩
theorem am_J_86 : am_okJ 86 := ⟨tm 320 (by decide +kernel), tm 58 (by decide +kernel), rfl, plainFor_of_name (by decide +kernel), by decide +kernel, by decide +kernel, by decide +kernel⟩
theorem am_J_87 : am_okJ 87 := ⟨tm 411 (by decide +kernel), tm 58 (by decide +kernel), rfl, plainFor_of_name (by decide +kernel), by decide +kernel, by decide +kernel, by decide +kernel⟩
theorem am_J_88 : am_okJ 88 := ⟨tm 423 (by decide +kernel), tm 58 (by decide +kernel), rfl, plainFor_of_name (by decide +kernel), by decide +kernel, by decide +kernel, by decide +kernel⟩
theorem am_J_89 : am_okJ 89 := ⟨tm 465 (by decide +kernel), tm 58 (by decide +kernel), rfl, plainFor_of_name (by decide +kernel), by decide +kernel, by decide +kernel, by decide +kernel⟩
theorem am_J_90 : am_okJ 90 := ⟨tm 477 (by decide +kernel), tm 58 (by decide +kernel), rfl, plainFor_of_name (by decide +kernel), by decide +kernel, by decide +kernel, by decide +kernel⟩
theorem am_J_91 : am_okJ 91 := ⟨tm 491 (by decide +kernel), tm 58 (by decide +kernel), rfl, plainFor_of_name (by decide +kernel), by decide +kernel, by decide +kernel, by decide +kernel⟩
theorem am_J_92 : am_okJ 92 := ⟨tm 700 (by decide +kernel), tm 58 (by decide +kernel), rfl, plainFor_of_name (by decide +kernel), by decide +kernel, by decide +kernel, by decide +kernel⟩
theorem am_J_93 : am_okJ 93 := ⟨tm 712 (by decide +kernel), tm 58 (by decide +kernel), rfl, plainFor_of_name (by decide +kernel), by decide +kernel, by decide +kernel, by decide +kernel⟩
theorem am_J_94 : am_okJ 94 := ⟨tm 720 (by decide +kernel), tm 58 (by decide +kernel), rfl, plainFor_of_name (by decide +kernel), by decide +kernel, by decide +kernel, by decide +kernel⟩
theorem am_J_95 : am_okJ 95 := ⟨tm 767 (by decide +kernel), tm 58 (by decide +kernel), rfl, plainFor_of_name (by decide +kernel), by decide +kernel, by decide +kernel, by decide +kernel⟩
theorem am_J_96 : am_okJ 96 := ⟨tm 775 (by decide +kernel), tm 58 (by decide +kernel), rfl, plainFor_of_name (by decide +kernel), by decide +kernel, by decide +kernel, by decide +kernel⟩
theorem am_J_97 : am_okJ 97 := ⟨tm 782 (by decide +kernel), tm 58 (by decide +kernel), rfl, plainFor_of_name (by decide +kernel), by decide +kernel, by decide +kernel, by decide +kernel⟩
theorem am_J_98 : am_okJ 98 := ⟨tm 799 (by decide +kernel), tm 58 (by decide +kernel), rfl, plainFor_of_name (by decide +kernel), by decide +kernel, by decide +kernel, by decide +kernel⟩
theorem am_J_99 : am_okJ 99 := ⟨tm 807 (by decide +kernel), tm 58 (by decide +kernel), rfl, plainFor_of_name (by decide +kernel), by decide +kernel, by decide +kernel, by decide +kernel⟩
theorem am_J_100 : am_okJ 100 := ⟨tm 324 (by decide +kernel), tm 58 (by decide +kernel), rfl, plainFor_of_name (by decide +kernel), by decide +kernel, by decide +kernel, by decide +kernel⟩
theorem am_J_101 : am_okJ 101 := ⟨tm 481 (by decide +kernel), tm 58 (by decide +kernel), rfl, plainFor_of_name (by decide +kernel), by decide +kernel, by decide +kernel, by decide +kernel⟩
theorem am_J_102 : am_okJ 102 := ⟨tm 486 (by decide +kernel), tm 58 (by decide +kernel), rfl, plainFor_of_name (by decide +kernel), by decide +kernel, by decide +kernel, by decide +kernel⟩
theorem am_J_103 : am_okJ 103 := ⟨tm 824 (by decide +kernel), tm 68 (by decide +kernel), rfl, plainFor_of_name (by decide +kernel), by decide +kernel, by decide +kernel, by decide +kernel⟩
theorem am_J_104 : am_okJ 104 := ⟨tm 961 (by decide +kernel), tm 68 (by decide +kernel), rfl, plainFor_of_name (by decide +kernel), by decide +kernel, by decide +kernel, by decide +kernel⟩
theorem am_J_105 : am_okJ 105 := ⟨tm 957 (by decide +kernel), tm 68 (by decide +kernel), rfl, plainFor_of_name (by decide +kernel), by decide +kernel, by decide +kernel, by decide +kernel⟩
theorem am_J_106 : am_okJ 106 := ⟨tm 1032 (by decide +kernel), tm 68 (by decide +kernel), rfl, plainFor_of_name (by decide +kernel), by decide +kernel, by decide +kernel, by decide +kernel⟩
theorem am_J_107 : am_okJ 107 := ⟨tm 949 (by decide +kernel), tm 68 (by decide +kernel), rfl, plainFor_of_name (by decide +kernel), by decide +kernel, by decide +kernel, by decide +kernel⟩
theorem am_J_108 : am_okJ 108 := ⟨tm 965 (by decide +kernel), tm 68 (by decide +kernel), rfl, plainFor_of_name (by decide +kernel), by decide +kernel, by decide +kernel, by decide +kernel⟩
theorem am_J_109 : am_okJ 109 := ⟨tm 945 (by decide +kernel), tm 68 (by decide +kernel), rfl, plainFor_of_name (by decide +kernel), by decide +kernel, by decide +kernel, by decide +kernel⟩
theorem am_J_110 : am_okJ 110 := ⟨tm 931 (by decide +kernel), tm 68 (by decide +kernel), rfl, plainFor_of_name (by decide +kernel), by decide +kernel, by decide +kernel, by decide +kernel⟩
theorem am_J_111 : am_okJ 111 := ⟨tm 942 (by decide +kernel), tm 68 (by decide +kernel), rfl, plainFor_of_name (by decide +kernel), by decide +kernel, by decide +kernel, by decide +kernel⟩
theorem am_J_112 : am_okJ 112 := ⟨tm 938 (by decide +kernel), tm 68 (by decide +kernel), rfl, plainFor_of_name (by decide +kernel), by decide +kernel, by decide +kernel, by decide +kernel⟩
theorem am_J_113 : am_okJ 113 := ⟨tm 953 (by decide +kernel), tm 68 (by decide +kernel), rfl, plainFor_of_name (by decide +kernel), by decide +kernel, by decide +kernel, by decide +kernel⟩
theorem am_J_114 : am_okJ 114 := ⟨tm 935 (by decide +kernel), tm 68 (by decide +kernel), rfl, plainFor_of_name (by decide +kernel), by decide +kernel, by decide +kernel, by decide +kernel⟩
theorem am_J_115 : am_okJ 115 := ⟨tm 972 (by decide +kernel), tm 68 (by decide +kernel), rfl, plainFor_of_name (by decide +kernel), by decide +kernel, by decide +kernel, by decide +kernel⟩
theorem am_J_116 : am_okJ 116 := ⟨tm 969 (by decide +kernel), tm 68 (by decide +kernel), rfl, plainFor_of_name (by decide +kernel), by decide +kernel, by decide +kernel, by decide +kernel⟩
theorem am_J_117 : am_okJ 117 := ⟨tm 984 (by decide +kernel), tm 68 (by decide +kernel), rfl, plainFor_of_name (by decide +kernel), by decide +kernel, by decide +kernel, by decide +kernel⟩
theorem am_J_118 : am_okJ 118 := ⟨tm 980 (by decide +kernel), tm 68 (by decide +kernel), rfl, plainFor_of_name (by decide +kernel), by decide +kernel, by decide +kernel, by decide +kernel⟩
theorem am_J_119 : am_okJ 119 := ⟨tm 988 (by decide +kernel), tm 68 (by decide +kernel), rfl, plainFor_of_name (by decide +kernel), by decide +kernel, by decide +kernel, by decide +kernel⟩
theorem am_J_120 : am_okJ 120 := ⟨tm 976 (by decide +kernel), tm 68 (by decide +kernel), rfl, plainFor_of_name (by decide +kernel), by decide +kernel, by decide +kernel, by decide +kernel⟩
theorem am_J_121 : am_okJ 121 := ⟨tm 992 (by decide +kernel), tm 68 (by decide +kernel), rfl, plainFor_of_name (by decide +kernel), by decide +kernel, by decide +kernel, by decide +kernel⟩
theorem am_J_122 : am_okJ 122 := ⟨tm 996 (by decide +kernel), tm 68 (by decide +kernel), rfl, plainFor_of_name (by decide +kernel), by decide +kernel, by decide +kernel, by decide +kernel⟩
theorem am_J_123 : am_okJ 123 := ⟨tm 1000 (by decide +kernel), tm 68 (by decide +kernel), rfl, plainFor_of_name (by decide +kernel), by decide +kernel, by decide +kernel, by decide +kernel⟩
theorem am_J_124 : am_okJ 124 := ⟨tm 1008 (by decide +kernel), tm 68 (by decide +kernel), rfl, plainFor_of_name (by decide +kernel), by decide +kernel, by decide +kernel, by decide +kernel⟩
theorem am_J_125 : am_okJ 125 := ⟨tm 1004 (by decide +kernel), tm 68 (by decide +kernel), rfl, plainFor_of_name (by decide +kernel), by decide +kernel, by decide +kernel, by decide +kernel⟩
theorem am_J_126 : am_okJ 126 := ⟨tm 1012 (by decide +kernel), tm 68 (by decide +kernel), rfl, plainFor_of_name (by decide +kernel), by decide +kernel, by decide +kernel, by decide +kernel⟩
theorem am_J_127 : am_okJ 127 := ⟨tm 1016 (by decide +kernel), tm 68 (by decide +kernel), rfl, plainFor_of_name (by decide +kernel), by decide +kernel, by decide +kernel, by decide +kernel⟩
theorem am_J_128 : am_okJ 128 := ⟨tm 1028 (by decide +kernel), tm 68 (by decide +kernel), rfl, plainFor_of_name (by decide +kernel), by decide +kernel, by decide +kernel, by decide +kernel⟩
theorem am_J_129 : am_okJ 129 := ⟨tm 1092 (by decide +kernel), tm 68 (by decide +kernel), rfl, plainFor_of_name (by decide +kernel), by decide +kernel, by decide +kernel, by decide +kernel⟩
theorem am_J_130 : am_okJ 130 := ⟨tm 1020 (by decide +kernel), tm 68 (by decide +kernel), rfl, plainFor_of_name (by decide +kernel), by decide +kernel, by decide +kernel, by decide +kernel⟩
theorem am_J_131 : am_okJ 131 := ⟨tm 1024 (by decide +kernel), tm 68 (by decide +kernel), rfl, plainFor_of_name (by decide +kernel), by decide +kernel, by decide +kernel, by decide +kernel⟩
theorem am_J_132 : am_okJ 132 := ⟨tm 1048 (by decide +kernel), tm 68 (by decide +kernel), rfl, plainFor_of_name (by decide +kernel), by decide +kernel, by decide +kernel, by decide +kernel⟩
theorem am_J_133 : am_okJ 133 := ⟨tm 1060 (by decide +kernel), tm 68 (by decide +kernel), rfl, plainFor_of_name (by decide +kernel), by decide +kernel, by decide +kernel, by decide +kernel⟩
theorem am_J_134 : am_okJ 134 := ⟨tm 1044 (by decide +kernel), tm 68 (by decide +kernel), rfl, plainFor_of_name (by decide +kernel), by decide +kernel, by decide +kernel, by decide +kernel⟩
theorem am_J_135 : am_okJ 135 := ⟨tm 1056 (by decide +kernel), tm 68 (by decide +kernel), rfl, plainFor_of_name (by decide +kernel), by decide +kernel, by decide +kernel, by decide +kernel⟩
theorem am_J_136 : am_okJ 136 := ⟨tm 1052 (by decide +kernel), tm 68 (by decide +kernel), rfl, plainFor_of_name (by decide +kernel), by decide +kernel, by decide +kernel, by decide +kernel⟩
theorem am_J_137 : am_okJ 137 := ⟨tm 1068 (by decide +kernel), tm 68 (by decide +kernel), rfl, plainFor_of_name (by decide +kernel), by decide +kernel, by decide +kernel, by decide +kernel⟩
theorem am_J_138 : am_okJ 138 := ⟨tm 1064 (by decide +kernel), tm 68 (by decide +kernel), rfl, plainFor_of_name (by decide +kernel), by decide +kernel, by decide +kernel, by decide +kernel⟩
theorem am_J_139 : am_okJ 139 := ⟨tm 1040 (by decide +kernel), tm 68 (by decide +kernel), rfl, plainFor_of_name (by decide +kernel), by decide +kernel, by decide +kernel, by decide +kernel⟩
theorem am_J_140 : am_okJ 140 := ⟨tm 1088 (by decide +kernel), tm 68 (by decide +kernel), rfl, plainFor_of_name (by decide +kernel), by decide +kernel, by decide +kernel, by decide +kernel⟩
theorem am_J_141 : am_okJ 141 := ⟨tm 1084 (by decide +kernel), tm 68 (by decide +kernel), rfl, plainFor_of_name (by decide +kernel), by decide +kernel, by decide +kernel, by decide +kernel⟩
theorem am_J_142 : am_okJ 142 := ⟨tm 1080 (by decide +kernel), tm 68 (by decide +kernel), rfl, plainFor_of_name (by decide +kernel), by decide +kernel, by decide +kernel, by decide +kernel⟩
theorem am_J_143 : am_okJ 143 := ⟨tm 1076 (by decide +kernel), tm 68 (by decide +kernel), rfl, plainFor_of_name (by decide +kernel), by decide +kernel, by decide +kernel, by decide +kernel⟩
theorem am_J_144 : am_okJ 144 := ⟨tm 1072 (by decide +kernel), tm 68 (by decide +kernel), rfl, plainFor_of_name (by decide +kernel), by decide +kernel, by decide +kernel, by decide +kernel⟩
theorem am_J_145 : am_okJ 145 := ⟨tm 1096 (by decide +kernel), tm 68 (by decide +kernel), rfl, plainFor_of_name (by decide +kernel), by decide +kernel, by decide +kernel, by decide +kernel⟩
theorem am_J_146 : am_okJ 146 := ⟨tm 1036 (by decide +kernel), tm 68 (by decide +kernel), rfl, plainFor_of_name (by decide +kernel), by decide +kernel, by decide +kernel, by decide +kernel⟩
theorem am_J_147 : am_okJ 147 := ⟨tm 1101 (by decide +kernel), tm 68 (by decide +kernel), rfl, plainFor_of_name (by decide +kernel), by decide +kernel, by decide +kernel, by decide +kernel⟩
theorem am_J_148 : am_okJ 148 := ⟨tm 1105 (by decide +kernel), tm 68 (by decide +kernel), rfl, plainFor_of_name (by decide +kernel), by decide +kernel, by decide +kernel, by decide +kernel⟩
theorem am_J_149 : am_okJ 149 := ⟨tm 1113 (by decide +kernel), tm 68 (by decide +kernel), rfl, plainFor_of_name (by decide +kernel), by decide +kernel, by decide +kernel, by decide +kernel⟩
theorem am_J_150 : am_okJ 150 := ⟨tm 1121 (by decide +kernel), tm 68 (by decide +kernel), rfl, plainFor_of_name (by decide +kernel), by decide +kernel, by decide +kernel, by decide +kernel⟩
theorem am_J_151 : am_okJ 151 := ⟨tm 1109 (by decide +kernel), tm 68 (by decide +kernel), rfl, plainFor_of_name (by decide +kernel), by decide +kernel, by decide +kernel, by decide +kernel⟩
theorem am_J_152 : am_okJ 152 := ⟨tm 1117 (by decide +kernel), tm 68 (by decide +kernel), rfl, plainFor_of_name (by decide +kernel), by decide +kernel, by decide +kernel, by decide +kernel⟩
theorem am_J_153 : am_okJ 153 := ⟨tm 1125 (by decide +kernel), tm 68 (by decide +kernel), rfl, plainFor_of_name (by decide +kernel), by decide +kernel, by decide +kernel, by decide +kernel⟩
theorem am_J_155 : am_okJ 155 := ⟨tm 188 (by decide +kernel), tm 65 (by decide +kernel), rfl, by decide +kernel, by decide +kernel, by decide +kernel, by decide +kernel⟩
theorem am_J_156 : am_okJ 156 := ⟨tm 558 (by decide +kernel), tm 65 (by decide +kernel), rfl, by decide +kernel, by decide +kernel, by decide +kernel, by decide +kernel⟩
theorem am_J_157 : am_okJ 157 := ⟨tm 554 (by decide +kernel), tm 65 (by decide +kernel), rfl, by decide +kernel, by decide +kernel, by decide +kernel, by decide +kernel⟩
theorem am_J_158 : am_okJ 158 := ⟨tm 616 (by decide +kernel), tm 65 (by decide +kernel), rfl, by decide +kernel, by decide +kernel, by decide +kernel, by decide +kernel⟩
theorem am_J_159 : am_okJ 159 := ⟨tm 630 (by decide +kernel), tm 65 (by decide +kernel), rfl, by decide +kernel, by decide +kernel, by decide +kernel, by decide +kernel⟩
theorem am_J_160 : am_okJ 160 := ⟨tm 620 (by decide +kernel), tm 65 (by decide +kernel), rfl, by decide +kernel, by decide +kernel, by decide +kernel, by decide +kernel⟩
theorem am_J_161 : am_okJ 161 := ⟨tm 550 (by decide +kernel), tm 65 (by decide +kernel), rfl, by decide +kernel, by decide +kernel, by decide +kernel, by decide +kernel⟩
theorem am_J_162 : am_okJ 162 := ⟨tm 546 (by decide +kernel), tm 65 (by decide +kernel), rfl, by decide +kernel, by decide +kernel, by decide +kernel, by decide +kernel⟩
theorem am_J_163 : am_okJ 163 := ⟨tm 499 (by decide +kernel), tm 65 (by decide +kernel), rfl, by decide +kernel, by decide +kernel, by decide +kernel, by decide +kernel⟩
theorem am_J_164 : am_okJ 164 := ⟨tm 191 (by decide +kernel), tm 64 (by decide +kernel), rfl, by decide +kernel, by decide +kernel, by decide +kernel, by decide +kernel⟩
theorem am_J_165 : am_okJ 165 := ⟨tm 194 (by decide +kernel), tm 63 (by decide +kernel), rfl, by decide +kernel, by decide +kernel, by decide +kernel, by decide +kernel⟩
theorem am_J_166 : am_okJ 166 := ⟨tm 571 (by decide +kernel), tm 70 (by decide +kernel), rfl, by decide +kernel, by decide +kernel, by decide +kernel, by decide +kernel⟩
theorem am_J_167 : am_okJ 167 := ⟨tm 589 (by decide +kernel), tm 70 (by decide +kernel), rfl, by decide +kernel, by decide +kernel, by decide +kernel, by decide +kernel⟩
theorem am_J_168 : am_okJ 168 := ⟨tm 431 (by decide +kernel), tm 70 (by decide +kernel), rfl, by decide +kernel, by decide +kernel, by decide +kernel, by decide +kernel⟩
theorem am_J_169 : am_okJ 169 := ⟨tm 623 (by decide +kernel), tm 77 (by decide +kernel), rfl, by decide +kernel, by decide +kernel, by decide +kernel, by decide +kernel⟩
theorem am_J_170 : am_okJ 170 := ⟨tm 561 (by decide +kernel), tm 76 (by decide +kernel), rfl, by decide +kernel, by decide +kernel, by decide +kernel, by decide +kernel⟩
theorem am_J_171 : am_okJ 171 := ⟨tm 626 (by decide +kernel), tm 78 (by decide +kernel), rfl, by decide +kernel, by decide +kernel, by decide +kernel, by decide +kernel⟩
/-- words that are carried from state to state by laws of their own -/
def am_NW : List Cond := [(Cond.methodLinkNest "TextIndices" (9 : Nat) ({ cls := "TextIndices$Tape", name := "<init>", desc := "()V" } : MethodName) "TextIndices"), (Cond.methodLinkNest "TextIndices" (27 : Nat) ({ cls := "TextIndices$Shelf", name := "<init>", desc := "()V" } : MethodName) "TextIndices"), (Cond.methodLinkNest "TextIndices" (43 : Nat) ({ cls := "TextIndices$Answers", name := "<init>", desc := "()V" } : MethodName) "TextIndices"), (Cond.methodLinkNest "TextIndices" (50 : Nat) ({ cls := "TextIndices$Likes", name := "<init>", desc := "()V" } : MethodName) "TextIndices"), (Cond.castable "TextIndices$Part" "java/lang/Object")]
theorem am_NW_0 : (Cond.methodLinkNest "TextIndices" (9 : Nat) ({ cls := "TextIndices$Tape", name := "<init>", desc := "()V" } : MethodName) "TextIndices") ∈ lw_tbl := tn 89 (by decide +kernel)
theorem am_NW_1 : (Cond.methodLinkNest "TextIndices" (27 : Nat) ({ cls := "TextIndices$Shelf", name := "<init>", desc := "()V" } : MethodName) "TextIndices") ∈ lw_tbl := tn 142 (by decide +kernel)
theorem am_NW_2 : (Cond.methodLinkNest "TextIndices" (43 : Nat) ({ cls := "TextIndices$Answers", name := "<init>", desc := "()V" } : MethodName) "TextIndices") ∈ lw_tbl := tn 240 (by decide +kernel)
theorem am_NW_3 : (Cond.methodLinkNest "TextIndices" (50 : Nat) ({ cls := "TextIndices$Likes", name := "<init>", desc := "()V" } : MethodName) "TextIndices") ∈ lw_tbl := tn 256 (by decide +kernel)
theorem am_NW_4 : (Cond.castable "TextIndices$Part" "java/lang/Object") ∈ lw_tbl := tn 1136 (by decide +kernel)
theorem am_NW_in : ∀ w ∈ am_NW, w ∈ lw_tbl := List.forall_mem_cons.mpr ⟨am_NW_0, List.forall_mem_cons.mpr ⟨am_NW_1, List.forall_mem_cons.mpr ⟨am_NW_2, List.forall_mem_cons.mpr ⟨am_NW_3, List.forall_mem_cons.mpr ⟨am_NW_4, fun _ h => absurd h List.not_mem_nil⟩⟩⟩⟩⟩
theorem am_NW_use {w : Cond} (h : w ∈ am_NW) : (∃ own ix y hst, w = .methodLinkNest own ix y hst) ∨ ∃ C T, w = .castable C T := by
  simp only [am_NW, List.mem_cons, List.not_mem_nil, or_false] at h
  rcases h with rfl | rfl | rfl | rfl | rfl <;> simp
def am_okM (q : Nat × Nat × Nat × Nat) : Prop := am_okJ q.2.2.2 ∧ (match q.2.2.1 with
  | 0 => Cond.methodLink (am_on q.1) q.2.1 (am_y q.2.2.2) ∈ am_T ∧ Cond.instanceMethod (am_y q.2.2.2) ∈ am_T ∧ Cond.selects (am_y q.2.2.2).cls (am_y q.2.2.2) (am_y q.2.2.2) ∈ am_T ∧ ∃ (T : u_T) (N : Nat), am_cl[am_kc q.2.2.2]? = some ((am_y q.2.2.2).cls, T, N)
  | 1 => Cond.methodLink (am_on q.1) q.2.1 (am_y q.2.2.2) ∈ am_T ∧ Cond.instanceMethod (am_y q.2.2.2) ∈ am_T ∧ (am_y q.2.2.2).name = "<init>" ∧ am_rt q.2.2.2 = none
  | 2 => Cond.methodLinkNest (am_on q.1) q.2.1 (am_y q.2.2.2) "TextIndices" ∈ am_NW ∧ Cond.instanceMethod (am_y q.2.2.2) ∈ am_T ∧ (am_y q.2.2.2).name = "<init>" ∧ am_rt q.2.2.2 = none
  | 3 => Cond.methodLink (am_on q.1) q.2.1 (am_y q.2.2.2) ∈ am_T ∧ Cond.static (am_y q.2.2.2) ∈ am_T
  | _ => False)
def am_ML : List (Nat × Nat × Nat × Nat) := [(8, 9, 2, 62), (8, 22, 1, 7), (8, 27, 2, 41), (8, 34, 1, 27), (8, 43, 2, 0), (8, 50, 2, 16), (8, 61, 0, 64), (8, 65, 0, 63), (8, 69, 0, 100), (8, 73, 0, 69), (8, 76, 0, 42), (8, 80, 0, 65), (8, 83, 0, 43), (8, 87, 0, 73), (8, 91, 0, 10), (8, 95, 0, 48), (8, 99, 0, 12), (8, 103, 0, 11), (8, 106, 0, 101), (8, 110, 0, 13), (8, 114, 0, 102), (8, 118, 0, 28), (8, 121, 0, 34), (8, 124, 0, 36), (8, 128, 0, 1), (8, 129, 0, 45), (8, 133, 0, 39), (8, 137, 0, 38), (8, 141, 0, 3), (8, 145, 0, 2), (8, 148, 0, 5), (8, 152, 0, 6), (8, 155, 0, 17), (8, 156, 0, 20), (8, 160, 0, 18), (8, 161, 0, 19), (8, 162, 3, 80), (8, 165, 3, 81), (8, 169, 0, 49), (8, 173, 0, 50), (8, 177, 0, 51), (8, 180, 0, 52), (8, 183, 0, 53), (0, 25, 0, 4), (1, 26, 0, 9), (1, 30, 3, 168), (1, 39, 3, 80), (1, 45, 3, 14), (1, 49, 3, 79), (1, 53, 3, 78), (1, 56, 0, 13), (2, 36, 3, 83), (2, 43, 0, 45), (2, 47, 0, 47), (2, 51, 0, 46), (2, 54, 0, 61), (2, 58, 0, 21), (2, 62, 0, 22), (2, 66, 0, 25), (2, 69, 0, 23), (2, 72, 0, 24), (4, 11, 1, 155), (4, 34, 0, 163), (4, 47, 0, 29), (4, 50, 0, 63), (4, 54, 0, 66), (4, 58, 0, 30), (4, 62, 0, 31), (4, 66, 0, 32), (4, 83, 1, 26), (4, 86, 0, 162), (4, 90, 0, 33), (4, 97, 0, 67), (4, 100, 0, 68), (4, 104, 0, 158), (4, 107, 0, 160), (4, 125, 0, 15), (4, 134, 0, 35), (4, 142, 0, 37), (4, 146, 0, 57), (4, 154, 0, 56), (4, 159, 0, 40), (4, 163, 0, 59), (4, 167, 0, 58), (5, 45, 0, 71), (5, 50, 0, 8), (5, 55, 0, 73), (5, 59, 0, 15), (5, 63, 0, 74), (5, 67, 0, 75), (5, 70, 0, 44), (5, 80, 0, 45), (5, 84, 0, 47), (5, 87, 0, 46), (5, 90, 0, 49), (5, 94, 0, 54), (5, 99, 0, 55), (5, 102, 0, 56), (5, 106, 3, 82), (5, 110, 0, 60), (6, 32, 0, 66), (6, 36, 3, 76), (6, 41, 3, 77), (6, 45, 0, 67), (6, 48, 0, 70), (6, 52, 0, 68), (6, 56, 0, 72), (7, 11, 3, 79), (7, 15, 3, 80), (10, 9, 1, 84), (10, 12, 1, 103), (10, 15, 0, 85), (10, 19, 0, 110), (10, 20, 0, 86), (10, 24, 0, 122), (10, 25, 0, 87), (10, 29, 0, 125), (10, 30, 0, 88), (10, 33, 0, 114), (10, 34, 0, 89), (10, 37, 0, 116), (10, 38, 0, 90), (10, 41, 0, 120), (10, 42, 0, 91), (10, 45, 0, 146), (10, 46, 0, 92), (10, 49, 0, 147), (10, 50, 0, 93), (10, 54, 0, 148), (10, 55, 0, 94), (10, 58, 0, 151), (10, 59, 0, 95), (10, 62, 0, 153), (10, 63, 0, 96), (10, 66, 0, 121), (10, 67, 0, 97), (10, 71, 0, 127), (10, 72, 0, 98), (10, 76, 0, 126), (10, 77, 0, 99), (10, 80, 0, 130), (9, 76, 0, 104), (9, 80, 0, 107), (9, 91, 3, 109), (9, 98, 0, 105), (9, 102, 3, 112), (9, 106, 0, 111), (9, 109, 0, 113), (9, 112, 0, 108), (9, 115, 3, 115), (9, 118, 0, 117), (9, 124, 0, 118), (9, 128, 0, 119), (9, 134, 0, 123), (9, 137, 0, 124), (9, 143, 0, 106), (9, 146, 0, 128), (9, 150, 0, 131), (9, 160, 0, 132), (9, 164, 0, 135), (9, 168, 0, 133), (9, 178, 0, 134), (9, 181, 0, 137), (9, 184, 0, 136), (9, 187, 0, 138), (9, 191, 0, 140), (9, 194, 0, 129), (9, 198, 0, 141), (9, 201, 0, 143), (9, 206, 0, 139), (9, 212, 0, 144), (9, 215, 0, 142), (9, 218, 0, 145), (9, 225, 0, 149), (9, 228, 0, 152), (9, 231, 0, 150), (12, 1, 1, 165), (11, 1, 1, 164), (11, 66, 3, 166), (11, 69, 0, 156), (11, 73, 3, 170), (11, 118, 3, 169), (11, 123, 0, 159), (11, 129, 0, 157), (11, 131, 0, 161), (14, 300, 3, 167), (15, 105, 3, 171)]
theorem am_ML_0 : am_okM (8, 9, 2, 62) := ⟨am_J_62, ⟨by decide +kernel, tm 90 (by decide +kernel), rfl, rfl⟩⟩
theorem am_ML_1 : am_okM (8, 22, 1, 7) := ⟨am_J_7, ⟨tm 117 (by decide +kernel), tm 118 (by decide +kernel), rfl, rfl⟩⟩
theorem am_ML_2 : am_okM (8, 27, 2, 41) := ⟨am_J_41, ⟨by decide +kernel, tm 143 (by decide +kernel), rfl, rfl⟩⟩
theorem am_ML_3 : am_okM (8, 34, 1, 27) := ⟨am_J_27, ⟨tm 180 (by decide +kernel), tm 181 (by decide +kernel), rfl, rfl⟩⟩
theorem am_ML_4 : am_okM (8, 43, 2, 0) := ⟨am_J_0, ⟨by decide +kernel, tm 241 (by decide +kernel), rfl, rfl⟩⟩
theorem am_ML_5 : am_okM (8, 50, 2, 16) := ⟨am_J_16, ⟨by decide +kernel, tm 257 (by decide +kernel), rfl, rfl⟩⟩
theorem am_ML_6 : am_okM (8, 61, 0, 64) := ⟨am_J_64, ⟨tm 308 (by decide +kernel), tm 309 (by decide +kernel), tm 310 (by decide +kernel), _, _, rfl⟩⟩
theorem am_ML_7 : am_okM (8, 65, 0, 63) := ⟨am_J_63, ⟨tm 313 (by decide +kernel), tm 314 (by decide +kernel), tm 315 (by decide +kernel), _, _, rfl⟩⟩
theorem am_ML_8 : am_okM (8, 69, 0, 100) := ⟨am_J_100, ⟨tm 321 (by decide +kernel), tm 323 (by decide +kernel), tm 0 (by decide +kernel), _, _, rfl⟩⟩
theorem am_ML_9 : am_okM (8, 73, 0, 69) := ⟨am_J_69, ⟨tm 325 (by decide +kernel), tm 326 (by decide +kernel), tm 327 (by decide +kernel), _, _, rfl⟩⟩
theorem am_ML_10 : am_okM (8, 76, 0, 42) := ⟨am_J_42, ⟨tm 352 (by decide +kernel), tm 353 (by decide +kernel), tm 354 (by decide +kernel), _, _, rfl⟩⟩
theorem am_ML_11 : am_okM (8, 80, 0, 65) := ⟨am_J_65, ⟨tm 404 (by decide +kernel), tm 405 (by decide +kernel), tm 406 (by decide +kernel), _, _, rfl⟩⟩
theorem am_ML_12 : am_okM (8, 83, 0, 43) := ⟨am_J_43, ⟨tm 412 (by decide +kernel), tm 413 (by decide +kernel), tm 414 (by decide +kernel), _, _, rfl⟩⟩
theorem am_ML_13 : am_okM (8, 87, 0, 73) := ⟨am_J_73, ⟨tm 424 (by decide +kernel), tm 365 (by decide +kernel), tm 366 (by decide +kernel), _, _, rfl⟩⟩
theorem am_ML_14 : am_okM (8, 91, 0, 10) := ⟨am_J_10, ⟨tm 425 (by decide +kernel), tm 426 (by decide +kernel), tm 427 (by decide +kernel), _, _, rfl⟩⟩
theorem am_ML_15 : am_okM (8, 95, 0, 48) := ⟨am_J_48, ⟨tm 445 (by decide +kernel), tm 446 (by decide +kernel), tm 447 (by decide +kernel), _, _, rfl⟩⟩
theorem am_ML_16 : am_okM (8, 99, 0, 12) := ⟨am_J_12, ⟨tm 466 (by decide +kernel), tm 467 (by decide +kernel), tm 468 (by decide +kernel), _, _, rfl⟩⟩
theorem am_ML_17 : am_okM (8, 103, 0, 11) := ⟨am_J_11, ⟨tm 470 (by decide +kernel), tm 471 (by decide +kernel), tm 472 (by decide +kernel), _, _, rfl⟩⟩
theorem am_ML_18 : am_okM (8, 106, 0, 101) := ⟨am_J_101, ⟨tm 478 (by decide +kernel), tm 480 (by decide +kernel), tm 3 (by decide +kernel), _, _, rfl⟩⟩
theorem am_ML_19 : am_okM (8, 110, 0, 13) := ⟨am_J_13, ⟨tm 482 (by decide +kernel), tm 381 (by decide +kernel), tm 382 (by decide +kernel), _, _, rfl⟩⟩
theorem am_ML_20 : am_okM (8, 114, 0, 102) := ⟨am_J_102, ⟨tm 483 (by decide +kernel), tm 485 (by decide +kernel), tm 4 (by decide +kernel), _, _, rfl⟩⟩
theorem am_ML_21 : am_okM (8, 118, 0, 28) := ⟨am_J_28, ⟨tm 492 (by decide +kernel), tm 493 (by decide +kernel), tm 494 (by decide +kernel), _, _, rfl⟩⟩
theorem am_ML_22 : am_okM (8, 121, 0, 34) := ⟨am_J_34, ⟨tm 609 (by decide +kernel), tm 610 (by decide +kernel), tm 611 (by decide +kernel), _, _, rfl⟩⟩
theorem am_ML_23 : am_okM (8, 124, 0, 36) := ⟨am_J_36, ⟨tm 633 (by decide +kernel), tm 634 (by decide +kernel), tm 635 (by decide +kernel), _, _, rfl⟩⟩
theorem am_ML_24 : am_okM (8, 128, 0, 1) := ⟨am_J_1, ⟨tm 654 (by decide +kernel), tm 655 (by decide +kernel), tm 656 (by decide +kernel), _, _, rfl⟩⟩
theorem am_ML_25 : am_okM (8, 129, 0, 45) := ⟨am_J_45, ⟨tm 658 (by decide +kernel), tm 450 (by decide +kernel), tm 451 (by decide +kernel), _, _, rfl⟩⟩
theorem am_ML_26 : am_okM (8, 133, 0, 39) := ⟨am_J_39, ⟨tm 659 (by decide +kernel), tm 660 (by decide +kernel), tm 661 (by decide +kernel), _, _, rfl⟩⟩
theorem am_ML_27 : am_okM (8, 137, 0, 38) := ⟨am_J_38, ⟨tm 685 (by decide +kernel), tm 686 (by decide +kernel), tm 687 (by decide +kernel), _, _, rfl⟩⟩
theorem am_ML_28 : am_okM (8, 141, 0, 3) := ⟨am_J_3, ⟨tm 689 (by decide +kernel), tm 690 (by decide +kernel), tm 691 (by decide +kernel), _, _, rfl⟩⟩
theorem am_ML_29 : am_okM (8, 145, 0, 2) := ⟨am_J_2, ⟨tm 693 (by decide +kernel), tm 694 (by decide +kernel), tm 695 (by decide +kernel), _, _, rfl⟩⟩
theorem am_ML_30 : am_okM (8, 148, 0, 5) := ⟨am_J_5, ⟨tm 701 (by decide +kernel), tm 702 (by decide +kernel), tm 703 (by decide +kernel), _, _, rfl⟩⟩
theorem am_ML_31 : am_okM (8, 152, 0, 6) := ⟨am_J_6, ⟨tm 713 (by decide +kernel), tm 714 (by decide +kernel), tm 715 (by decide +kernel), _, _, rfl⟩⟩
theorem am_ML_32 : am_okM (8, 155, 0, 17) := ⟨am_J_17, ⟨tm 721 (by decide +kernel), tm 722 (by decide +kernel), tm 723 (by decide +kernel), _, _, rfl⟩⟩
theorem am_ML_33 : am_okM (8, 156, 0, 20) := ⟨am_J_20, ⟨tm 725 (by decide +kernel), tm 726 (by decide +kernel), tm 727 (by decide +kernel), _, _, rfl⟩⟩
theorem am_ML_34 : am_okM (8, 160, 0, 18) := ⟨am_J_18, ⟨tm 760 (by decide +kernel), tm 761 (by decide +kernel), tm 762 (by decide +kernel), _, _, rfl⟩⟩
theorem am_ML_35 : am_okM (8, 161, 0, 19) := ⟨am_J_19, ⟨tm 768 (by decide +kernel), tm 769 (by decide +kernel), tm 770 (by decide +kernel), _, _, rfl⟩⟩
theorem am_ML_36 : am_okM (8, 162, 3, 80) := ⟨am_J_80, ⟨tm 487 (by decide +kernel), tm 385 (by decide +kernel)⟩⟩
theorem am_ML_37 : am_okM (8, 165, 3, 81) := ⟨am_J_81, ⟨tm 776 (by decide +kernel), tm 777 (by decide +kernel)⟩⟩
theorem am_ML_38 : am_okM (8, 169, 0, 49) := ⟨am_J_49, ⟨tm 783 (by decide +kernel), tm 784 (by decide +kernel), tm 785 (by decide +kernel), _, _, rfl⟩⟩
theorem am_ML_39 : am_okM (8, 173, 0, 50) := ⟨am_J_50, ⟨tm 787 (by decide +kernel), tm 788 (by decide +kernel), tm 789 (by decide +kernel), _, _, rfl⟩⟩
theorem am_ML_40 : am_okM (8, 177, 0, 51) := ⟨am_J_51, ⟨tm 792 (by decide +kernel), tm 793 (by decide +kernel), tm 794 (by decide +kernel), _, _, rfl⟩⟩
theorem am_ML_41 : am_okM (8, 180, 0, 52) := ⟨am_J_52, ⟨tm 800 (by decide +kernel), tm 801 (by decide +kernel), tm 802 (by decide +kernel), _, _, rfl⟩⟩
theorem am_ML_42 : am_okM (8, 183, 0, 53) := ⟨am_J_53, ⟨tm 808 (by decide +kernel), tm 809 (by decide +kernel), tm 810 (by decide +kernel), _, _, rfl⟩⟩
theorem am_ML_43 : am_okM (0, 25, 0, 4) := ⟨am_J_4, ⟨tm 705 (by decide +kernel), tm 707 (by decide +kernel), tm 17 (by decide +kernel), _, _, rfl⟩⟩
theorem am_ML_44 : am_okM (1, 26, 0, 9) := ⟨am_J_9, ⟨tm 376 (by decide +kernel), tm 377 (by decide +kernel), tm 378 (by decide +kernel), _, _, rfl⟩⟩
theorem am_ML_45 : am_okM (1, 30, 3, 168) := ⟨am_J_168, ⟨tm 429 (by decide +kernel), tm 430 (by decide +kernel)⟩⟩
theorem am_ML_46 : am_okM (1, 39, 3, 80) := ⟨am_J_80, ⟨tm 384 (by decide +kernel), tm 385 (by decide +kernel)⟩⟩
theorem am_ML_47 : am_okM (1, 45, 3, 14) := ⟨am_J_14, ⟨tm 387 (by decide +kernel), tm 388 (by decide +kernel)⟩⟩
theorem am_ML_48 : am_okM (1, 49, 3, 79) := ⟨am_J_79, ⟨tm 390 (by decide +kernel), tm 391 (by decide +kernel)⟩⟩
theorem am_ML_49 : am_okM (1, 53, 3, 78) := ⟨am_J_78, ⟨tm 393 (by decide +kernel), tm 394 (by decide +kernel)⟩⟩
theorem am_ML_50 : am_okM (1, 56, 0, 13) := ⟨am_J_13, ⟨tm 380 (by decide +kernel), tm 381 (by decide +kernel), tm 382 (by decide +kernel), _, _, rfl⟩⟩
theorem am_ML_51 : am_okM (2, 36, 3, 83) := ⟨am_J_83, ⟨tm 729 (by decide +kernel), tm 730 (by decide +kernel)⟩⟩
theorem am_ML_52 : am_okM (2, 43, 0, 45) := ⟨am_J_45, ⟨tm 732 (by decide +kernel), tm 450 (by decide +kernel), tm 451 (by decide +kernel), _, _, rfl⟩⟩
theorem am_ML_53 : am_okM (2, 47, 0, 47) := ⟨am_J_47, ⟨tm 733 (by decide +kernel), tm 454 (by decide +kernel), tm 455 (by decide +kernel), _, _, rfl⟩⟩
theorem am_ML_54 : am_okM (2, 51, 0, 46) := ⟨am_J_46, ⟨tm 734 (by decide +kernel), tm 459 (by decide +kernel), tm 460 (by decide +kernel), _, _, rfl⟩⟩
theorem am_ML_55 : am_okM (2, 54, 0, 61) := ⟨am_J_61, ⟨tm 735 (by decide +kernel), tm 736 (by decide +kernel), tm 737 (by decide +kernel), _, _, rfl⟩⟩
theorem am_ML_56 : am_okM (2, 58, 0, 21) := ⟨am_J_21, ⟨tm 739 (by decide +kernel), tm 741 (by decide +kernel), tm 18 (by decide +kernel), _, _, rfl⟩⟩
theorem am_ML_57 : am_okM (2, 62, 0, 22) := ⟨am_J_22, ⟨tm 743 (by decide +kernel), tm 745 (by decide +kernel), tm 19 (by decide +kernel), _, _, rfl⟩⟩
theorem am_ML_58 : am_okM (2, 66, 0, 25) := ⟨am_J_25, ⟨tm 747 (by decide +kernel), tm 749 (by decide +kernel), tm 20 (by decide +kernel), _, _, rfl⟩⟩
theorem am_ML_59 : am_okM (2, 69, 0, 23) := ⟨am_J_23, ⟨tm 752 (by decide +kernel), tm 754 (by decide +kernel), tm 21 (by decide +kernel), _, _, rfl⟩⟩
theorem am_ML_60 : am_okM (2, 72, 0, 24) := ⟨am_J_24, ⟨tm 756 (by decide +kernel), tm 758 (by decide +kernel), tm 22 (by decide +kernel), _, _, rfl⟩⟩
theorem am_ML_61 : am_okM (4, 11, 1, 155) := ⟨am_J_155, ⟨tm 186 (by decide +kernel), tm 187 (by decide +kernel), rfl, rfl⟩⟩
theorem am_ML_62 : am_okM (4, 34, 0, 163) := ⟨am_J_163, ⟨tm 496 (by decide +kernel), tm 497 (by decide +kernel), tm 498 (by decide +kernel), _, _, rfl⟩⟩
theorem am_ML_63 : am_okM (4, 47, 0, 29) := ⟨am_J_29, ⟨tm 500 (by decide +kernel), tm 502 (by decide +kernel), tm 5 (by decide +kernel), _, _, rfl⟩⟩
theorem am_ML_64 : am_okM (4, 50, 0, 63) := ⟨am_J_63, ⟨tm 505 (by decide +kernel), tm 314 (by decide +kernel), tm 315 (by decide +kernel), _, _, rfl⟩⟩
theorem am_ML_65 : am_okM (4, 54, 0, 66) := ⟨am_J_66, ⟨tm 504 (by decide +kernel), tm 330 (by decide +kernel), tm 331 (by decide +kernel), _, _, rfl⟩⟩
theorem am_ML_66 : am_okM (4, 58, 0, 30) := ⟨am_J_30, ⟨tm 506 (by decide +kernel), tm 508 (by decide +kernel), tm 6 (by decide +kernel), _, _, rfl⟩⟩
theorem am_ML_67 : am_okM (4, 62, 0, 31) := ⟨am_J_31, ⟨tm 510 (by decide +kernel), tm 512 (by decide +kernel), tm 7 (by decide +kernel), _, _, rfl⟩⟩
theorem am_ML_68 : am_okM (4, 66, 0, 32) := ⟨am_J_32, ⟨tm 595 (by decide +kernel), tm 597 (by decide +kernel), tm 11 (by decide +kernel), _, _, rfl⟩⟩
theorem am_ML_69 : am_okM (4, 83, 1, 26) := ⟨am_J_26, ⟨tm 518 (by decide +kernel), tm 519 (by decide +kernel), rfl, rfl⟩⟩
theorem am_ML_70 : am_okM (4, 86, 0, 162) := ⟨am_J_162, ⟨tm 543 (by decide +kernel), tm 544 (by decide +kernel), tm 545 (by decide +kernel), _, _, rfl⟩⟩
theorem am_ML_71 : am_okM (4, 90, 0, 33) := ⟨am_J_33, ⟨tm 601 (by decide +kernel), tm 603 (by decide +kernel), tm 12 (by decide +kernel), _, _, rfl⟩⟩
theorem am_ML_72 : am_okM (4, 97, 0, 67) := ⟨am_J_67, ⟨tm 599 (by decide +kernel), tm 337 (by decide +kernel), tm 338 (by decide +kernel), _, _, rfl⟩⟩
theorem am_ML_73 : am_okM (4, 100, 0, 68) := ⟨am_J_68, ⟨tm 600 (by decide +kernel), tm 345 (by decide +kernel), tm 346 (by decide +kernel), _, _, rfl⟩⟩
theorem am_ML_74 : am_okM (4, 104, 0, 158) := ⟨am_J_158, ⟨tm 613 (by decide +kernel), tm 614 (by decide +kernel), tm 615 (by decide +kernel), _, _, rfl⟩⟩
theorem am_ML_75 : am_okM (4, 107, 0, 160) := ⟨am_J_160, ⟨tm 617 (by decide +kernel), tm 618 (by decide +kernel), tm 619 (by decide +kernel), _, _, rfl⟩⟩
theorem am_ML_76 : am_okM (4, 125, 0, 15) := ⟨am_J_15, ⟨tm 632 (by decide +kernel), tm 373 (by decide +kernel), tm 374 (by decide +kernel), _, _, rfl⟩⟩
theorem am_ML_77 : am_okM (4, 134, 0, 35) := ⟨am_J_35, ⟨tm 637 (by decide +kernel), tm 639 (by decide +kernel), tm 13 (by decide +kernel), _, _, rfl⟩⟩
theorem am_ML_78 : am_okM (4, 142, 0, 37) := ⟨am_J_37, ⟨tm 641 (by decide +kernel), tm 643 (by decide +kernel), tm 14 (by decide +kernel), _, _, rfl⟩⟩
theorem am_ML_79 : am_okM (4, 146, 0, 57) := ⟨am_J_57, ⟨tm 645 (by decide +kernel), tm 646 (by decide +kernel), tm 647 (by decide +kernel), _, _, rfl⟩⟩
theorem am_ML_80 : am_okM (4, 154, 0, 56) := ⟨am_J_56, ⟨tm 684 (by decide +kernel), tm 650 (by decide +kernel), tm 651 (by decide +kernel), _, _, rfl⟩⟩
theorem am_ML_81 : am_okM (4, 159, 0, 40) := ⟨am_J_40, ⟨tm 663 (by decide +kernel), tm 665 (by decide +kernel), tm 15 (by decide +kernel), _, _, rfl⟩⟩
theorem am_ML_82 : am_okM (4, 163, 0, 59) := ⟨am_J_59, ⟨tm 667 (by decide +kernel), tm 668 (by decide +kernel), tm 669 (by decide +kernel), _, _, rfl⟩⟩
theorem am_ML_83 : am_okM (4, 167, 0, 58) := ⟨am_J_58, ⟨tm 675 (by decide +kernel), tm 676 (by decide +kernel), tm 677 (by decide +kernel), _, _, rfl⟩⟩
theorem am_ML_84 : am_okM (5, 45, 0, 71) := ⟨am_J_71, ⟨tm 356 (by decide +kernel), tm 357 (by decide +kernel), tm 358 (by decide +kernel), _, _, rfl⟩⟩
theorem am_ML_85 : am_okM (5, 50, 0, 8) := ⟨am_J_8, ⟨tm 360 (by decide +kernel), tm 361 (by decide +kernel), tm 362 (by decide +kernel), _, _, rfl⟩⟩
theorem am_ML_86 : am_okM (5, 55, 0, 73) := ⟨am_J_73, ⟨tm 364 (by decide +kernel), tm 365 (by decide +kernel), tm 366 (by decide +kernel), _, _, rfl⟩⟩
theorem am_ML_87 : am_okM (5, 59, 0, 15) := ⟨am_J_15, ⟨tm 372 (by decide +kernel), tm 373 (by decide +kernel), tm 374 (by decide +kernel), _, _, rfl⟩⟩
theorem am_ML_88 : am_okM (5, 63, 0, 74) := ⟨am_J_74, ⟨tm 396 (by decide +kernel), tm 397 (by decide +kernel), tm 398 (by decide +kernel), _, _, rfl⟩⟩
theorem am_ML_89 : am_okM (5, 67, 0, 75) := ⟨am_J_75, ⟨tm 400 (by decide +kernel), tm 401 (by decide +kernel), tm 402 (by decide +kernel), _, _, rfl⟩⟩
theorem am_ML_90 : am_okM (5, 70, 0, 44) := ⟨am_J_44, ⟨tm 416 (by decide +kernel), tm 417 (by decide +kernel), tm 418 (by decide +kernel), _, _, rfl⟩⟩
theorem am_ML_91 : am_okM (5, 80, 0, 45) := ⟨am_J_45, ⟨tm 449 (by decide +kernel), tm 450 (by decide +kernel), tm 451 (by decide +kernel), _, _, rfl⟩⟩
theorem am_ML_92 : am_okM (5, 84, 0, 47) := ⟨am_J_47, ⟨tm 453 (by decide +kernel), tm 454 (by decide +kernel), tm 455 (by decide +kernel), _, _, rfl⟩⟩
theorem am_ML_93 : am_okM (5, 87, 0, 46) := ⟨am_J_46, ⟨tm 458 (by decide +kernel), tm 459 (by decide +kernel), tm 460 (by decide +kernel), _, _, rfl⟩⟩
theorem am_ML_94 : am_okM (5, 90, 0, 49) := ⟨am_J_49, ⟨tm 791 (by decide +kernel), tm 784 (by decide +kernel), tm 785 (by decide +kernel), _, _, rfl⟩⟩
theorem am_ML_95 : am_okM (5, 94, 0, 54) := ⟨am_J_54, ⟨tm 812 (by decide +kernel), tm 814 (by decide +kernel), tm 23 (by decide +kernel), _, _, rfl⟩⟩
theorem am_ML_96 : am_okM (5, 99, 0, 55) := ⟨am_J_55, ⟨tm 816 (by decide +kernel), tm 818 (by decide +kernel), tm 24 (by decide +kernel), _, _, rfl⟩⟩
theorem am_ML_97 : am_okM (5, 102, 0, 56) := ⟨am_J_56, ⟨tm 649 (by decide +kernel), tm 650 (by decide +kernel), tm 651 (by decide +kernel), _, _, rfl⟩⟩
theorem am_ML_98 : am_okM (5, 106, 3, 82) := ⟨am_J_82, ⟨tm 679 (by decide +kernel), tm 680 (by decide +kernel)⟩⟩
theorem am_ML_99 : am_okM (5, 110, 0, 60) := ⟨am_J_60, ⟨tm 671 (by decide +kernel), tm 673 (by decide +kernel), tm 16 (by decide +kernel), _, _, rfl⟩⟩
theorem am_ML_100 : am_okM (6, 32, 0, 66) := ⟨am_J_66, ⟨tm 329 (by decide +kernel), tm 330 (by decide +kernel), tm 331 (by decide +kernel), _, _, rfl⟩⟩
theorem am_ML_101 : am_okM (6, 36, 3, 76) := ⟨am_J_76, ⟨tm 333 (by decide +kernel), tm 334 (by decide +kernel)⟩⟩
theorem am_ML_102 : am_okM (6, 41, 3, 77) := ⟨am_J_77, ⟨tm 348 (by decide +kernel), tm 349 (by decide +kernel)⟩⟩
theorem am_ML_103 : am_okM (6, 45, 0, 67) := ⟨am_J_67, ⟨tm 336 (by decide +kernel), tm 337 (by decide +kernel), tm 338 (by decide +kernel), _, _, rfl⟩⟩
theorem am_ML_104 : am_okM (6, 48, 0, 70) := ⟨am_J_70, ⟨tm 340 (by decide +kernel), tm 342 (by decide +kernel), tm 1 (by decide +kernel), _, _, rfl⟩⟩
theorem am_ML_105 : am_okM (6, 52, 0, 68) := ⟨am_J_68, ⟨tm 344 (by decide +kernel), tm 345 (by decide +kernel), tm 346 (by decide +kernel), _, _, rfl⟩⟩
theorem am_ML_106 : am_okM (6, 56, 0, 72) := ⟨am_J_72, ⟨tm 368 (by decide +kernel), tm 370 (by decide +kernel), tm 2 (by decide +kernel), _, _, rfl⟩⟩
theorem am_ML_107 : am_okM (7, 11, 3, 79) := ⟨am_J_79, ⟨tm 683 (by decide +kernel), tm 391 (by decide +kernel)⟩⟩
theorem am_ML_108 : am_okM (7, 15, 3, 80) := ⟨am_J_80, ⟨tm 682 (by decide +kernel), tm 385 (by decide +kernel)⟩⟩
theorem am_ML_109 : am_okM (10, 9, 1, 84) := ⟨am_J_84, ⟨tm 81 (by decide +kernel), tm 82 (by decide +kernel), rfl, rfl⟩⟩
theorem am_ML_110 : am_okM (10, 12, 1, 103) := ⟨am_J_103, ⟨tm 822 (by decide +kernel), tm 823 (by decide +kernel), rfl, rfl⟩⟩
theorem am_ML_111 : am_okM (10, 15, 0, 85) := ⟨am_J_85, ⟨tm 304 (by decide +kernel), tm 305 (by decide +kernel), tm 306 (by decide +kernel), _, _, rfl⟩⟩
theorem am_ML_112 : am_okM (10, 19, 0, 110) := ⟨am_J_110, ⟨tm 928 (by decide +kernel), tm 929 (by decide +kernel), tm 930 (by decide +kernel), _, _, rfl⟩⟩
theorem am_ML_113 : am_okM (10, 20, 0, 86) := ⟨am_J_86, ⟨tm 317 (by decide +kernel), tm 318 (by decide +kernel), tm 319 (by decide +kernel), _, _, rfl⟩⟩
theorem am_ML_114 : am_okM (10, 24, 0, 122) := ⟨am_J_122, ⟨tm 993 (by decide +kernel), tm 994 (by decide +kernel), tm 995 (by decide +kernel), _, _, rfl⟩⟩
theorem am_ML_115 : am_okM (10, 25, 0, 87) := ⟨am_J_87, ⟨tm 408 (by decide +kernel), tm 409 (by decide +kernel), tm 410 (by decide +kernel), _, _, rfl⟩⟩
theorem am_ML_116 : am_okM (10, 29, 0, 125) := ⟨am_J_125, ⟨tm 1001 (by decide +kernel), tm 1002 (by decide +kernel), tm 1003 (by decide +kernel), _, _, rfl⟩⟩
theorem am_ML_117 : am_okM (10, 30, 0, 88) := ⟨am_J_88, ⟨tm 420 (by decide +kernel), tm 421 (by decide +kernel), tm 422 (by decide +kernel), _, _, rfl⟩⟩
theorem am_ML_118 : am_okM (10, 33, 0, 114) := ⟨am_J_114, ⟨tm 932 (by decide +kernel), tm 933 (by decide +kernel), tm 934 (by decide +kernel), _, _, rfl⟩⟩
theorem am_ML_119 : am_okM (10, 34, 0, 89) := ⟨am_J_89, ⟨tm 462 (by decide +kernel), tm 463 (by decide +kernel), tm 464 (by decide +kernel), _, _, rfl⟩⟩
theorem am_ML_120 : am_okM (10, 37, 0, 116) := ⟨am_J_116, ⟨tm 966 (by decide +kernel), tm 967 (by decide +kernel), tm 968 (by decide +kernel), _, _, rfl⟩⟩
theorem am_ML_121 : am_okM (10, 38, 0, 90) := ⟨am_J_90, ⟨tm 474 (by decide +kernel), tm 475 (by decide +kernel), tm 476 (by decide +kernel), _, _, rfl⟩⟩
theorem am_ML_122 : am_okM (10, 41, 0, 120) := ⟨am_J_120, ⟨tm 973 (by decide +kernel), tm 974 (by decide +kernel), tm 975 (by decide +kernel), _, _, rfl⟩⟩
theorem am_ML_123 : am_okM (10, 42, 0, 91) := ⟨am_J_91, ⟨tm 488 (by decide +kernel), tm 489 (by decide +kernel), tm 490 (by decide +kernel), _, _, rfl⟩⟩
theorem am_ML_124 : am_okM (10, 45, 0, 146) := ⟨am_J_146, ⟨tm 1033 (by decide +kernel), tm 1034 (by decide +kernel), tm 1035 (by decide +kernel), _, _, rfl⟩⟩
theorem am_ML_125 : am_okM (10, 46, 0, 92) := ⟨am_J_92, ⟨tm 697 (by decide +kernel), tm 698 (by decide +kernel), tm 699 (by decide +kernel), _, _, rfl⟩⟩
theorem am_ML_126 : am_okM (10, 49, 0, 147) := ⟨am_J_147, ⟨tm 1098 (by decide +kernel), tm 1099 (by decide +kernel), tm 1100 (by decide +kernel), _, _, rfl⟩⟩
theorem am_ML_127 : am_okM (10, 50, 0, 93) := ⟨am_J_93, ⟨tm 709 (by decide +kernel), tm 710 (by decide +kernel), tm 711 (by decide +kernel), _, _, rfl⟩⟩
theorem am_ML_128 : am_okM (10, 54, 0, 148) := ⟨am_J_148, ⟨tm 1102 (by decide +kernel), tm 1103 (by decide +kernel), tm 1104 (by decide +kernel), _, _, rfl⟩⟩
theorem am_ML_129 : am_okM (10, 55, 0, 94) := ⟨am_J_94, ⟨tm 717 (by decide +kernel), tm 718 (by decide +kernel), tm 719 (by decide +kernel), _, _, rfl⟩⟩
theorem am_ML_130 : am_okM (10, 58, 0, 151) := ⟨am_J_151, ⟨tm 1106 (by decide +kernel), tm 1107 (by decide +kernel), tm 1108 (by decide +kernel), _, _, rfl⟩⟩
theorem am_ML_131 : am_okM (10, 59, 0, 95) := ⟨am_J_95, ⟨tm 764 (by decide +kernel), tm 765 (by decide +kernel), tm 766 (by decide +kernel), _, _, rfl⟩⟩
theorem am_ML_132 : am_okM (10, 62, 0, 153) := ⟨am_J_153, ⟨tm 1122 (by decide +kernel), tm 1123 (by decide +kernel), tm 1124 (by decide +kernel), _, _, rfl⟩⟩
theorem am_ML_133 : am_okM (10, 63, 0, 96) := ⟨am_J_96, ⟨tm 772 (by decide +kernel), tm 773 (by decide +kernel), tm 774 (by decide +kernel), _, _, rfl⟩⟩
theorem am_ML_134 : am_okM (10, 66, 0, 121) := ⟨am_J_121, ⟨tm 989 (by decide +kernel), tm 990 (by decide +kernel), tm 991 (by decide +kernel), _, _, rfl⟩⟩
theorem am_ML_135 : am_okM (10, 67, 0, 97) := ⟨am_J_97, ⟨tm 779 (by decide +kernel), tm 780 (by decide +kernel), tm 781 (by decide +kernel), _, _, rfl⟩⟩
theorem am_ML_136 : am_okM (10, 71, 0, 127) := ⟨am_J_127, ⟨tm 1013 (by decide +kernel), tm 1014 (by decide +kernel), tm 1015 (by decide +kernel), _, _, rfl⟩⟩
theorem am_ML_137 : am_okM (10, 72, 0, 98) := ⟨am_J_98, ⟨tm 796 (by decide +kernel), tm 797 (by decide +kernel), tm 798 (by decide +kernel), _, _, rfl⟩⟩
theorem am_ML_138 : am_okM (10, 76, 0, 126) := ⟨am_J_126, ⟨tm 1009 (by decide +kernel), tm 1010 (by decide +kernel), tm 1011 (by decide +kernel), _, _, rfl⟩⟩
theorem am_ML_139 : am_okM (10, 77, 0, 99) := ⟨am_J_99, ⟨tm 804 (by decide +kernel), tm 805 (by decide +kernel), tm 806 (by decide +kernel), _, _, rfl⟩⟩
theorem am_ML_140 : am_okM (10, 80, 0, 130) := ⟨am_J_130, ⟨tm 1017 (by decide +kernel), tm 1018 (by decide +kernel), tm 1019 (by decide +kernel), _, _, rfl⟩⟩
theorem am_ML_141 : am_okM (9, 76, 0, 104) := ⟨am_J_104, ⟨tm 958 (by decide +kernel), tm 960 (by decide +kernel), tm 29 (by decide +kernel), _, _, rfl⟩⟩
theorem am_ML_142 : am_okM (9, 80, 0, 107) := ⟨am_J_107, ⟨tm 946 (by decide +kernel), tm 948 (by decide +kernel), tm 26 (by decide +kernel), _, _, rfl⟩⟩
theorem am_ML_143 : am_okM (9, 91, 3, 109) := ⟨am_J_109, ⟨tm 943 (by decide +kernel), tm 944 (by decide +kernel)⟩⟩
theorem am_ML_144 : am_okM (9, 98, 0, 105) := ⟨am_J_105, ⟨tm 954 (by decide +kernel), tm 956 (by decide +kernel), tm 28 (by decide +kernel), _, _, rfl⟩⟩
theorem am_ML_145 : am_okM (9, 102, 3, 112) := ⟨am_J_112, ⟨tm 936 (by decide +kernel), tm 937 (by decide +kernel)⟩⟩
theorem am_ML_146 : am_okM (9, 106, 0, 111) := ⟨am_J_111, ⟨tm 939 (by decide +kernel), tm 941 (by decide +kernel), tm 25 (by decide +kernel), _, _, rfl⟩⟩
theorem am_ML_147 : am_okM (9, 109, 0, 113) := ⟨am_J_113, ⟨tm 950 (by decide +kernel), tm 952 (by decide +kernel), tm 27 (by decide +kernel), _, _, rfl⟩⟩
theorem am_ML_148 : am_okM (9, 112, 0, 108) := ⟨am_J_108, ⟨tm 962 (by decide +kernel), tm 964 (by decide +kernel), tm 30 (by decide +kernel), _, _, rfl⟩⟩
theorem am_ML_149 : am_okM (9, 115, 3, 115) := ⟨am_J_115, ⟨tm 970 (by decide +kernel), tm 971 (by decide +kernel)⟩⟩
theorem am_ML_150 : am_okM (9, 118, 0, 117) := ⟨am_J_117, ⟨tm 981 (by decide +kernel), tm 983 (by decide +kernel), tm 32 (by decide +kernel), _, _, rfl⟩⟩
theorem am_ML_151 : am_okM (9, 124, 0, 118) := ⟨am_J_118, ⟨tm 977 (by decide +kernel), tm 979 (by decide +kernel), tm 31 (by decide +kernel), _, _, rfl⟩⟩
theorem am_ML_152 : am_okM (9, 128, 0, 119) := ⟨am_J_119, ⟨tm 985 (by decide +kernel), tm 987 (by decide +kernel), tm 33 (by decide +kernel), _, _, rfl⟩⟩
theorem am_ML_153 : am_okM (9, 134, 0, 123) := ⟨am_J_123, ⟨tm 997 (by decide +kernel), tm 999 (by decide +kernel), tm 34 (by decide +kernel), _, _, rfl⟩⟩
theorem am_ML_154 : am_okM (9, 137, 0, 124) := ⟨am_J_124, ⟨tm 1005 (by decide +kernel), tm 1007 (by decide +kernel), tm 35 (by decide +kernel), _, _, rfl⟩⟩
theorem am_ML_155 : am_okM (9, 143, 0, 106) := ⟨am_J_106, ⟨tm 1029 (by decide +kernel), tm 1031 (by decide +kernel), tm 38 (by decide +kernel), _, _, rfl⟩⟩
theorem am_ML_156 : am_okM (9, 146, 0, 128) := ⟨am_J_128, ⟨tm 1025 (by decide +kernel), tm 1027 (by decide +kernel), tm 37 (by decide +kernel), _, _, rfl⟩⟩
theorem am_ML_157 : am_okM (9, 150, 0, 131) := ⟨am_J_131, ⟨tm 1021 (by decide +kernel), tm 1023 (by decide +kernel), tm 36 (by decide +kernel), _, _, rfl⟩⟩
theorem am_ML_158 : am_okM (9, 160, 0, 132) := ⟨am_J_132, ⟨tm 1045 (by decide +kernel), tm 1047 (by decide +kernel), tm 41 (by decide +kernel), _, _, rfl⟩⟩
theorem am_ML_159 : am_okM (9, 164, 0, 135) := ⟨am_J_135, ⟨tm 1053 (by decide +kernel), tm 1055 (by decide +kernel), tm 43 (by decide +kernel), _, _, rfl⟩⟩
theorem am_ML_160 : am_okM (9, 168, 0, 133) := ⟨am_J_133, ⟨tm 1057 (by decide +kernel), tm 1059 (by decide +kernel), tm 44 (by decide +kernel), _, _, rfl⟩⟩
theorem am_ML_161 : am_okM (9, 178, 0, 134) := ⟨am_J_134, ⟨tm 1041 (by decide +kernel), tm 1043 (by decide +kernel), tm 40 (by decide +kernel), _, _, rfl⟩⟩
theorem am_ML_162 : am_okM (9, 181, 0, 137) := ⟨am_J_137, ⟨tm 1065 (by decide +kernel), tm 1067 (by decide +kernel), tm 46 (by decide +kernel), _, _, rfl⟩⟩
theorem am_ML_163 : am_okM (9, 184, 0, 136) := ⟨am_J_136, ⟨tm 1049 (by decide +kernel), tm 1051 (by decide +kernel), tm 42 (by decide +kernel), _, _, rfl⟩⟩
theorem am_ML_164 : am_okM (9, 187, 0, 138) := ⟨am_J_138, ⟨tm 1061 (by decide +kernel), tm 1063 (by decide +kernel), tm 45 (by decide +kernel), _, _, rfl⟩⟩
theorem am_ML_165 : am_okM (9, 191, 0, 140) := ⟨am_J_140, ⟨tm 1085 (by decide +kernel), tm 1087 (by decide +kernel), tm 51 (by decide +kernel), _, _, rfl⟩⟩
theorem am_ML_166 : am_okM (9, 194, 0, 129) := ⟨am_J_129, ⟨tm 1089 (by decide +kernel), tm 1091 (by decide +kernel), tm 52 (by decide +kernel), _, _, rfl⟩⟩
theorem am_ML_167 : am_okM (9, 198, 0, 141) := ⟨am_J_141, ⟨tm 1081 (by decide +kernel), tm 1083 (by decide +kernel), tm 50 (by decide +kernel), _, _, rfl⟩⟩
theorem am_ML_168 : am_okM (9, 201, 0, 143) := ⟨am_J_143, ⟨tm 1073 (by decide +kernel), tm 1075 (by decide +kernel), tm 48 (by decide +kernel), _, _, rfl⟩⟩
theorem am_ML_169 : am_okM (9, 206, 0, 139) := ⟨am_J_139, ⟨tm 1037 (by decide +kernel), tm 1039 (by decide +kernel), tm 39 (by decide +kernel), _, _, rfl⟩⟩
theorem am_ML_170 : am_okM (9, 212, 0, 144) := ⟨am_J_144, ⟨tm 1069 (by decide +kernel), tm 1071 (by decide +kernel), tm 47 (by decide +kernel), _, _, rfl⟩⟩
theorem am_ML_171 : am_okM (9, 215, 0, 142) := ⟨am_J_142, ⟨tm 1077 (by decide +kernel), tm 1079 (by decide +kernel), tm 49 (by decide +kernel), _, _, rfl⟩⟩
theorem am_ML_172 : am_okM (9, 218, 0, 145) := ⟨am_J_145, ⟨tm 1093 (by decide +kernel), tm 1095 (by decide +kernel), tm 53 (by decide +kernel), _, _, rfl⟩⟩
theorem am_ML_173 : am_okM (9, 225, 0, 149) := ⟨am_J_149, ⟨tm 1110 (by decide +kernel), tm 1112 (by decide +kernel), tm 54 (by decide +kernel), _, _, rfl⟩⟩
theorem am_ML_174 : am_okM (9, 228, 0, 152) := ⟨am_J_152, ⟨tm 1114 (by decide +kernel), tm 1116 (by decide +kernel), tm 55 (by decide +kernel), _, _, rfl⟩⟩
theorem am_ML_175 : am_okM (9, 231, 0, 150) := ⟨am_J_150, ⟨tm 1118 (by decide +kernel), tm 1120 (by decide +kernel), tm 56 (by decide +kernel), _, _, rfl⟩⟩
theorem am_ML_176 : am_okM (12, 1, 1, 165) := ⟨am_J_165, ⟨tm 192 (by decide +kernel), tm 193 (by decide +kernel), rfl, rfl⟩⟩
theorem am_ML_177 : am_okM (11, 1, 1, 164) := ⟨am_J_164, ⟨tm 189 (by decide +kernel), tm 190 (by decide +kernel), rfl, rfl⟩⟩
theorem am_ML_178 : am_okM (11, 66, 3, 166) := ⟨am_J_166, ⟨tm 569 (by decide +kernel), tm 570 (by decide +kernel)⟩⟩
theorem am_ML_179 : am_okM (11, 69, 0, 156) := ⟨am_J_156, ⟨tm 555 (by decide +kernel), tm 557 (by decide +kernel), tm 10 (by decide +kernel), _, _, rfl⟩⟩
theorem am_ML_180 : am_okM (11, 73, 3, 170) := ⟨am_J_170, ⟨tm 559 (by decide +kernel), tm 560 (by decide +kernel)⟩⟩
theorem am_ML_181 : am_okM (11, 118, 3, 169) := ⟨am_J_169, ⟨tm 621 (by decide +kernel), tm 622 (by decide +kernel)⟩⟩
theorem am_ML_182 : am_okM (11, 123, 0, 159) := ⟨am_J_159, ⟨tm 627 (by decide +kernel), tm 628 (by decide +kernel), tm 629 (by decide +kernel), _, _, rfl⟩⟩
theorem am_ML_183 : am_okM (11, 129, 0, 157) := ⟨am_J_157, ⟨tm 551 (by decide +kernel), tm 553 (by decide +kernel), tm 9 (by decide +kernel), _, _, rfl⟩⟩
theorem am_ML_184 : am_okM (11, 131, 0, 161) := ⟨am_J_161, ⟨tm 547 (by decide +kernel), tm 549 (by decide +kernel), tm 8 (by decide +kernel), _, _, rfl⟩⟩
theorem am_ML_185 : am_okM (14, 300, 3, 167) := ⟨am_J_167, ⟨tm 587 (by decide +kernel), tm 588 (by decide +kernel)⟩⟩
theorem am_ML_186 : am_okM (15, 105, 3, 171) := ⟨am_J_171, ⟨tm 624 (by decide +kernel), tm 625 (by decide +kernel)⟩⟩
set_option maxRecDepth 20000 in
theorem am_ML_ok : ∀ q ∈ am_ML, am_okM q := List.forall_mem_cons.mpr ⟨am_ML_0, List.forall_mem_cons.mpr ⟨am_ML_1, List.forall_mem_cons.mpr ⟨am_ML_2, List.forall_mem_cons.mpr ⟨am_ML_3, List.forall_mem_cons.mpr ⟨am_ML_4, List.forall_mem_cons.mpr ⟨am_ML_5, List.forall_mem_cons.mpr ⟨am_ML_6, List.forall_mem_cons.mpr ⟨am_ML_7, List.forall_mem_cons.mpr ⟨am_ML_8, List.forall_mem_cons.mpr ⟨am_ML_9, List.forall_mem_cons.mpr ⟨am_ML_10, List.forall_mem_cons.mpr ⟨am_ML_11, List.forall_mem_cons.mpr ⟨am_ML_12, List.forall_mem_cons.mpr ⟨am_ML_13, List.forall_mem_cons.mpr ⟨am_ML_14, List.forall_mem_cons.mpr ⟨am_ML_15, List.forall_mem_cons.mpr ⟨am_ML_16, List.forall_mem_cons.mpr ⟨am_ML_17, List.forall_mem_cons.mpr ⟨am_ML_18, List.forall_mem_cons.mpr ⟨am_ML_19, List.forall_mem_cons.mpr ⟨am_ML_20, List.forall_mem_cons.mpr ⟨am_ML_21, List.forall_mem_cons.mpr ⟨am_ML_22, List.forall_mem_cons.mpr ⟨am_ML_23, List.forall_mem_cons.mpr ⟨am_ML_24, List.forall_mem_cons.mpr ⟨am_ML_25, List.forall_mem_cons.mpr ⟨am_ML_26, List.forall_mem_cons.mpr ⟨am_ML_27, List.forall_mem_cons.mpr ⟨am_ML_28, List.forall_mem_cons.mpr ⟨am_ML_29, List.forall_mem_cons.mpr ⟨am_ML_30, List.forall_mem_cons.mpr ⟨am_ML_31, List.forall_mem_cons.mpr ⟨am_ML_32, List.forall_mem_cons.mpr ⟨am_ML_33, List.forall_mem_cons.mpr ⟨am_ML_34, List.forall_mem_cons.mpr ⟨am_ML_35, List.forall_mem_cons.mpr ⟨am_ML_36, List.forall_mem_cons.mpr ⟨am_ML_37, List.forall_mem_cons.mpr ⟨am_ML_38, List.forall_mem_cons.mpr ⟨am_ML_39, List.forall_mem_cons.mpr ⟨am_ML_40, List.forall_mem_cons.mpr ⟨am_ML_41, List.forall_mem_cons.mpr ⟨am_ML_42, List.forall_mem_cons.mpr ⟨am_ML_43, List.forall_mem_cons.mpr ⟨am_ML_44, List.forall_mem_cons.mpr ⟨am_ML_45, List.forall_mem_cons.mpr ⟨am_ML_46, List.forall_mem_cons.mpr ⟨am_ML_47, List.forall_mem_cons.mpr ⟨am_ML_48, List.forall_mem_cons.mpr ⟨am_ML_49, List.forall_mem_cons.mpr ⟨am_ML_50, List.forall_mem_cons.mpr ⟨am_ML_51, List.forall_mem_cons.mpr ⟨am_ML_52, List.forall_mem_cons.mpr ⟨am_ML_53, List.forall_mem_cons.mpr ⟨am_ML_54, List.forall_mem_cons.mpr ⟨am_ML_55, List.forall_mem_cons.mpr ⟨am_ML_56, List.forall_mem_cons.mpr ⟨am_ML_57, List.forall_mem_cons.mpr ⟨am_ML_58, List.forall_mem_cons.mpr ⟨am_ML_59, List.forall_mem_cons.mpr ⟨am_ML_60, List.forall_mem_cons.mpr ⟨am_ML_61, List.forall_mem_cons.mpr ⟨am_ML_62, List.forall_mem_cons.mpr ⟨am_ML_63, List.forall_mem_cons.mpr ⟨am_ML_64, List.forall_mem_cons.mpr ⟨am_ML_65, List.forall_mem_cons.mpr ⟨am_ML_66, List.forall_mem_cons.mpr ⟨am_ML_67, List.forall_mem_cons.mpr ⟨am_ML_68, List.forall_mem_cons.mpr ⟨am_ML_69, List.forall_mem_cons.mpr ⟨am_ML_70, List.forall_mem_cons.mpr ⟨am_ML_71, List.forall_mem_cons.mpr ⟨am_ML_72, List.forall_mem_cons.mpr ⟨am_ML_73, List.forall_mem_cons.mpr ⟨am_ML_74, List.forall_mem_cons.mpr ⟨am_ML_75, List.forall_mem_cons.mpr ⟨am_ML_76, List.forall_mem_cons.mpr ⟨am_ML_77, List.forall_mem_cons.mpr ⟨am_ML_78, List.forall_mem_cons.mpr ⟨am_ML_79, List.forall_mem_cons.mpr ⟨am_ML_80, List.forall_mem_cons.mpr ⟨am_ML_81, List.forall_mem_cons.mpr ⟨am_ML_82, List.forall_mem_cons.mpr ⟨am_ML_83, List.forall_mem_cons.mpr ⟨am_ML_84, List.forall_mem_cons.mpr ⟨am_ML_85, List.forall_mem_cons.mpr ⟨am_ML_86, List.forall_mem_cons.mpr ⟨am_ML_87, List.forall_mem_cons.mpr ⟨am_ML_88, List.forall_mem_cons.mpr ⟨am_ML_89, List.forall_mem_cons.mpr ⟨am_ML_90, List.forall_mem_cons.mpr ⟨am_ML_91, List.forall_mem_cons.mpr ⟨am_ML_92, List.forall_mem_cons.mpr ⟨am_ML_93, List.forall_mem_cons.mpr ⟨am_ML_94, List.forall_mem_cons.mpr ⟨am_ML_95, List.forall_mem_cons.mpr ⟨am_ML_96, List.forall_mem_cons.mpr ⟨am_ML_97, List.forall_mem_cons.mpr ⟨am_ML_98, List.forall_mem_cons.mpr ⟨am_ML_99, List.forall_mem_cons.mpr ⟨am_ML_100, List.forall_mem_cons.mpr ⟨am_ML_101, List.forall_mem_cons.mpr ⟨am_ML_102, List.forall_mem_cons.mpr ⟨am_ML_103, List.forall_mem_cons.mpr ⟨am_ML_104, List.forall_mem_cons.mpr ⟨am_ML_105, List.forall_mem_cons.mpr ⟨am_ML_106, List.forall_mem_cons.mpr ⟨am_ML_107, List.forall_mem_cons.mpr ⟨am_ML_108, List.forall_mem_cons.mpr ⟨am_ML_109, List.forall_mem_cons.mpr ⟨am_ML_110, List.forall_mem_cons.mpr ⟨am_ML_111, List.forall_mem_cons.mpr ⟨am_ML_112, List.forall_mem_cons.mpr ⟨am_ML_113, List.forall_mem_cons.mpr ⟨am_ML_114, List.forall_mem_cons.mpr ⟨am_ML_115, List.forall_mem_cons.mpr ⟨am_ML_116, List.forall_mem_cons.mpr ⟨am_ML_117, List.forall_mem_cons.mpr ⟨am_ML_118, List.forall_mem_cons.mpr ⟨am_ML_119, List.forall_mem_cons.mpr ⟨am_ML_120, List.forall_mem_cons.mpr ⟨am_ML_121, List.forall_mem_cons.mpr ⟨am_ML_122, List.forall_mem_cons.mpr ⟨am_ML_123, List.forall_mem_cons.mpr ⟨am_ML_124, List.forall_mem_cons.mpr ⟨am_ML_125, List.forall_mem_cons.mpr ⟨am_ML_126, List.forall_mem_cons.mpr ⟨am_ML_127, List.forall_mem_cons.mpr ⟨am_ML_128, List.forall_mem_cons.mpr ⟨am_ML_129, List.forall_mem_cons.mpr ⟨am_ML_130, List.forall_mem_cons.mpr ⟨am_ML_131, List.forall_mem_cons.mpr ⟨am_ML_132, List.forall_mem_cons.mpr ⟨am_ML_133, List.forall_mem_cons.mpr ⟨am_ML_134, List.forall_mem_cons.mpr ⟨am_ML_135, List.forall_mem_cons.mpr ⟨am_ML_136, List.forall_mem_cons.mpr ⟨am_ML_137, List.forall_mem_cons.mpr ⟨am_ML_138, List.forall_mem_cons.mpr ⟨am_ML_139, List.forall_mem_cons.mpr ⟨am_ML_140, List.forall_mem_cons.mpr ⟨am_ML_141, List.forall_mem_cons.mpr ⟨am_ML_142, List.forall_mem_cons.mpr ⟨am_ML_143, List.forall_mem_cons.mpr ⟨am_ML_144, List.forall_mem_cons.mpr ⟨am_ML_145, List.forall_mem_cons.mpr ⟨am_ML_146, List.forall_mem_cons.mpr ⟨am_ML_147, List.forall_mem_cons.mpr ⟨am_ML_148, List.forall_mem_cons.mpr ⟨am_ML_149, List.forall_mem_cons.mpr ⟨am_ML_150, List.forall_mem_cons.mpr ⟨am_ML_151, List.forall_mem_cons.mpr ⟨am_ML_152, List.forall_mem_cons.mpr ⟨am_ML_153, List.forall_mem_cons.mpr ⟨am_ML_154, List.forall_mem_cons.mpr ⟨am_ML_155, List.forall_mem_cons.mpr ⟨am_ML_156, List.forall_mem_cons.mpr ⟨am_ML_157, List.forall_mem_cons.mpr ⟨am_ML_158, List.forall_mem_cons.mpr ⟨am_ML_159, List.forall_mem_cons.mpr ⟨am_ML_160, List.forall_mem_cons.mpr ⟨am_ML_161, List.forall_mem_cons.mpr ⟨am_ML_162, List.forall_mem_cons.mpr ⟨am_ML_163, List.forall_mem_cons.mpr ⟨am_ML_164, List.forall_mem_cons.mpr ⟨am_ML_165, List.forall_mem_cons.mpr ⟨am_ML_166, List.forall_mem_cons.mpr ⟨am_ML_167, List.forall_mem_cons.mpr ⟨am_ML_168, List.forall_mem_cons.mpr ⟨am_ML_169, List.forall_mem_cons.mpr ⟨am_ML_170, List.forall_mem_cons.mpr ⟨am_ML_171, List.forall_mem_cons.mpr ⟨am_ML_172, List.forall_mem_cons.mpr ⟨am_ML_173, List.forall_mem_cons.mpr ⟨am_ML_174, List.forall_mem_cons.mpr ⟨am_ML_175, List.forall_mem_cons.mpr ⟨am_ML_176, List.forall_mem_cons.mpr ⟨am_ML_177, List.forall_mem_cons.mpr ⟨am_ML_178, List.forall_mem_cons.mpr ⟨am_ML_179, List.forall_mem_cons.mpr ⟨am_ML_180, List.forall_mem_cons.mpr ⟨am_ML_181, List.forall_mem_cons.mpr ⟨am_ML_182, List.forall_mem_cons.mpr ⟨am_ML_183, List.forall_mem_cons.mpr ⟨am_ML_184, List.forall_mem_cons.mpr ⟨am_ML_185, List.forall_mem_cons.mpr ⟨am_ML_186, fun _ h => absurd h List.not_mem_nil⟩⟩⟩⟩⟩⟩⟩⟩⟩⟩⟩⟩⟩⟩⟩⟩⟩⟩⟩⟩⟩⟩⟩⟩⟩⟩⟩⟩⟩⟩⟩⟩⟩⟩⟩⟩⟩⟩⟩⟩⟩⟩⟩⟩⟩⟩⟩⟩⟩⟩⟩⟩⟩⟩⟩⟩⟩⟩⟩⟩⟩⟩⟩⟩⟩⟩⟩⟩⟩⟩⟩⟩⟩⟩⟩⟩⟩⟩⟩⟩⟩⟩⟩⟩⟩⟩⟩⟩⟩⟩⟩⟩⟩⟩⟩⟩⟩⟩⟩⟩⟩⟩⟩⟩⟩⟩⟩⟩⟩⟩⟩⟩⟩⟩⟩⟩⟩⟩⟩⟩⟩⟩⟩⟩⟩⟩⟩⟩⟩⟩⟩⟩⟩⟩⟩⟩⟩⟩⟩⟩⟩⟩⟩⟩⟩⟩⟩⟩⟩⟩⟩⟩⟩⟩⟩⟩⟩⟩⟩⟩⟩⟩⟩⟩⟩⟩⟩⟩⟩⟩⟩⟩⟩⟩⟩⟩⟩⟩⟩⟩⟩⟩⟩⟩⟩⟩⟩
def am_OI_p (q : Nat × Nat) : Prop := Cond.methodLink (am_on q.1) q.2 Lib.objectInit ∈ am_T
def am_OI : List (Nat × Nat) := [(8, 1), (0, 3), (1, 1), (2, 3), (3, 1), (4, 3), (5, 3), (6, 1), (9, 1), (13, 1)]
theorem am_OI_0 : am_OI_p (8, 1) := tm 84 (by decide +kernel)
theorem am_OI_1 : am_OI_p (0, 3) := tm 243 (by decide +kernel)
theorem am_OI_2 : am_OI_p (1, 1) := tm 120 (by decide +kernel)
theorem am_OI_3 : am_OI_p (2, 3) := tm 259 (by decide +kernel)
theorem am_OI_4 : am_OI_p (3, 1) := tm 521 (by decide +kernel)
theorem am_OI_5 : am_OI_p (4, 3) := tm 183 (by decide +kernel)
theorem am_OI_6 : am_OI_p (5, 3) := tm 145 (by decide +kernel)
theorem am_OI_7 : am_OI_p (6, 1) := tm 92 (by decide +kernel)
theorem am_OI_8 : am_OI_p (9, 1) := tm 825 (by decide +kernel)
theorem am_OI_9 : am_OI_p (13, 1) := tm 195 (by decide +kernel)
set_option maxRecDepth 20000 in
theorem am_OI_ok : ∀ q ∈ am_OI, am_OI_p q := List.forall_mem_cons.mpr ⟨am_OI_0, List.forall_mem_cons.mpr ⟨am_OI_1, List.forall_mem_cons.mpr ⟨am_OI_2, List.forall_mem_cons.mpr ⟨am_OI_3, List.forall_mem_cons.mpr ⟨am_OI_4, List.forall_mem_cons.mpr ⟨am_OI_5, List.forall_mem_cons.mpr ⟨am_OI_6, List.forall_mem_cons.mpr ⟨am_OI_7, List.forall_mem_cons.mpr ⟨am_OI_8, List.forall_mem_cons.mpr ⟨am_OI_9, fun _ h => absurd h List.not_mem_nil⟩⟩⟩⟩⟩⟩⟩⟩⟩⟩
def am_GC_p (q : Nat × Nat) : Prop := Cond.methodLink (am_on q.1) q.2 ⟨"java/lang/Object", "getClass", "()Ljava/lang/Class;"⟩ ∈ am_T
def am_GC : List (Nat × Nat) := [(14, 86)]
theorem am_GC_0 : am_GC_p (14, 86) := tm 572 (by decide +kernel)
set_option maxRecDepth 20000 in
theorem am_GC_ok : ∀ q ∈ am_GC, am_GC_p q := List.forall_mem_cons.mpr ⟨am_GC_0, fun _ h => absurd h List.not_mem_nil⟩
def am_CP_p (q : Nat × Nat) : Prop := Cond.methodLink (am_on q.1) q.2 arraycopyName ∈ am_T
def am_CP : List (Nat × Nat) := [(14, 150)]
theorem am_CP_0 : am_CP_p (14, 150) := tm 442 (by decide +kernel)
set_option maxRecDepth 20000 in
theorem am_CP_ok : ∀ q ∈ am_CP, am_CP_p q := List.forall_mem_cons.mpr ⟨am_CP_0, fun _ h => absurd h List.not_mem_nil⟩
def am_MX_p (q : Nat × Nat) : Prop := Cond.methodLink (am_on q.1) q.2 Lib.Math.max.name ∈ am_T
def am_MX : List (Nat × Nat) := [(11, 79), (16, 194)]
theorem am_MX_0 : am_MX_p (11, 79) := tm 593 (by decide +kernel)
theorem am_MX_1 : am_MX_p (16, 194) := tm 562 (by decide +kernel)
set_option maxRecDepth 20000 in
theorem am_MX_ok : ∀ q ∈ am_MX, am_MX_p q := List.forall_mem_cons.mpr ⟨am_MX_0, List.forall_mem_cons.mpr ⟨am_MX_1, fun _ h => absurd h List.not_mem_nil⟩⟩
def am_MN_p (q : Nat × Nat) : Prop := Cond.methodLink (am_on q.1) q.2 Lib.Math.min.name ∈ am_T
def am_MN : List (Nat × Nat) := [(2, 76), (4, 116), (5, 74), (14, 304)]
theorem am_MN_0 : am_MN_p (2, 76) := tm 751 (by decide +kernel)
theorem am_MN_1 : am_MN_p (4, 116) := tm 631 (by decide +kernel)
theorem am_MN_2 : am_MN_p (5, 74) := tm 457 (by decide +kernel)
theorem am_MN_3 : am_MN_p (14, 304) := tm 439 (by decide +kernel)
set_option maxRecDepth 20000 in
theorem am_MN_ok : ∀ q ∈ am_MN, am_MN_p q := List.forall_mem_cons.mpr ⟨am_MN_0, List.forall_mem_cons.mpr ⟨am_MN_1, List.forall_mem_cons.mpr ⟨am_MN_2, List.forall_mem_cons.mpr ⟨am_MN_3, fun _ h => absurd h List.not_mem_nil⟩⟩⟩⟩
theorem am_w_obj : Cond.instanceMethod Lib.objectInit ∈ am_T ∧ Cond.code Lib.objectInit ⟨#[0xb1]⟩ 1 none ∈ am_T := ⟨tm 85 (by decide +kernel), tm 86 (by decide +kernel)⟩
theorem am_w_gc : Cond.declares ⟨"java/lang/Object", "getClass", "()Ljava/lang/Class;"⟩ ∈ lw_tbl ∧ Cond.selects "[Ljava/lang/Object;" ⟨"java/lang/Object", "getClass", "()Ljava/lang/Class;"⟩ ⟨"java/lang/Object", "getClass", "()Ljava/lang/Class;"⟩ ∈ am_T ∧ Cond.instanceMethod ⟨"java/lang/Object", "getClass", "()Ljava/lang/Class;"⟩ ∈ am_T ∧ Cond.native ⟨"java/lang/Object", "getClass", "()Ljava/lang/Class;"⟩ ∈ am_T := ⟨tn 1140 (by decide +kernel), tm 1139 (by decide +kernel), tm 573 (by decide +kernel), tm 586 (by decide +kernel)⟩
theorem am_w_cp : Cond.native arraycopyName ∈ am_T ∧ Cond.static arraycopyName ∈ am_T ∧ Cond.initialized "java/lang/System" ∈ am_T := ⟨tm 444 (by decide +kernel), tm 443 (by decide +kernel), tm 72 (by decide +kernel)⟩
theorem am_w_max : Cond.static Lib.Math.max.name ∈ am_T ∧ Cond.initialized "java/lang/Math" ∈ am_T ∧ Cond.code Lib.Math.max.name Lib.Math.max.code 2 (some .int) ∈ am_T := ⟨tm 563 (by decide +kernel), tm 71 (by decide +kernel), tm 564 (by decide +kernel)⟩
theorem am_w_min : Cond.static Lib.Math.min.name ∈ am_T ∧ Cond.initialized "java/lang/Math" ∈ am_T ∧ Cond.code Lib.Math.min.name Lib.Math.min.code 2 (some .int) ∈ am_T := ⟨tm 440 (by decide +kernel), tm 71 (by decide +kernel), tm 441 (by decide +kernel)⟩
theorem am_ls_DEFA : Cond.laysStatic "java/util/ArrayList" "DEFAULTCAPACITY_EMPTY_ELEMENTDATA" "[Ljava/lang/Object;" ∈ lw_tbl := tn 197 (by decide +kernel)
theorem am_ls_WORD : Cond.laysStatic "TextIndices$Kind" "WORD" "LTextIndices$Kind;" ∈ lw_tbl := tn 608 (by decide +kernel)
theorem am_ls_BEGI : Cond.laysStatic "TextIndices$Kind" "BEGINNING" "LTextIndices$Kind;" ∈ lw_tbl := tn 606 (by decide +kernel)
theorem am_ls_PHRA : Cond.laysStatic "TextIndices$Kind" "PHRASE" "LTextIndices$Kind;" ∈ lw_tbl := tn 517 (by decide +kernel)
theorem am_ini_Kind : Cond.initialized "TextIndices$Kind" ∈ am_T := tm 75 (by decide +kernel)
