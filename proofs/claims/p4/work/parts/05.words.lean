/-! names of the methods, and the words that their calls and fields need: printed by wip/gen/gen_all.py -/
def y_Q_new : MethodName := ⟨"QuotaLaws", "<init>", "()V"⟩
def y_Reader_new : MethodName := ⟨"QuotaLaws$Reader", "<init>", "()V"⟩
def y_Realm_new : MethodName := ⟨"QuotaLaws$Realm", "<init>", "()V"⟩
def y_Sightings_new : MethodName := ⟨"QuotaLaws$Sightings", "<init>", "()V"⟩
def y_Planner_new : MethodName := ⟨"QuotaLaws$Planner", "<init>", "()V"⟩
def y_Tables_new : MethodName := ⟨"QuotaLaws$Tables", "<init>", "()V"⟩
def y_Odds_new : MethodName := ⟨"QuotaLaws$Odds", "<init>", "()V"⟩
def y_Sheet_new : MethodName := ⟨"QuotaLaws$Sheet", "<init>", "()V"⟩
def y_Q_feed : MethodName := ⟨"QuotaLaws", "feed", "(I)I"⟩
def y_Q_isWithin : MethodName := ⟨"QuotaLaws", "isWithin", "(III)Z"⟩
def y_Reader_append : MethodName := ⟨"QuotaLaws$Reader", "append", "(I)Z"⟩
def y_Q_end : MethodName := ⟨"QuotaLaws", "end", "(I)I"⟩
def y_Q_text : MethodName := ⟨"QuotaLaws", "text", "()I"⟩
def y_Reader_readInto : MethodName := ⟨"QuotaLaws$Reader", "readInto", "(LQuotaLaws$Realm;)Z"⟩
def y_Realm_empty : MethodName := ⟨"QuotaLaws$Realm", "empty", "()V"⟩
def y_Arrays_fillI : MethodName := ⟨"java/util/Arrays", "fill", "([II)V"⟩
def y_Reader_takeToken : MethodName := ⟨"QuotaLaws$Reader", "takeToken", "()Z"⟩
def y_Reader_passRun : MethodName := ⟨"QuotaLaws$Reader", "passRun", "(II)V"⟩
def y_Reader_kindHere : MethodName := ⟨"QuotaLaws$Reader", "kindHere", "()I"⟩
def y_Reader_valueOfRun : MethodName := ⟨"QuotaLaws$Reader", "valueOfRun", "()I"⟩
def y_Reader_fail : MethodName := ⟨"QuotaLaws$Reader", "fail", "(II)Z"⟩
def y_Reader_takeLine : MethodName := ⟨"QuotaLaws$Reader", "takeLine", "(LQuotaLaws$Realm;)Z"⟩
def y_Reader_isWord : MethodName := ⟨"QuotaLaws$Reader", "isWord", "(Ljava/lang/String;)Z"⟩
def y_String_length : MethodName := ⟨"java/lang/String", "length", "()I"⟩
def y_String_coder : MethodName := ⟨"java/lang/String", "coder", "()B"⟩
def y_String_charAt : MethodName := ⟨"java/lang/String", "charAt", "(I)C"⟩
def y_String_isLatin1 : MethodName := ⟨"java/lang/String", "isLatin1", "()Z"⟩
def y_StringLatin1_charAt : MethodName := ⟨"java/lang/StringLatin1", "charAt", "([BI)C"⟩
def y_String_checkIndex : MethodName := ⟨"java/lang/String", "checkIndex", "(II)V"⟩
def y_Preconditions_checkIndex : MethodName := ⟨"jdk/internal/util/Preconditions", "checkIndex", "(IILjava/util/function/BiFunction;)I"⟩
def y_StringUTF16_charAt : MethodName := ⟨"java/lang/StringUTF16", "charAt", "([BI)C"⟩
def y_StringUTF16_checkIndex : MethodName := ⟨"java/lang/StringUTF16", "checkIndex", "(I[B)V"⟩
def y_StringUTF16_length : MethodName := ⟨"java/lang/StringUTF16", "length", "([B)I"⟩
def y_StringUTF16_getChar : MethodName := ⟨"java/lang/StringUTF16", "getChar", "([BI)C"⟩
def y_Reader_takeLaw : MethodName := ⟨"QuotaLaws$Reader", "takeLaw", "(LQuotaLaws$Realm;I)Z"⟩
def y_Reader_takeNumber : MethodName := ⟨"QuotaLaws$Reader", "takeNumber", "(II)Z"⟩
def y_Reader_isBounded : MethodName := ⟨"QuotaLaws$Reader", "isBounded", "(II)Z"⟩
def y_Reader_putInto : MethodName := ⟨"QuotaLaws$Reader", "putInto", "([II)Z"⟩
def y_Reader_takeCarried : MethodName := ⟨"QuotaLaws$Reader", "takeCarried", "(LQuotaLaws$Realm;I)Z"⟩
def y_Reader_isStop : MethodName := ⟨"QuotaLaws$Reader", "isStop", "()Z"⟩
def y_Reader_takeOne : MethodName := ⟨"QuotaLaws$Reader", "takeOne", "(LQuotaLaws$Realm;I)Z"⟩
def y_Reader_addLaw : MethodName := ⟨"QuotaLaws$Reader", "addLaw", "([II)Z"⟩
def y_Q_hasBit : MethodName := ⟨"QuotaLaws", "hasBit", "(II)Z"⟩
def y_Reader_takeWant : MethodName := ⟨"QuotaLaws$Reader", "takeWant", "(LQuotaLaws$Realm;)Z"⟩
def y_Reader_takeWatch : MethodName := ⟨"QuotaLaws$Reader", "takeWatch", "(LQuotaLaws$Realm;)Z"⟩
def y_Reader_allThere : MethodName := ⟨"QuotaLaws$Reader", "allThere", "(LQuotaLaws$Realm;)Z"⟩
def y_Q_isPart : MethodName := ⟨"QuotaLaws", "isPart", "(II)Z"⟩
def y_Realm_hasLaw : MethodName := ⟨"QuotaLaws$Realm", "hasLaw", "(I)Z"⟩
def y_Realm_hasOne : MethodName := ⟨"QuotaLaws$Realm", "hasOne", "(I)Z"⟩
def y_Realm_copyFrom : MethodName := ⟨"QuotaLaws$Realm", "copyFrom", "(LQuotaLaws$Realm;)V"⟩
def y_Sightings_copyFrom : MethodName := ⟨"QuotaLaws$Sightings", "copyFrom", "(LQuotaLaws$Sightings;)V"⟩
def y_Q_fault : MethodName := ⟨"QuotaLaws", "fault", "()I"⟩
def y_Q_rule : MethodName := ⟨"QuotaLaws", "rule", "(I)I"⟩
def y_Q_law : MethodName := ⟨"QuotaLaws", "law", "(II)I"⟩
def y_Realm_needOf : MethodName := ⟨"QuotaLaws$Realm", "needOf", "(I)I"⟩
def y_Realm_brokenBy : MethodName := ⟨"QuotaLaws$Realm", "brokenBy", "(II)I"⟩
def y_Realm_chainOf : MethodName := ⟨"QuotaLaws$Realm", "chainOf", "(I)I"⟩
def y_Q_one : MethodName := ⟨"QuotaLaws", "one", "(II)I"⟩
def y_Realm_brokenByOne : MethodName := ⟨"QuotaLaws$Realm", "brokenByOne", "(I)I"⟩
def y_Realm_breakable : MethodName := ⟨"QuotaLaws$Realm", "breakable", "(I)I"⟩
def y_Realm_ableAlone : MethodName := ⟨"QuotaLaws$Realm", "ableAlone", "(II)I"⟩
def y_Realm_roomOf : MethodName := ⟨"QuotaLaws$Realm", "roomOf", "(II)I"⟩
def y_Realm_timeLeft : MethodName := ⟨"QuotaLaws$Realm", "timeLeft", "(I)I"⟩
def y_Q_broken : MethodName := ⟨"QuotaLaws", "broken", "(II)I"⟩
def y_Realm_hasBoth : MethodName := ⟨"QuotaLaws$Realm", "hasBoth", "(II)Z"⟩
def y_Q_quota : MethodName := ⟨"QuotaLaws", "quota", "(II)I"⟩
def y_Q_carry : MethodName := ⟨"QuotaLaws", "carry", "(II)I"⟩
def y_Q_watch : MethodName := ⟨"QuotaLaws", "watch", "(IZ)I"⟩
def y_Q_bitOf : MethodName := ⟨"QuotaLaws", "bitOf", "(II)I"⟩
def y_Q_withBit : MethodName := ⟨"QuotaLaws", "withBit", "(IIZ)I"⟩
def y_Q_time : MethodName := ⟨"QuotaLaws", "time", "(II)I"⟩
def y_Q_refuse : MethodName := ⟨"QuotaLaws", "refuse", "(IIZ)I"⟩
def y_Q_want : MethodName := ⟨"QuotaLaws", "want", "(IIZ)I"⟩
def y_Q_fund : MethodName := ⟨"QuotaLaws", "fund", "(II)I"⟩
def y_Q_revive : MethodName := ⟨"QuotaLaws", "revive", "(I)I"⟩
def y_Integer_bitCount : MethodName := ⟨"java/lang/Integer", "bitCount", "(I)I"⟩
def y_Q_breaks : MethodName := ⟨"QuotaLaws", "breaks", "(II)I"⟩
def y_Realm_breakOnce : MethodName := ⟨"QuotaLaws$Realm", "breakOnce", "(II)I"⟩
def y_Realm_mark : MethodName := ⟨"QuotaLaws$Realm", "mark", "(II)I"⟩
def y_Q_year : MethodName := ⟨"QuotaLaws", "year", "()I"⟩
def y_Realm_endYear : MethodName := ⟨"QuotaLaws$Realm", "endYear", "()I"⟩
def y_Realm_lapsing : MethodName := ⟨"QuotaLaws$Realm", "lapsing", "()I"⟩
def y_Q_falls : MethodName := ⟨"QuotaLaws", "falls", "()I"⟩
def y_Q_most : MethodName := ⟨"QuotaLaws", "most", "(I)I"⟩
def y_Q_rota : MethodName := ⟨"QuotaLaws", "rota", "(I)I"⟩
def y_Planner_load : MethodName := ⟨"QuotaLaws$Planner", "load", "(LQuotaLaws$Realm;)V"⟩
def y_Planner_leastHarm : MethodName := ⟨"QuotaLaws$Planner", "leastHarm", "()I"⟩
def y_Planner_leftToLast : MethodName := ⟨"QuotaLaws$Planner", "leftToLast", "(III)I"⟩
def y_Planner_stateOf : MethodName := ⟨"QuotaLaws$Planner", "stateOf", "(III)I"⟩
def y_Planner_search : MethodName := ⟨"QuotaLaws$Planner", "search", "(III)I"⟩
def y_Planner_timesInFirst : MethodName := ⟨"QuotaLaws$Planner", "timesInFirst", "(II)I"⟩
def y_Q_more : MethodName := ⟨"QuotaLaws", "more", "(I)I"⟩
def y_Planner_grant : MethodName := ⟨"QuotaLaws$Planner", "grant", "(II)V"⟩
def y_Planner_canMeet : MethodName := ⟨"QuotaLaws$Planner", "canMeet", "(I)Z"⟩
def y_Planner_needOfAll : MethodName := ⟨"QuotaLaws$Planner", "needOfAll", "(I)I"⟩
def y_Planner_givenTo : MethodName := ⟨"QuotaLaws$Planner", "givenTo", "(I)I"⟩
def y_Q_together : MethodName := ⟨"QuotaLaws", "together", "(I)I"⟩
def y_Q_kill : MethodName := ⟨"QuotaLaws", "kill", "(II)I"⟩
def y_Realm_ableWithout : MethodName := ⟨"QuotaLaws$Realm", "ableWithout", "(II)I"⟩
def y_Q_selfish : MethodName := ⟨"QuotaLaws", "selfish", "(I)I"⟩
def y_Realm_eachForHimself : MethodName := ⟨"QuotaLaws$Realm", "eachForHimself", "()I"⟩
def y_Realm_mostNeeded : MethodName := ⟨"QuotaLaws$Realm", "mostNeeded", "(I)I"⟩
def y_Realm_met : MethodName := ⟨"QuotaLaws$Realm", "met", "()I"⟩
def y_Q_luck : MethodName := ⟨"QuotaLaws", "luck", "(II)J"⟩
def y_Odds_weigh : MethodName := ⟨"QuotaLaws$Odds", "weigh", "(LQuotaLaws$Realm;I)V"⟩
def y_Arrays_fillJ : MethodName := ⟨"java/util/Arrays", "fill", "([JJ)V"⟩
def y_Odds_addTry : MethodName := ⟨"QuotaLaws$Odds", "addTry", "(I)V"⟩
def y_Odds_reduce : MethodName := ⟨"QuotaLaws$Odds", "reduce", "()V"⟩
def y_Q_see : MethodName := ⟨"QuotaLaws", "see", "(III)I"⟩
def y_Sightings_append : MethodName := ⟨"QuotaLaws$Sightings", "append", "(III)Z"⟩
def y_Q_forget : MethodName := ⟨"QuotaLaws", "forget", "(I)I"⟩
def y_Q_books : MethodName := ⟨"QuotaLaws", "books", "()J"⟩
def y_Tables_load : MethodName := ⟨"QuotaLaws$Tables", "load", "(LQuotaLaws$Realm;)V"⟩
def y_Sightings_sumDue : MethodName := ⟨"QuotaLaws$Sightings", "sumDue", "(II)I"⟩
def y_Tables_fitting : MethodName := ⟨"QuotaLaws$Tables", "fitting", "()J"⟩
def y_Tables_spendAlone : MethodName := ⟨"QuotaLaws$Tables", "spendAlone", "(II)V"⟩
def y_Tables_joinAll : MethodName := ⟨"QuotaLaws$Tables", "joinAll", "()V"⟩
def y_Tables_stateOf : MethodName := ⟨"QuotaLaws$Tables", "stateOf", "(III)I"⟩
def y_Tables_spendTogether : MethodName := ⟨"QuotaLaws$Tables", "spendTogether", "(I)V"⟩
def y_Tables_waysTo : MethodName := ⟨"QuotaLaws$Tables", "waysTo", "(IIII)J"⟩
def y_Tables_sumOfDue : MethodName := ⟨"QuotaLaws$Tables", "sumOfDue", "()J"⟩
def y_Tables_isDueOf : MethodName := ⟨"QuotaLaws$Tables", "isDueOf", "(II)Z"⟩
def y_Q_entry : MethodName := ⟨"QuotaLaws", "entry", "(III)I"⟩
def y_Tables_firstThatFits : MethodName := ⟨"QuotaLaws$Tables", "firstThatFits", "(IIZ)I"⟩
def y_Q_wild : MethodName := ⟨"QuotaLaws", "wild", "(III)I"⟩
def y_Realm_breakBySeed : MethodName := ⟨"QuotaLaws$Realm", "breakBySeed", "(II)I"⟩
def y_Realm_nextSeed : MethodName := ⟨"QuotaLaws$Realm", "nextSeed", "(I)I"⟩
def y_Realm_drawn : MethodName := ⟨"QuotaLaws$Realm", "drawn", "(I)I"⟩
def y_Q_keep : MethodName := ⟨"QuotaLaws", "keep", "(I)I"⟩
def y_Q_back : MethodName := ⟨"QuotaLaws", "back", "(I)I"⟩
def y_Q_sheet : MethodName := ⟨"QuotaLaws", "sheet", "(III)I"⟩
def y_Sheet_renew : MethodName := ⟨"QuotaLaws$Sheet", "renew", "(II)V"⟩
def y_Q_lay : MethodName := ⟨"QuotaLaws", "lay", "(III)I"⟩
def y_Sheet_faultAt : MethodName := ⟨"QuotaLaws$Sheet", "faultAt", "(J)I"⟩
def y_Sheet_put : MethodName := ⟨"QuotaLaws$Sheet", "put", "(II)V"⟩
def y_Q_read : MethodName := ⟨"QuotaLaws", "read", "(IIII)I"⟩
def y_Sheet_faultAs : MethodName := ⟨"QuotaLaws$Sheet", "faultAs", "(I)I"⟩
def y_Sheet_faultOfPair : MethodName := ⟨"QuotaLaws$Sheet", "faultOfPair", "(J)I"⟩
def y_Sheet_cellAt : MethodName := ⟨"QuotaLaws$Sheet", "cellAt", "(J)I"⟩
def y_Q_torn : MethodName := ⟨"QuotaLaws", "torn", "()I"⟩
def y_Q_count : MethodName := ⟨"QuotaLaws", "count", "(I)I"⟩
def y_Realm_brokenInAll : MethodName := ⟨"QuotaLaws$Realm", "brokenInAll", "()I"⟩
def y_Q_countKept : MethodName := ⟨"QuotaLaws", "countKept", "()I"⟩
def y_Realm_allPurses : MethodName := ⟨"QuotaLaws$Realm", "allPurses", "()I"⟩
def y_Realm_allNeed : MethodName := ⟨"QuotaLaws$Realm", "allNeed", "()I"⟩
def y_M_new : MethodName := ⟨"QuotaLawsModel", "<init>", "()V"⟩
def y_M_firstDraft : MethodName := ⟨"QuotaLawsModel", "firstDraft", "()V"⟩
def y_M_keepDraft : MethodName := ⟨"QuotaLawsModel", "keepDraft", "()V"⟩
def y_M_feed : MethodName := ⟨"QuotaLawsModel", "feed", "(I)I"⟩
def y_M_in : MethodName := ⟨"QuotaLawsModel", "in", "(JJJ)Z"⟩
def y_M_end : MethodName := ⟨"QuotaLawsModel", "end", "(I)I"⟩
def y_M_text : MethodName := ⟨"QuotaLawsModel", "text", "()I"⟩
def y_M_next : MethodName := ⟨"QuotaLawsModel", "next", "()V"⟩
def y_M_look : MethodName := ⟨"QuotaLawsModel", "look", "(I)I"⟩
def y_M_needs : MethodName := ⟨"QuotaLawsModel", "needs", "(ZI)V"⟩
def y_M_readLine : MethodName := ⟨"QuotaLawsModel", "readLine", "()V"⟩
def y_M_lineNow : MethodName := ⟨"QuotaLawsModel", "lineNow", "()I"⟩
def y_M_is : MethodName := ⟨"QuotaLawsModel", "is", "(IIII)Z"⟩
def y_M_readLineOf : MethodName := ⟨"QuotaLawsModel", "readLineOf", "(I)V"⟩
def y_M_readLaw : MethodName := ⟨"QuotaLawsModel", "readLaw", "()V"⟩
def y_M_readNumber : MethodName := ⟨"QuotaLawsModel", "readNumber", "(II)I"⟩
def y_M_looked : MethodName := ⟨"QuotaLawsModel", "looked", "(II)I"⟩
def y_M_readLawOf : MethodName := ⟨"QuotaLawsModel", "readLawOf", "(I)I"⟩
def y_M_readOne : MethodName := ⟨"QuotaLawsModel", "readOne", "()V"⟩
def y_M_fault : MethodName := ⟨"QuotaLawsModel", "fault", "()I"⟩
def y_M_rule : MethodName := ⟨"QuotaLawsModel", "rule", "(I)I"⟩
def y_M_law : MethodName := ⟨"QuotaLawsModel", "law", "(II)I"⟩
def y_M_isLaw : MethodName := ⟨"QuotaLawsModel", "isLaw", "(I)Z"⟩
def y_M_needOf : MethodName := ⟨"QuotaLawsModel", "needOf", "(I)I"⟩
def y_M_doesStand : MethodName := ⟨"QuotaLawsModel", "doesStand", "(I)Z"⟩
def y_M_brokenBy : MethodName := ⟨"QuotaLawsModel", "brokenBy", "(II)I"⟩
def y_M_chainOf : MethodName := ⟨"QuotaLawsModel", "chainOf", "(I)I"⟩
def y_M_one : MethodName := ⟨"QuotaLawsModel", "one", "(II)I"⟩
def y_M_isOne : MethodName := ⟨"QuotaLawsModel", "isOne", "(I)Z"⟩
def y_M_canBreak : MethodName := ⟨"QuotaLawsModel", "canBreak", "(II)Z"⟩
def y_M_roomOf : MethodName := ⟨"QuotaLawsModel", "roomOf", "(II)I"⟩
def y_M_timeLeft : MethodName := ⟨"QuotaLawsModel", "timeLeft", "(I)I"⟩
def y_M_allBy : MethodName := ⟨"QuotaLawsModel", "allBy", "(I)I"⟩
def y_M_flag : MethodName := ⟨"QuotaLawsModel", "flag", "(Z)I"⟩
def y_M_broken : MethodName := ⟨"QuotaLawsModel", "broken", "(II)I"⟩
def y_M_quota : MethodName := ⟨"QuotaLawsModel", "quota", "(II)I"⟩
def y_M_becomes : MethodName := ⟨"QuotaLawsModel", "becomes", "(II)I"⟩
def y_M_carry : MethodName := ⟨"QuotaLawsModel", "carry", "(II)I"⟩
def y_M_watch : MethodName := ⟨"QuotaLawsModel", "watch", "(IZ)I"⟩
def y_M_becomesBit : MethodName := ⟨"QuotaLawsModel", "becomesBit", "(IIZ)I"⟩
def y_M_time : MethodName := ⟨"QuotaLawsModel", "time", "(II)I"⟩
def y_M_refuse : MethodName := ⟨"QuotaLawsModel", "refuse", "(IIZ)I"⟩
def y_M_want : MethodName := ⟨"QuotaLawsModel", "want", "(IIZ)I"⟩
def y_M_fund : MethodName := ⟨"QuotaLawsModel", "fund", "(II)I"⟩
def y_M_revive : MethodName := ⟨"QuotaLawsModel", "revive", "(I)I"⟩
def y_M_bitsOf : MethodName := ⟨"QuotaLawsModel", "bitsOf", "(I)I"⟩
def y_M_breaks : MethodName := ⟨"QuotaLawsModel", "breaks", "(II)I"⟩
def y_M_year : MethodName := ⟨"QuotaLawsModel", "year", "()I"⟩
def y_M_fallsNow : MethodName := ⟨"QuotaLawsModel", "fallsNow", "()I"⟩
def y_M_falls : MethodName := ⟨"QuotaLawsModel", "falls", "()I"⟩
def y_M_most : MethodName := ⟨"QuotaLawsModel", "most", "(I)I"⟩
def y_M_rota : MethodName := ⟨"QuotaLawsModel", "rota", "(I)I"⟩
def y_M_startsRota : MethodName := ⟨"QuotaLawsModel", "startsRota", "(I)V"⟩
def y_M_findRota : MethodName := ⟨"QuotaLawsModel", "findRota", "()I"⟩
def y_M_at : MethodName := ⟨"QuotaLawsModel", "at", "(IIII)I"⟩
def y_M_leastOf : MethodName := ⟨"QuotaLawsModel", "leastOf", "(IIII)I"⟩
def y_M_harmBy : MethodName := ⟨"QuotaLawsModel", "harmBy", "(IIIIIII)I"⟩
def y_M_roomAt : MethodName := ⟨"QuotaLawsModel", "roomAt", "(II)I"⟩
def y_M_sharesOf : MethodName := ⟨"QuotaLawsModel", "sharesOf", "(IIII)V"⟩
def y_M_more : MethodName := ⟨"QuotaLawsModel", "more", "(I)I"⟩
def y_M_together : MethodName := ⟨"QuotaLawsModel", "together", "(I)I"⟩
def y_M_kill : MethodName := ⟨"QuotaLawsModel", "kill", "(II)I"⟩
def y_M_triesOf : MethodName := ⟨"QuotaLawsModel", "triesOf", "(II)I"⟩
def y_M_selfish : MethodName := ⟨"QuotaLawsModel", "selfish", "(I)I"⟩
def y_M_saves : MethodName := ⟨"QuotaLawsModel", "saves", "()V"⟩
def y_M_wantedBy : MethodName := ⟨"QuotaLawsModel", "wantedBy", "(I)I"⟩
def y_M_returns : MethodName := ⟨"QuotaLawsModel", "returns", "()V"⟩
def y_M_luck : MethodName := ⟨"QuotaLawsModel", "luck", "(II)J"⟩
def y_M_common : MethodName := ⟨"QuotaLawsModel", "common", "(JJ)J"⟩
def y_M_see : MethodName := ⟨"QuotaLawsModel", "see", "(III)I"⟩
def y_M_forget : MethodName := ⟨"QuotaLawsModel", "forget", "(I)I"⟩
def y_M_books : MethodName := ⟨"QuotaLawsModel", "books", "()J"⟩
def y_M_tablesBy : MethodName := ⟨"QuotaLawsModel", "tablesBy", "(III)J"⟩
def y_M_addsLaw : MethodName := ⟨"QuotaLawsModel", "addsLaw", "(IIII)V"⟩
def y_M_mostOf : MethodName := ⟨"QuotaLawsModel", "mostOf", "(II)I"⟩
def y_M_isSo : MethodName := ⟨"QuotaLawsModel", "isSo", "(III)Z"⟩
def y_M_isAsked : MethodName := ⟨"QuotaLawsModel", "isAsked", "(IIIIII)Z"⟩
def y_M_addsTables : MethodName := ⟨"QuotaLawsModel", "addsTables", "(III)V"⟩
def y_M_isTime : MethodName := ⟨"QuotaLawsModel", "isTime", "(II)Z"⟩
def y_M_entry : MethodName := ⟨"QuotaLawsModel", "entry", "(III)I"⟩
def y_M_wild : MethodName := ⟨"QuotaLawsModel", "wild", "(III)I"⟩
def y_M_keep : MethodName := ⟨"QuotaLawsModel", "keep", "(I)I"⟩
def y_M_copies : MethodName := ⟨"QuotaLawsModel", "copies", "(II)V"⟩
def y_M_back : MethodName := ⟨"QuotaLawsModel", "back", "(I)I"⟩
def y_M_sheet : MethodName := ⟨"QuotaLawsModel", "sheet", "(III)I"⟩
def y_M_isSheet : MethodName := ⟨"QuotaLawsModel", "isSheet", "(II)Z"⟩
def y_M_lay : MethodName := ⟨"QuotaLawsModel", "lay", "(III)I"⟩
def y_M_read : MethodName := ⟨"QuotaLawsModel", "read", "(IIII)I"⟩
def y_M_torn : MethodName := ⟨"QuotaLawsModel", "torn", "()I"⟩
def y_M_count : MethodName := ⟨"QuotaLawsModel", "count", "(I)I"⟩
def y_QuotaLawsLaw_law : MethodName := ⟨"QuotaLawsLaw", "law", "([I)Z"⟩
theorem wd_1 : (.initialized "QuotaLaws" : Cond) ∈ tbg := tbg_in2 1 (by decide +kernel) rfl
theorem wd_2 : (.initialized "QuotaLaws$Reader" : Cond) ∈ tbg := tbg_in2 2 (by decide +kernel) rfl
theorem wd_3 : (.initialized "QuotaLaws$Realm" : Cond) ∈ tbg := tbg_in2 3 (by decide +kernel) rfl
theorem wd_4 : (.initialized "QuotaLaws$Sightings" : Cond) ∈ tbg := tbg_in2 4 (by decide +kernel) rfl
theorem wd_5 : (.initialized "QuotaLaws$Planner" : Cond) ∈ tbg := tbg_in2 5 (by decide +kernel) rfl
theorem wd_6 : (.initialized "QuotaLaws$Tables" : Cond) ∈ tbg := tbg_in2 6 (by decide +kernel) rfl
theorem wd_7 : (.initialized "QuotaLaws$Odds" : Cond) ∈ tbg := tbg_in2 7 (by decide +kernel) rfl
theorem wd_8 : (.initialized "QuotaLaws$Sheet" : Cond) ∈ tbg := tbg_in2 8 (by decide +kernel) rfl
theorem wd_9 : (.initialized "QuotaLawsModel" : Cond) ∈ tbg := tbg_in2 9 (by decide +kernel) rfl
theorem wd_10 : (.initialized "java/util/Arrays" : Cond) ∈ tbg := tbg_in2 10 (by decide +kernel) rfl
theorem wd_11 : (.initialized "java/lang/String" : Cond) ∈ tbg := tbg_in2 11 (by decide +kernel) rfl
theorem wd_12 : (.initialized "java/lang/StringLatin1" : Cond) ∈ tbg := tbg_in2 12 (by decide +kernel) rfl
theorem wd_13 : (.initialized "jdk/internal/util/Preconditions" : Cond) ∈ tbg := tbg_in2 13 (by decide +kernel) rfl
theorem wd_15 : (.initialized "java/lang/System" : Cond) ∈ tbg := tbg_in2 15 (by decide +kernel) rfl
theorem wd_16 : (.initialized "java/lang/Math" : Cond) ∈ tbg := tbg_in2 16 (by decide +kernel) rfl
theorem wd_17 : (.initialized "java/lang/Integer" : Cond) ∈ tbg := tbg_in2 17 (by decide +kernel) rfl
theorem wd_18 : (.classLink "QuotaLawsLaw" 7 "QuotaLaws" : Cond) ∈ tbg := tbg_in2 18 (by decide +kernel) rfl
theorem wd_19 : (.instantiable "QuotaLaws" 10 : Cond) ∈ tbg := tbg_in2 19 (by decide +kernel) rfl
theorem wd_20 : (.methodLink "QuotaLawsLaw" 9 y_Q_new : Cond) ∈ tbg := tbg_in2 20 (by decide +kernel) rfl
theorem wd_21 : (.instanceMethod y_Q_new : Cond) ∈ tbg := tbg_in2 21 (by decide +kernel) rfl
set_option maxRecDepth 100000 in
theorem wd_22 : (.code y_Q_new prog_1_method_1_code 2 none : Cond) ∈ tbg := tbg_in2 22 rfl rfl
theorem wd_23 : (.methodLink "QuotaLaws" 1 Lib.objectInit : Cond) ∈ tbg := tbg_in2 23 (by decide +kernel) rfl
theorem wd_24 : (.instanceMethod Lib.objectInit : Cond) ∈ tbg := tbg_in2 24 (by decide +kernel) rfl
set_option maxRecDepth 100000 in
theorem wd_25 : (.code Lib.objectInit ⟨#[0xb1]⟩ 1 none : Cond) ∈ tbg := tbg_in2 25 rfl rfl
theorem wd_26 : (.classLink "QuotaLaws" 7 "QuotaLaws$Reader" : Cond) ∈ tbg := tbg_in2 26 (by decide +kernel) rfl
theorem wd_27 : (.instantiable "QuotaLaws$Reader" 9 : Cond) ∈ tbg := tbg_in2 27 (by decide +kernel) rfl
theorem wd_28 : (.methodLinkNest "QuotaLaws" 9 y_Reader_new "QuotaLaws" : Cond) ∈ nests := nests_in2 28 (by decide +kernel) rfl
theorem wd_29 : (.instanceMethod y_Reader_new : Cond) ∈ tbg := tbg_in2 29 (by decide +kernel) rfl
set_option maxRecDepth 100000 in
theorem wd_30 : (.code y_Reader_new prog_4_method_1_code 1 none : Cond) ∈ tbg := tbg_in2 30 rfl rfl
theorem wd_31 : (.methodLink "QuotaLaws$Reader" 3 Lib.objectInit : Cond) ∈ tbg := tbg_in2 31 (by decide +kernel) rfl
theorem wd_32 : (.fieldLink "QuotaLaws$Reader" 9 "QuotaLaws$Reader" "tape" "[B" : Cond) ∈ tbg := tbg_in2 32 (by decide +kernel) rfl
theorem wd_33 : (.fieldLink "QuotaLaws$Reader" 15 "QuotaLaws$Reader" "length" "I" : Cond) ∈ tbg := tbg_in2 33 (by decide +kernel) rfl
theorem wd_34 : (.fieldLink "QuotaLaws" 70 "QuotaLaws$Reader" "length" "I" : Cond) ∈ tbg := tbg_in2 34 (by decide +kernel) rfl
theorem wd_35 : (.fieldLink "QuotaLaws$Reader" 24 "QuotaLaws$Reader" "fault" "I" : Cond) ∈ tbg := tbg_in2 35 (by decide +kernel) rfl
theorem wd_36 : (.fieldLink "QuotaLaws" 88 "QuotaLaws$Reader" "fault" "I" : Cond) ∈ tbg := tbg_in2 36 (by decide +kernel) rfl
theorem wd_37 : (.fieldLink "QuotaLaws$Reader" 27 "QuotaLaws$Reader" "faultPlace" "I" : Cond) ∈ tbg := tbg_in2 37 (by decide +kernel) rfl
theorem wd_38 : (.fieldLink "QuotaLaws" 78 "QuotaLaws$Reader" "faultPlace" "I" : Cond) ∈ tbg := tbg_in2 38 (by decide +kernel) rfl
theorem wd_39 : (.fieldLink "QuotaLaws$Reader" 30 "QuotaLaws$Reader" "lines" "I" : Cond) ∈ tbg := tbg_in2 39 (by decide +kernel) rfl
theorem wd_40 : (.fieldLink "QuotaLaws" 85 "QuotaLaws$Reader" "lines" "I" : Cond) ∈ tbg := tbg_in2 40 (by decide +kernel) rfl
theorem wd_41 : (.fieldLink "QuotaLaws$Reader" 33 "QuotaLaws$Reader" "place" "I" : Cond) ∈ tbg := tbg_in2 41 (by decide +kernel) rfl
theorem wd_42 : (.fieldLink "QuotaLaws$Reader" 40 "QuotaLaws$Reader" "kind" "I" : Cond) ∈ tbg := tbg_in2 42 (by decide +kernel) rfl
theorem wd_43 : (.fieldLink "QuotaLaws$Reader" 85 "QuotaLaws$Reader" "start" "I" : Cond) ∈ tbg := tbg_in2 43 (by decide +kernel) rfl
theorem wd_44 : (.fieldLink "QuotaLaws$Reader" 123 "QuotaLaws$Reader" "value" "I" : Cond) ∈ tbg := tbg_in2 44 (by decide +kernel) rfl
theorem wd_64 : (.arrayClass .byte : Cond) ∈ tbg := tbg_in2 64 (by decide +kernel) rfl
theorem wd_65 : (.classLink "QuotaLaws" 16 "QuotaLaws$Realm" : Cond) ∈ tbg := tbg_in2 65 (by decide +kernel) rfl
theorem wd_66 : (.instantiable "QuotaLaws$Realm" 19 : Cond) ∈ tbg := tbg_in2 66 (by decide +kernel) rfl
theorem wd_67 : (.methodLinkNest "QuotaLaws" 18 y_Realm_new "QuotaLaws" : Cond) ∈ nests := nests_in2 67 (by decide +kernel) rfl
theorem wd_68 : (.instanceMethod y_Realm_new : Cond) ∈ tbg := tbg_in2 68 (by decide +kernel) rfl
set_option maxRecDepth 100000 in
theorem wd_69 : (.code y_Realm_new prog_5_method_1_code 1 none : Cond) ∈ tbg := tbg_in2 69 rfl rfl
theorem wd_70 : (.methodLink "QuotaLaws$Realm" 3 Lib.objectInit : Cond) ∈ tbg := tbg_in2 70 (by decide +kernel) rfl
theorem wd_71 : (.classLink "QuotaLaws$Realm" 48 "QuotaLaws$Sightings" : Cond) ∈ tbg := tbg_in2 71 (by decide +kernel) rfl
theorem wd_72 : (.instantiable "QuotaLaws$Sightings" 4 : Cond) ∈ tbg := tbg_in2 72 (by decide +kernel) rfl
theorem wd_73 : (.methodLinkNest "QuotaLaws$Realm" 50 y_Sightings_new "QuotaLaws" : Cond) ∈ nests := nests_in2 73 (by decide +kernel) rfl
theorem wd_74 : (.instanceMethod y_Sightings_new : Cond) ∈ tbg := tbg_in2 74 (by decide +kernel) rfl
set_option maxRecDepth 100000 in
theorem wd_75 : (.code y_Sightings_new prog_7_method_1_code 1 none : Cond) ∈ tbg := tbg_in2 75 rfl rfl
theorem wd_76 : (.methodLink "QuotaLaws$Sightings" 3 Lib.objectInit : Cond) ∈ tbg := tbg_in2 76 (by decide +kernel) rfl
theorem wd_77 : (.fieldLink "QuotaLaws$Sightings" 21 "QuotaLaws$Sightings" "size" "I" : Cond) ∈ tbg := tbg_in2 77 (by decide +kernel) rfl
theorem wd_78 : (.fieldLink "QuotaLaws$Realm" 74 "QuotaLaws$Sightings" "size" "I" : Cond) ∈ tbg := tbg_in2 78 (by decide +kernel) rfl
theorem wd_79 : (.fieldLink "QuotaLaws" 244 "QuotaLaws$Sightings" "size" "I" : Cond) ∈ tbg := tbg_in2 79 (by decide +kernel) rfl
theorem wd_80 : (.fieldLink "QuotaLaws$Sightings" 9 "QuotaLaws$Sightings" "kinds" "[I" : Cond) ∈ tbg := tbg_in2 80 (by decide +kernel) rfl
theorem wd_81 : (.fieldLink "QuotaLaws$Sightings" 15 "QuotaLaws$Sightings" "whose" "[I" : Cond) ∈ tbg := tbg_in2 81 (by decide +kernel) rfl
theorem wd_82 : (.fieldLink "QuotaLaws$Sightings" 18 "QuotaLaws$Sightings" "times" "[I" : Cond) ∈ tbg := tbg_in2 82 (by decide +kernel) rfl
theorem wd_92 : (.arrayClass .int : Cond) ∈ tbg := tbg_in2 92 (by decide +kernel) rfl
theorem wd_93 : (.fieldLink "QuotaLaws$Realm" 55 "QuotaLaws$Realm" "laws" "I" : Cond) ∈ tbg := tbg_in2 93 (by decide +kernel) rfl
theorem wd_94 : (.fieldLink "QuotaLaws$Planner" 33 "QuotaLaws$Realm" "laws" "I" : Cond) ∈ tbg := tbg_in2 94 (by decide +kernel) rfl
theorem wd_95 : (.fieldLink "QuotaLaws$Tables" 34 "QuotaLaws$Realm" "laws" "I" : Cond) ∈ tbg := tbg_in2 95 (by decide +kernel) rfl
theorem wd_96 : (.fieldLink "QuotaLaws$Reader" 60 "QuotaLaws$Realm" "laws" "I" : Cond) ∈ tbg := tbg_in2 96 (by decide +kernel) rfl
theorem wd_97 : (.fieldLink "QuotaLaws" 91 "QuotaLaws$Realm" "laws" "I" : Cond) ∈ tbg := tbg_in2 97 (by decide +kernel) rfl
theorem wd_98 : (.fieldLink "QuotaLaws$Realm" 59 "QuotaLaws$Realm" "people" "I" : Cond) ∈ tbg := tbg_in2 98 (by decide +kernel) rfl
theorem wd_99 : (.fieldLink "QuotaLaws$Odds" 25 "QuotaLaws$Realm" "people" "I" : Cond) ∈ tbg := tbg_in2 99 (by decide +kernel) rfl
theorem wd_100 : (.fieldLink "QuotaLaws$Planner" 57 "QuotaLaws$Realm" "people" "I" : Cond) ∈ tbg := tbg_in2 100 (by decide +kernel) rfl
theorem wd_101 : (.fieldLink "QuotaLaws$Reader" 69 "QuotaLaws$Realm" "people" "I" : Cond) ∈ tbg := tbg_in2 101 (by decide +kernel) rfl
theorem wd_102 : (.fieldLink "QuotaLaws" 94 "QuotaLaws$Realm" "people" "I" : Cond) ∈ tbg := tbg_in2 102 (by decide +kernel) rfl
theorem wd_103 : (.fieldLink "QuotaLaws$Realm" 62 "QuotaLaws$Realm" "year" "I" : Cond) ∈ tbg := tbg_in2 103 (by decide +kernel) rfl
theorem wd_104 : (.fieldLink "QuotaLaws" 97 "QuotaLaws$Realm" "year" "I" : Cond) ∈ tbg := tbg_in2 104 (by decide +kernel) rfl
theorem wd_105 : (.fieldLink "QuotaLaws$Realm" 65 "QuotaLaws$Realm" "done" "I" : Cond) ∈ tbg := tbg_in2 105 (by decide +kernel) rfl
theorem wd_106 : (.fieldLink "QuotaLaws" 100 "QuotaLaws$Realm" "done" "I" : Cond) ∈ tbg := tbg_in2 106 (by decide +kernel) rfl
theorem wd_107 : (.fieldLink "QuotaLaws$Realm" 68 "QuotaLaws$Realm" "stands" "I" : Cond) ∈ tbg := tbg_in2 107 (by decide +kernel) rfl
theorem wd_108 : (.fieldLink "QuotaLaws$Reader" 92 "QuotaLaws$Realm" "stands" "I" : Cond) ∈ tbg := tbg_in2 108 (by decide +kernel) rfl
theorem wd_109 : (.fieldLink "QuotaLaws" 103 "QuotaLaws$Realm" "stands" "I" : Cond) ∈ tbg := tbg_in2 109 (by decide +kernel) rfl
theorem wd_110 : (.fieldLink "QuotaLaws$Realm" 71 "QuotaLaws$Realm" "watched" "I" : Cond) ∈ tbg := tbg_in2 110 (by decide +kernel) rfl
theorem wd_111 : (.fieldLink "QuotaLaws" 106 "QuotaLaws$Realm" "watched" "I" : Cond) ∈ tbg := tbg_in2 111 (by decide +kernel) rfl
theorem wd_112 : (.fieldLink "QuotaLaws$Reader" 147 "QuotaLaws$Realm" "watched" "I" : Cond) ∈ tbg := tbg_in2 112 (by decide +kernel) rfl
theorem wd_113 : (.fieldLink "QuotaLaws$Realm" 9 "QuotaLaws$Realm" "quota" "[I" : Cond) ∈ tbg := tbg_in2 113 (by decide +kernel) rfl
theorem wd_114 : (.fieldLink "QuotaLaws$Reader" 98 "QuotaLaws$Realm" "quota" "[I" : Cond) ∈ tbg := tbg_in2 114 (by decide +kernel) rfl
theorem wd_115 : (.fieldLink "QuotaLaws" 112 "QuotaLaws$Realm" "quota" "[I" : Cond) ∈ tbg := tbg_in2 115 (by decide +kernel) rfl
theorem wd_116 : (.fieldLink "QuotaLaws$Realm" 15 "QuotaLaws$Realm" "cap" "[I" : Cond) ∈ tbg := tbg_in2 116 (by decide +kernel) rfl
theorem wd_117 : (.fieldLink "QuotaLaws$Tables" 69 "QuotaLaws$Realm" "cap" "[I" : Cond) ∈ tbg := tbg_in2 117 (by decide +kernel) rfl
theorem wd_118 : (.fieldLink "QuotaLaws$Reader" 105 "QuotaLaws$Realm" "cap" "[I" : Cond) ∈ tbg := tbg_in2 118 (by decide +kernel) rfl
theorem wd_119 : (.fieldLink "QuotaLaws" 116 "QuotaLaws$Realm" "cap" "[I" : Cond) ∈ tbg := tbg_in2 119 (by decide +kernel) rfl
theorem wd_120 : (.fieldLink "QuotaLaws$Realm" 18 "QuotaLaws$Realm" "harm" "[I" : Cond) ∈ tbg := tbg_in2 120 (by decide +kernel) rfl
theorem wd_121 : (.fieldLink "QuotaLaws$Planner" 64 "QuotaLaws$Realm" "harm" "[I" : Cond) ∈ tbg := tbg_in2 121 (by decide +kernel) rfl
theorem wd_122 : (.fieldLink "QuotaLaws$Reader" 108 "QuotaLaws$Realm" "harm" "[I" : Cond) ∈ tbg := tbg_in2 122 (by decide +kernel) rfl
theorem wd_123 : (.fieldLink "QuotaLaws" 119 "QuotaLaws$Realm" "harm" "[I" : Cond) ∈ tbg := tbg_in2 123 (by decide +kernel) rfl
theorem wd_124 : (.fieldLink "QuotaLaws$Realm" 21 "QuotaLaws$Realm" "fine" "[I" : Cond) ∈ tbg := tbg_in2 124 (by decide +kernel) rfl
theorem wd_125 : (.fieldLink "QuotaLaws$Reader" 111 "QuotaLaws$Realm" "fine" "[I" : Cond) ∈ tbg := tbg_in2 125 (by decide +kernel) rfl
theorem wd_126 : (.fieldLink "QuotaLaws" 122 "QuotaLaws$Realm" "fine" "[I" : Cond) ∈ tbg := tbg_in2 126 (by decide +kernel) rfl
theorem wd_127 : (.fieldLink "QuotaLaws$Realm" 24 "QuotaLaws$Realm" "carries" "[I" : Cond) ∈ tbg := tbg_in2 127 (by decide +kernel) rfl
theorem wd_128 : (.fieldLink "QuotaLaws$Reader" 88 "QuotaLaws$Realm" "carries" "[I" : Cond) ∈ tbg := tbg_in2 128 (by decide +kernel) rfl
theorem wd_129 : (.fieldLink "QuotaLaws" 125 "QuotaLaws$Realm" "carries" "[I" : Cond) ∈ tbg := tbg_in2 129 (by decide +kernel) rfl
theorem wd_130 : (.fieldLink "QuotaLaws$Realm" 27 "QuotaLaws$Realm" "time" "[I" : Cond) ∈ tbg := tbg_in2 130 (by decide +kernel) rfl
theorem wd_131 : (.fieldLink "QuotaLaws$Tables" 61 "QuotaLaws$Realm" "time" "[I" : Cond) ∈ tbg := tbg_in2 131 (by decide +kernel) rfl
theorem wd_132 : (.fieldLink "QuotaLaws$Reader" 126 "QuotaLaws$Realm" "time" "[I" : Cond) ∈ tbg := tbg_in2 132 (by decide +kernel) rfl
theorem wd_133 : (.fieldLink "QuotaLaws" 138 "QuotaLaws$Realm" "time" "[I" : Cond) ∈ tbg := tbg_in2 133 (by decide +kernel) rfl
theorem wd_134 : (.fieldLink "QuotaLaws$Realm" 30 "QuotaLaws$Realm" "clumsy" "[I" : Cond) ∈ tbg := tbg_in2 134 (by decide +kernel) rfl
theorem wd_135 : (.fieldLink "QuotaLaws$Planner" 65 "QuotaLaws$Realm" "clumsy" "[I" : Cond) ∈ tbg := tbg_in2 135 (by decide +kernel) rfl
theorem wd_136 : (.fieldLink "QuotaLaws$Reader" 129 "QuotaLaws$Realm" "clumsy" "[I" : Cond) ∈ tbg := tbg_in2 136 (by decide +kernel) rfl
theorem wd_137 : (.fieldLink "QuotaLaws" 141 "QuotaLaws$Realm" "clumsy" "[I" : Cond) ∈ tbg := tbg_in2 137 (by decide +kernel) rfl
theorem wd_138 : (.fieldLink "QuotaLaws$Realm" 33 "QuotaLaws$Realm" "nerve" "[I" : Cond) ∈ tbg := tbg_in2 138 (by decide +kernel) rfl
theorem wd_139 : (.fieldLink "QuotaLaws$Odds" 35 "QuotaLaws$Realm" "nerve" "[I" : Cond) ∈ tbg := tbg_in2 139 (by decide +kernel) rfl
theorem wd_140 : (.fieldLink "QuotaLaws$Reader" 132 "QuotaLaws$Realm" "nerve" "[I" : Cond) ∈ tbg := tbg_in2 140 (by decide +kernel) rfl
theorem wd_141 : (.fieldLink "QuotaLaws" 144 "QuotaLaws$Realm" "nerve" "[I" : Cond) ∈ tbg := tbg_in2 141 (by decide +kernel) rfl
theorem wd_142 : (.fieldLink "QuotaLaws$Realm" 36 "QuotaLaws$Realm" "purse" "[I" : Cond) ∈ tbg := tbg_in2 142 (by decide +kernel) rfl
theorem wd_143 : (.fieldLink "QuotaLaws$Reader" 135 "QuotaLaws$Realm" "purse" "[I" : Cond) ∈ tbg := tbg_in2 143 (by decide +kernel) rfl
theorem wd_144 : (.fieldLink "QuotaLaws" 147 "QuotaLaws$Realm" "purse" "[I" : Cond) ∈ tbg := tbg_in2 144 (by decide +kernel) rfl
theorem wd_145 : (.fieldLink "QuotaLaws$Realm" 39 "QuotaLaws$Realm" "refused" "[I" : Cond) ∈ tbg := tbg_in2 145 (by decide +kernel) rfl
theorem wd_146 : (.fieldLink "QuotaLaws$Tables" 62 "QuotaLaws$Realm" "refused" "[I" : Cond) ∈ tbg := tbg_in2 146 (by decide +kernel) rfl
theorem wd_147 : (.fieldLink "QuotaLaws$Reader" 138 "QuotaLaws$Realm" "refused" "[I" : Cond) ∈ tbg := tbg_in2 147 (by decide +kernel) rfl
theorem wd_148 : (.fieldLink "QuotaLaws" 150 "QuotaLaws$Realm" "refused" "[I" : Cond) ∈ tbg := tbg_in2 148 (by decide +kernel) rfl
theorem wd_149 : (.fieldLink "QuotaLaws$Realm" 42 "QuotaLaws$Realm" "wanted" "[I" : Cond) ∈ tbg := tbg_in2 149 (by decide +kernel) rfl
theorem wd_150 : (.fieldLink "QuotaLaws$Reader" 144 "QuotaLaws$Realm" "wanted" "[I" : Cond) ∈ tbg := tbg_in2 150 (by decide +kernel) rfl
theorem wd_151 : (.fieldLink "QuotaLaws" 153 "QuotaLaws$Realm" "wanted" "[I" : Cond) ∈ tbg := tbg_in2 151 (by decide +kernel) rfl
theorem wd_152 : (.fieldLink "QuotaLaws$Realm" 45 "QuotaLaws$Realm" "breakings" "[I" : Cond) ∈ tbg := tbg_in2 152 (by decide +kernel) rfl
theorem wd_153 : (.fieldLink "QuotaLaws$Realm" 51 "QuotaLaws$Realm" "seen" "LQuotaLaws$Sightings;" : Cond) ∈ tbg := tbg_in2 153 (by decide +kernel) rfl
theorem wd_154 : (.fieldLink "QuotaLaws$Tables" 47 "QuotaLaws$Realm" "seen" "LQuotaLaws$Sightings;" : Cond) ∈ tbg := tbg_in2 154 (by decide +kernel) rfl
theorem wd_155 : (.fieldLink "QuotaLaws" 236 "QuotaLaws$Realm" "seen" "LQuotaLaws$Sightings;" : Cond) ∈ tbg := tbg_in2 155 (by decide +kernel) rfl
theorem wd_196 : (.classLink "QuotaLaws" 34 "QuotaLaws$Sheet" : Cond) ∈ tbg := tbg_in2 196 (by decide +kernel) rfl
theorem wd_198 : (.classLink "QuotaLaws" 40 "QuotaLaws$Planner" : Cond) ∈ tbg := tbg_in2 198 (by decide +kernel) rfl
theorem wd_199 : (.instantiable "QuotaLaws$Planner" 8 : Cond) ∈ tbg := tbg_in2 199 (by decide +kernel) rfl
theorem wd_200 : (.methodLinkNest "QuotaLaws" 42 y_Planner_new "QuotaLaws" : Cond) ∈ nests := nests_in2 200 (by decide +kernel) rfl
theorem wd_201 : (.instanceMethod y_Planner_new : Cond) ∈ tbg := tbg_in2 201 (by decide +kernel) rfl
set_option maxRecDepth 100000 in
theorem wd_202 : (.code y_Planner_new prog_3_method_1_code 1 none : Cond) ∈ tbg := tbg_in2 202 rfl rfl
theorem wd_203 : (.methodLink "QuotaLaws$Planner" 3 Lib.objectInit : Cond) ∈ tbg := tbg_in2 203 (by decide +kernel) rfl
theorem wd_204 : (.fieldLink "QuotaLaws$Planner" 39 "QuotaLaws$Planner" "laws" "I" : Cond) ∈ tbg := tbg_in2 204 (by decide +kernel) rfl
theorem wd_205 : (.fieldLink "QuotaLaws$Planner" 9 "QuotaLaws$Planner" "left" "[I" : Cond) ∈ tbg := tbg_in2 205 (by decide +kernel) rfl
theorem wd_206 : (.fieldLink "QuotaLaws$Planner" 15 "QuotaLaws$Planner" "need" "[I" : Cond) ∈ tbg := tbg_in2 206 (by decide +kernel) rfl
theorem wd_207 : (.fieldLink "QuotaLaws$Planner" 18 "QuotaLaws$Planner" "needAhead" "[I" : Cond) ∈ tbg := tbg_in2 207 (by decide +kernel) rfl
theorem wd_208 : (.fieldLink "QuotaLaws$Planner" 21 "QuotaLaws$Planner" "room" "[I" : Cond) ∈ tbg := tbg_in2 208 (by decide +kernel) rfl
theorem wd_209 : (.fieldLink "QuotaLaws$Planner" 24 "QuotaLaws$Planner" "harm" "[I" : Cond) ∈ tbg := tbg_in2 209 (by decide +kernel) rfl
theorem wd_210 : (.fieldLink "QuotaLaws$Planner" 27 "QuotaLaws$Planner" "first" "[I" : Cond) ∈ tbg := tbg_in2 210 (by decide +kernel) rfl
theorem wd_211 : (.fieldLink "QuotaLaws$Planner" 30 "QuotaLaws$Planner" "best" "[I" : Cond) ∈ tbg := tbg_in2 211 (by decide +kernel) rfl
theorem wd_229 : (.arrayClass .boolean : Cond) ∈ tbg := tbg_in2 229 (by decide +kernel) rfl
theorem wd_230 : (.classLink "QuotaLaws" 47 "QuotaLaws$Tables" : Cond) ∈ tbg := tbg_in2 230 (by decide +kernel) rfl
theorem wd_231 : (.instantiable "QuotaLaws$Tables" 8 : Cond) ∈ tbg := tbg_in2 231 (by decide +kernel) rfl
theorem wd_232 : (.methodLinkNest "QuotaLaws" 49 y_Tables_new "QuotaLaws" : Cond) ∈ nests := nests_in2 232 (by decide +kernel) rfl
theorem wd_233 : (.instanceMethod y_Tables_new : Cond) ∈ tbg := tbg_in2 233 (by decide +kernel) rfl
set_option maxRecDepth 100000 in
theorem wd_234 : (.code y_Tables_new prog_8_method_1_code 1 none : Cond) ∈ tbg := tbg_in2 234 rfl rfl
theorem wd_235 : (.methodLink "QuotaLaws$Tables" 3 Lib.objectInit : Cond) ∈ tbg := tbg_in2 235 (by decide +kernel) rfl
theorem wd_236 : (.fieldLink "QuotaLaws$Tables" 40 "QuotaLaws$Tables" "laws" "I" : Cond) ∈ tbg := tbg_in2 236 (by decide +kernel) rfl
theorem wd_237 : (.fieldLink "QuotaLaws$Tables" 9 "QuotaLaws$Tables" "low" "[I" : Cond) ∈ tbg := tbg_in2 237 (by decide +kernel) rfl
theorem wd_238 : (.fieldLink "QuotaLaws$Tables" 15 "QuotaLaws$Tables" "high" "[I" : Cond) ∈ tbg := tbg_in2 238 (by decide +kernel) rfl
theorem wd_239 : (.fieldLink "QuotaLaws$Tables" 18 "QuotaLaws$Tables" "lawDue" "[I" : Cond) ∈ tbg := tbg_in2 239 (by decide +kernel) rfl
theorem wd_240 : (.fieldLink "QuotaLaws$Tables" 21 "QuotaLaws$Tables" "oneDue" "[I" : Cond) ∈ tbg := tbg_in2 240 (by decide +kernel) rfl
theorem wd_241 : (.fieldLink "QuotaLaws$Tables" 24 "QuotaLaws$Tables" "time" "[I" : Cond) ∈ tbg := tbg_in2 241 (by decide +kernel) rfl
theorem wd_242 : (.fieldLink "QuotaLaws$Tables" 27 "QuotaLaws$Tables" "alone" "[J" : Cond) ∈ tbg := tbg_in2 242 (by decide +kernel) rfl
theorem wd_243 : (.fieldLink "QuotaLaws$Tables" 31 "QuotaLaws$Tables" "ways" "[J" : Cond) ∈ tbg := tbg_in2 243 (by decide +kernel) rfl
theorem wd_261 : (.arrayClass .long : Cond) ∈ tbg := tbg_in2 261 (by decide +kernel) rfl
theorem wd_262 : (.classLink "QuotaLaws" 54 "QuotaLaws$Odds" : Cond) ∈ tbg := tbg_in2 262 (by decide +kernel) rfl
theorem wd_263 : (.instantiable "QuotaLaws$Odds" 3 : Cond) ∈ tbg := tbg_in2 263 (by decide +kernel) rfl
theorem wd_264 : (.methodLinkNest "QuotaLaws" 56 y_Odds_new "QuotaLaws" : Cond) ∈ nests := nests_in2 264 (by decide +kernel) rfl
theorem wd_265 : (.instanceMethod y_Odds_new : Cond) ∈ tbg := tbg_in2 265 (by decide +kernel) rfl
set_option maxRecDepth 100000 in
theorem wd_266 : (.code y_Odds_new prog_2_method_1_code 1 none : Cond) ∈ tbg := tbg_in2 266 rfl rfl
theorem wd_267 : (.methodLink "QuotaLaws$Odds" 3 Lib.objectInit : Cond) ∈ tbg := tbg_in2 267 (by decide +kernel) rfl
theorem wd_268 : (.fieldLink "QuotaLaws$Odds" 43 "QuotaLaws$Odds" "over" "J" : Cond) ∈ tbg := tbg_in2 268 (by decide +kernel) rfl
theorem wd_269 : (.fieldLink "QuotaLaws" 229 "QuotaLaws$Odds" "over" "J" : Cond) ∈ tbg := tbg_in2 269 (by decide +kernel) rfl
theorem wd_270 : (.fieldLink "QuotaLaws$Odds" 21 "QuotaLaws$Odds" "under" "J" : Cond) ∈ tbg := tbg_in2 270 (by decide +kernel) rfl
theorem wd_271 : (.fieldLink "QuotaLaws" 233 "QuotaLaws$Odds" "under" "J" : Cond) ∈ tbg := tbg_in2 271 (by decide +kernel) rfl
theorem wd_272 : (.fieldLink "QuotaLaws$Odds" 11 "QuotaLaws$Odds" "weights" "[J" : Cond) ∈ tbg := tbg_in2 272 (by decide +kernel) rfl
theorem wd_280 : (.instantiable "QuotaLaws$Sheet" 3 : Cond) ∈ tbg := tbg_in2 280 (by decide +kernel) rfl
theorem wd_281 : (.methodLinkNest "QuotaLaws" 61 y_Sheet_new "QuotaLaws" : Cond) ∈ nests := nests_in2 281 (by decide +kernel) rfl
theorem wd_282 : (.instanceMethod y_Sheet_new : Cond) ∈ tbg := tbg_in2 282 (by decide +kernel) rfl
set_option maxRecDepth 100000 in
theorem wd_283 : (.code y_Sheet_new prog_6_method_1_code 1 none : Cond) ∈ tbg := tbg_in2 283 rfl rfl
theorem wd_284 : (.methodLink "QuotaLaws$Sheet" 3 Lib.objectInit : Cond) ∈ tbg := tbg_in2 284 (by decide +kernel) rfl
theorem wd_285 : (.fieldLink "QuotaLaws$Sheet" 9 "QuotaLaws$Sheet" "size" "I" : Cond) ∈ tbg := tbg_in2 285 (by decide +kernel) rfl
theorem wd_286 : (.fieldLink "QuotaLaws" 286 "QuotaLaws$Sheet" "size" "I" : Cond) ∈ tbg := tbg_in2 286 (by decide +kernel) rfl
theorem wd_287 : (.fieldLink "QuotaLaws$Sheet" 19 "QuotaLaws$Sheet" "lane" "I" : Cond) ∈ tbg := tbg_in2 287 (by decide +kernel) rfl
theorem wd_288 : (.fieldLink "QuotaLaws$Sheet" 15 "QuotaLaws$Sheet" "cells" "[I" : Cond) ∈ tbg := tbg_in2 288 (by decide +kernel) rfl
theorem wd_296 : (.fieldLink "QuotaLaws" 10 "QuotaLaws" "reader" "LQuotaLaws$Reader;" : Cond) ∈ tbg := tbg_in2 296 (by decide +kernel) rfl
theorem wd_297 : (.fieldLink "QuotaLaws" 19 "QuotaLaws" "now" "LQuotaLaws$Realm;" : Cond) ∈ tbg := tbg_in2 297 (by decide +kernel) rfl
theorem wd_298 : (.fieldLink "QuotaLaws" 23 "QuotaLaws" "trial" "LQuotaLaws$Realm;" : Cond) ∈ tbg := tbg_in2 298 (by decide +kernel) rfl
theorem wd_299 : (.fieldLink "QuotaLaws" 26 "QuotaLaws" "images" "[LQuotaLaws$Realm;" : Cond) ∈ tbg := tbg_in2 299 (by decide +kernel) rfl
theorem wd_300 : (.fieldLink "QuotaLaws" 30 "QuotaLaws" "kept" "[Z" : Cond) ∈ tbg := tbg_in2 300 (by decide +kernel) rfl
theorem wd_301 : (.fieldLink "QuotaLaws" 36 "QuotaLaws" "sheets" "[LQuotaLaws$Sheet;" : Cond) ∈ tbg := tbg_in2 301 (by decide +kernel) rfl
theorem wd_302 : (.fieldLink "QuotaLaws" 43 "QuotaLaws" "planner" "LQuotaLaws$Planner;" : Cond) ∈ tbg := tbg_in2 302 (by decide +kernel) rfl
theorem wd_303 : (.fieldLink "QuotaLaws" 50 "QuotaLaws" "tables" "LQuotaLaws$Tables;" : Cond) ∈ tbg := tbg_in2 303 (by decide +kernel) rfl
theorem wd_304 : (.fieldLink "QuotaLaws" 57 "QuotaLaws" "odds" "LQuotaLaws$Odds;" : Cond) ∈ tbg := tbg_in2 304 (by decide +kernel) rfl
theorem wd_305 : (.fieldLink "QuotaLaws" 277 "QuotaLaws" "tornFault" "I" : Cond) ∈ tbg := tbg_in2 305 (by decide +kernel) rfl
theorem wd_327 : (.methodLink "QuotaLawsLaw" 13 y_Q_feed : Cond) ∈ tbg := tbg_in2 327 (by decide +kernel) rfl
theorem wd_328 : (.instanceMethod y_Q_feed : Cond) ∈ tbg := tbg_in2 328 (by decide +kernel) rfl
theorem wd_329 : (.selects "QuotaLaws" y_Q_feed y_Q_feed : Cond) ∈ tbg := tbg_in2 329 (by decide +kernel) rfl
set_option maxRecDepth 100000 in
theorem wd_330 : (.code y_Q_feed prog_1_method_2_code 2 (some .int) : Cond) ∈ tbg := tbg_in2 330 rfl rfl
theorem wd_331 : (.methodLink "QuotaLaws" 62 y_Q_isWithin : Cond) ∈ tbg := tbg_in2 331 (by decide +kernel) rfl
theorem wd_332 : (.static y_Q_isWithin : Cond) ∈ tbg := tbg_in2 332 (by decide +kernel) rfl
set_option maxRecDepth 100000 in
theorem wd_333 : (.code y_Q_isWithin prog_1_method_41_code 3 (some .boolean) : Cond) ∈ tbg := tbg_in2 333 rfl rfl
theorem wd_334 : (.methodLink "QuotaLaws" 66 y_Reader_append : Cond) ∈ tbg := tbg_in2 334 (by decide +kernel) rfl
theorem wd_335 : (.instanceMethod y_Reader_append : Cond) ∈ tbg := tbg_in2 335 (by decide +kernel) rfl
theorem wd_336 : (.selects "QuotaLaws$Reader" y_Reader_append y_Reader_append : Cond) ∈ tbg := tbg_in2 336 (by decide +kernel) rfl
set_option maxRecDepth 100000 in
theorem wd_337 : (.code y_Reader_append prog_4_method_2_code 2 (some .boolean) : Cond) ∈ tbg := tbg_in2 337 rfl rfl
theorem wd_338 : (.methodLink "QuotaLawsLaw" 18 y_Q_end : Cond) ∈ tbg := tbg_in2 338 (by decide +kernel) rfl
theorem wd_339 : (.instanceMethod y_Q_end : Cond) ∈ tbg := tbg_in2 339 (by decide +kernel) rfl
theorem wd_340 : (.selects "QuotaLaws" y_Q_end y_Q_end : Cond) ∈ tbg := tbg_in2 340 (by decide +kernel) rfl
set_option maxRecDepth 100000 in
theorem wd_341 : (.code y_Q_end prog_1_method_3_code 3 (some .int) : Cond) ∈ tbg := tbg_in2 341 rfl rfl
theorem wd_342 : (.methodLink "QuotaLawsLaw" 22 y_Q_text : Cond) ∈ tbg := tbg_in2 342 (by decide +kernel) rfl
theorem wd_343 : (.instanceMethod y_Q_text : Cond) ∈ tbg := tbg_in2 343 (by decide +kernel) rfl
theorem wd_344 : (.selects "QuotaLaws" y_Q_text y_Q_text : Cond) ∈ tbg := tbg_in2 344 (by decide +kernel) rfl
set_option maxRecDepth 100000 in
theorem wd_345 : (.code y_Q_text prog_1_method_4_code 3 (some .int) : Cond) ∈ tbg := tbg_in2 345 rfl rfl
theorem wd_346 : (.methodLink "QuotaLaws" 74 y_Reader_readInto : Cond) ∈ tbg := tbg_in2 346 (by decide +kernel) rfl
theorem wd_347 : (.instanceMethod y_Reader_readInto : Cond) ∈ tbg := tbg_in2 347 (by decide +kernel) rfl
theorem wd_348 : (.selects "QuotaLaws$Reader" y_Reader_readInto y_Reader_readInto : Cond) ∈ tbg := tbg_in2 348 (by decide +kernel) rfl
set_option maxRecDepth 100000 in
theorem wd_349 : (.code y_Reader_readInto prog_4_method_3_code 4 (some .boolean) : Cond) ∈ tbg := tbg_in2 349 rfl rfl
theorem wd_350 : (.methodLink "QuotaLaws$Reader" 19 y_Realm_empty : Cond) ∈ tbg := tbg_in2 350 (by decide +kernel) rfl
theorem wd_351 : (.instanceMethod y_Realm_empty : Cond) ∈ tbg := tbg_in2 351 (by decide +kernel) rfl
theorem wd_352 : (.selects "QuotaLaws$Realm" y_Realm_empty y_Realm_empty : Cond) ∈ tbg := tbg_in2 352 (by decide +kernel) rfl
set_option maxRecDepth 100000 in
theorem wd_353 : (.code y_Realm_empty prog_5_method_2_code 1 none : Cond) ∈ tbg := tbg_in2 353 rfl rfl
theorem wd_354 : (.methodLink "QuotaLaws$Realm" 77 y_Arrays_fillI : Cond) ∈ tbg := tbg_in2 354 (by decide +kernel) rfl
theorem wd_355 : (.static y_Arrays_fillI : Cond) ∈ tbg := tbg_in2 355 (by decide +kernel) rfl
set_option maxRecDepth 100000 in
theorem wd_356 : (.code y_Arrays_fillI prog_17_method_103_code 4 none : Cond) ∈ tbg := tbg_in2 356 rfl rfl
theorem wd_357 : (.methodLink "QuotaLaws$Reader" 36 y_Reader_takeToken : Cond) ∈ tbg := tbg_in2 357 (by decide +kernel) rfl
theorem wd_359 : (.instanceMethod y_Reader_takeToken : Cond) ∈ tbg := tbg_in2 359 (by decide +kernel) rfl
set_option maxRecDepth 100000 in
theorem wd_360 : (.code y_Reader_takeToken prog_4_method_17_code 1 (some .boolean) : Cond) ∈ tbg := tbg_in2 360 rfl rfl
theorem wd_361 : (.methodLink "QuotaLaws$Reader" 176 y_Reader_passRun : Cond) ∈ tbg := tbg_in2 361 (by decide +kernel) rfl
theorem wd_363 : (.instanceMethod y_Reader_passRun : Cond) ∈ tbg := tbg_in2 363 (by decide +kernel) rfl
set_option maxRecDepth 100000 in
theorem wd_364 : (.code y_Reader_passRun prog_4_method_19_code 3 none : Cond) ∈ tbg := tbg_in2 364 rfl rfl
theorem wd_365 : (.methodLink "QuotaLaws$Reader" 180 y_Reader_kindHere : Cond) ∈ tbg := tbg_in2 365 (by decide +kernel) rfl
theorem wd_367 : (.instanceMethod y_Reader_kindHere : Cond) ∈ tbg := tbg_in2 367 (by decide +kernel) rfl
set_option maxRecDepth 100000 in
theorem wd_368 : (.code y_Reader_kindHere prog_4_method_18_code 2 (some .int) : Cond) ∈ tbg := tbg_in2 368 rfl rfl
theorem wd_369 : (.methodLink "QuotaLaws$Reader" 183 y_Reader_valueOfRun : Cond) ∈ tbg := tbg_in2 369 (by decide +kernel) rfl
theorem wd_371 : (.instanceMethod y_Reader_valueOfRun : Cond) ∈ tbg := tbg_in2 371 (by decide +kernel) rfl
set_option maxRecDepth 100000 in
theorem wd_372 : (.code y_Reader_valueOfRun prog_4_method_20_code 3 (some .int) : Cond) ∈ tbg := tbg_in2 372 rfl rfl
theorem wd_373 : (.methodLink "QuotaLaws$Reader" 50 y_Reader_fail : Cond) ∈ tbg := tbg_in2 373 (by decide +kernel) rfl
theorem wd_375 : (.instanceMethod y_Reader_fail : Cond) ∈ tbg := tbg_in2 375 (by decide +kernel) rfl
set_option maxRecDepth 100000 in
theorem wd_376 : (.code y_Reader_fail prog_4_method_21_code 3 (some .boolean) : Cond) ∈ tbg := tbg_in2 376 rfl rfl
theorem wd_377 : (.methodLink "QuotaLaws$Reader" 43 y_Reader_takeLine : Cond) ∈ tbg := tbg_in2 377 (by decide +kernel) rfl
theorem wd_379 : (.instanceMethod y_Reader_takeLine : Cond) ∈ tbg := tbg_in2 379 (by decide +kernel) rfl
set_option maxRecDepth 100000 in
theorem wd_380 : (.code y_Reader_takeLine prog_4_method_4_code 2 (some .boolean) : Cond) ∈ tbg := tbg_in2 380 rfl rfl
theorem wd_382 : (.methodLink "QuotaLaws$Reader" 56 y_Reader_isWord : Cond) ∈ tbg := tbg_in2 382 (by decide +kernel) rfl
theorem wd_384 : (.instanceMethod y_Reader_isWord : Cond) ∈ tbg := tbg_in2 384 (by decide +kernel) rfl
set_option maxRecDepth 100000 in
theorem wd_385 : (.code y_Reader_isWord prog_4_method_16_code 3 (some .boolean) : Cond) ∈ tbg := tbg_in2 385 rfl rfl
theorem wd_386 : (.methodLink "QuotaLaws$Reader" 167 y_String_length : Cond) ∈ tbg := tbg_in2 386 (by decide +kernel) rfl
theorem wd_387 : (.instanceMethod y_String_length : Cond) ∈ tbg := tbg_in2 387 (by decide +kernel) rfl
theorem wd_388 : (.selects "java/lang/String" y_String_length y_String_length : Cond) ∈ tbg := tbg_in2 388 (by decide +kernel) rfl
set_option maxRecDepth 100000 in
theorem wd_389 : (.code y_String_length prog_13_method_54_code 1 (some .int) : Cond) ∈ tbg := tbg_in2 389 rfl rfl
theorem wd_390 : (.methodLink "java/lang/String" 335 y_String_coder : Cond) ∈ tbg := tbg_in2 390 (by decide +kernel) rfl
theorem wd_391 : (.instanceMethod y_String_coder : Cond) ∈ tbg := tbg_in2 391 (by decide +kernel) rfl
theorem wd_392 : (.selects "java/lang/String" y_String_coder y_String_coder : Cond) ∈ tbg := tbg_in2 392 (by decide +kernel) rfl
set_option maxRecDepth 100000 in
theorem wd_393 : (.code y_String_coder prog_13_method_152_code 1 (some .byte) : Cond) ∈ tbg := tbg_in2 393 rfl rfl
theorem wd_394 : (.fieldLink "java/lang/String" 38 "java/lang/String" "COMPACT_STRINGS" "Z" : Cond) ∈ tbg := tbg_in2 394 (by decide +kernel) rfl
theorem wd_396 : (.methodLink "QuotaLaws$Reader" 172 y_String_charAt : Cond) ∈ tbg := tbg_in2 396 (by decide +kernel) rfl
theorem wd_397 : (.instanceMethod y_String_charAt : Cond) ∈ tbg := tbg_in2 397 (by decide +kernel) rfl
theorem wd_398 : (.selects "java/lang/String" y_String_charAt y_String_charAt : Cond) ∈ tbg := tbg_in2 398 (by decide +kernel) rfl
set_option maxRecDepth 100000 in
theorem wd_399 : (.code y_String_charAt prog_13_method_56_code 2 (some .char) : Cond) ∈ tbg := tbg_in2 399 rfl rfl
theorem wd_400 : (.methodLink "java/lang/String" 492 y_String_isLatin1 : Cond) ∈ tbg := tbg_in2 400 (by decide +kernel) rfl
theorem wd_401 : (.instanceMethod y_String_isLatin1 : Cond) ∈ tbg := tbg_in2 401 (by decide +kernel) rfl
theorem wd_402 : (.selects "java/lang/String" y_String_isLatin1 y_String_isLatin1 : Cond) ∈ tbg := tbg_in2 402 (by decide +kernel) rfl
set_option maxRecDepth 100000 in
theorem wd_403 : (.code y_String_isLatin1 prog_13_method_154_code 1 (some .boolean) : Cond) ∈ tbg := tbg_in2 403 rfl rfl
theorem wd_404 : (.methodLink "java/lang/String" 495 y_StringLatin1_charAt : Cond) ∈ tbg := tbg_in2 404 (by decide +kernel) rfl
theorem wd_405 : (.static y_StringLatin1_charAt : Cond) ∈ tbg := tbg_in2 405 (by decide +kernel) rfl
set_option maxRecDepth 100000 in
theorem wd_406 : (.code y_StringLatin1_charAt prog_14_method_2_code 2 (some .char) : Cond) ∈ tbg := tbg_in2 406 rfl rfl
theorem wd_407 : (.methodLink "java/lang/StringLatin1" 9 y_String_checkIndex : Cond) ∈ tbg := tbg_in2 407 (by decide +kernel) rfl
theorem wd_408 : (.static y_String_checkIndex : Cond) ∈ tbg := tbg_in2 408 (by decide +kernel) rfl
set_option maxRecDepth 100000 in
theorem wd_409 : (.code y_String_checkIndex prog_13_method_155_code 2 none : Cond) ∈ tbg := tbg_in2 409 rfl rfl
theorem wd_410 : (.fieldLink "java/lang/String" 1053 "jdk/internal/util/Preconditions" "SIOOBE_FORMATTER" "Ljava/util/function/BiFunction;" : Cond) ∈ tbg := tbg_in2 410 (by decide +kernel) rfl
theorem wd_412 : (.methodLink "java/lang/String" 1059 y_Preconditions_checkIndex : Cond) ∈ tbg := tbg_in2 412 (by decide +kernel) rfl
theorem wd_413 : (.static y_Preconditions_checkIndex : Cond) ∈ tbg := tbg_in2 413 (by decide +kernel) rfl
set_option maxRecDepth 100000 in
theorem wd_414 : (.code y_Preconditions_checkIndex prog_18_method_11_code 3 (some .int) : Cond) ∈ tbg := tbg_in2 414 rfl rfl
theorem wd_415 : (.methodLink "java/lang/String" 498 y_StringUTF16_charAt : Cond) ∈ tbg := tbg_in2 415 (by decide +kernel) rfl
theorem wd_434 : (.methodLink "QuotaLaws$Reader" 63 y_Reader_takeLaw : Cond) ∈ tbg := tbg_in2 434 (by decide +kernel) rfl
theorem wd_436 : (.instanceMethod y_Reader_takeLaw : Cond) ∈ tbg := tbg_in2 436 (by decide +kernel) rfl
set_option maxRecDepth 100000 in
theorem wd_437 : (.code y_Reader_takeLaw prog_4_method_5_code 3 (some .boolean) : Cond) ∈ tbg := tbg_in2 437 rfl rfl
theorem wd_438 : (.methodLink "QuotaLaws$Reader" 95 y_Reader_takeNumber : Cond) ∈ tbg := tbg_in2 438 (by decide +kernel) rfl
theorem wd_440 : (.instanceMethod y_Reader_takeNumber : Cond) ∈ tbg := tbg_in2 440 (by decide +kernel) rfl
set_option maxRecDepth 100000 in
theorem wd_441 : (.code y_Reader_takeNumber prog_4_method_13_code 3 (some .boolean) : Cond) ∈ tbg := tbg_in2 441 rfl rfl
theorem wd_442 : (.methodLink "QuotaLaws$Reader" 120 y_Reader_isBounded : Cond) ∈ tbg := tbg_in2 442 (by decide +kernel) rfl
theorem wd_444 : (.instanceMethod y_Reader_isBounded : Cond) ∈ tbg := tbg_in2 444 (by decide +kernel) rfl
set_option maxRecDepth 100000 in
theorem wd_445 : (.code y_Reader_isBounded prog_4_method_14_code 3 (some .boolean) : Cond) ∈ tbg := tbg_in2 445 rfl rfl
theorem wd_446 : (.methodLinkNest "QuotaLaws$Reader" 163 y_Q_isWithin "QuotaLaws" : Cond) ∈ nests := nests_in2 446 (by decide +kernel) rfl
theorem wd_447 : (.methodLink "QuotaLaws$Reader" 101 y_Reader_putInto : Cond) ∈ tbg := tbg_in2 447 (by decide +kernel) rfl
theorem wd_449 : (.instanceMethod y_Reader_putInto : Cond) ∈ tbg := tbg_in2 449 (by decide +kernel) rfl
set_option maxRecDepth 100000 in
theorem wd_450 : (.code y_Reader_putInto prog_4_method_12_code 3 (some .boolean) : Cond) ∈ tbg := tbg_in2 450 rfl rfl
theorem wd_451 : (.methodLink "QuotaLaws$Reader" 114 y_Reader_takeCarried : Cond) ∈ tbg := tbg_in2 451 (by decide +kernel) rfl
theorem wd_453 : (.instanceMethod y_Reader_takeCarried : Cond) ∈ tbg := tbg_in2 453 (by decide +kernel) rfl
set_option maxRecDepth 100000 in
theorem wd_454 : (.code y_Reader_takeCarried prog_4_method_6_code 3 (some .boolean) : Cond) ∈ tbg := tbg_in2 454 rfl rfl
theorem wd_455 : (.methodLink "QuotaLaws$Reader" 117 y_Reader_isStop : Cond) ∈ tbg := tbg_in2 455 (by decide +kernel) rfl
theorem wd_457 : (.instanceMethod y_Reader_isStop : Cond) ∈ tbg := tbg_in2 457 (by decide +kernel) rfl
set_option maxRecDepth 100000 in
theorem wd_458 : (.code y_Reader_isStop prog_4_method_15_code 1 (some .boolean) : Cond) ∈ tbg := tbg_in2 458 rfl rfl
theorem wd_460 : (.methodLink "QuotaLaws$Reader" 72 y_Reader_takeOne : Cond) ∈ tbg := tbg_in2 460 (by decide +kernel) rfl
theorem wd_462 : (.instanceMethod y_Reader_takeOne : Cond) ∈ tbg := tbg_in2 462 (by decide +kernel) rfl
set_option maxRecDepth 100000 in
theorem wd_463 : (.code y_Reader_takeOne prog_4_method_7_code 5 (some .boolean) : Cond) ∈ tbg := tbg_in2 463 rfl rfl
theorem wd_464 : (.methodLink "QuotaLaws$Reader" 141 y_Reader_addLaw : Cond) ∈ tbg := tbg_in2 464 (by decide +kernel) rfl
theorem wd_466 : (.instanceMethod y_Reader_addLaw : Cond) ∈ tbg := tbg_in2 466 (by decide +kernel) rfl
set_option maxRecDepth 100000 in
theorem wd_467 : (.code y_Reader_addLaw prog_4_method_10_code 3 (some .boolean) : Cond) ∈ tbg := tbg_in2 467 rfl rfl
theorem wd_468 : (.methodLinkNest "QuotaLaws$Reader" 150 y_Q_hasBit "QuotaLaws" : Cond) ∈ nests := nests_in2 468 (by decide +kernel) rfl
theorem wd_469 : (.static y_Q_hasBit : Cond) ∈ tbg := tbg_in2 469 (by decide +kernel) rfl
set_option maxRecDepth 100000 in
theorem wd_470 : (.code y_Q_hasBit prog_1_method_42_code 2 (some .boolean) : Cond) ∈ tbg := tbg_in2 470 rfl rfl
theorem wd_472 : (.methodLink "QuotaLaws$Reader" 77 y_Reader_takeWant : Cond) ∈ tbg := tbg_in2 472 (by decide +kernel) rfl
theorem wd_474 : (.instanceMethod y_Reader_takeWant : Cond) ∈ tbg := tbg_in2 474 (by decide +kernel) rfl
set_option maxRecDepth 100000 in
theorem wd_475 : (.code y_Reader_takeWant prog_4_method_8_code 3 (some .boolean) : Cond) ∈ tbg := tbg_in2 475 rfl rfl
theorem wd_477 : (.methodLink "QuotaLaws$Reader" 82 y_Reader_takeWatch : Cond) ∈ tbg := tbg_in2 477 (by decide +kernel) rfl
theorem wd_479 : (.instanceMethod y_Reader_takeWatch : Cond) ∈ tbg := tbg_in2 479 (by decide +kernel) rfl
set_option maxRecDepth 100000 in
theorem wd_480 : (.code y_Reader_takeWatch prog_4_method_9_code 2 (some .boolean) : Cond) ∈ tbg := tbg_in2 480 rfl rfl
theorem wd_481 : (.methodLink "QuotaLaws$Reader" 47 y_Reader_allThere : Cond) ∈ tbg := tbg_in2 481 (by decide +kernel) rfl
theorem wd_482 : (.static y_Reader_allThere : Cond) ∈ tbg := tbg_in2 482 (by decide +kernel) rfl
set_option maxRecDepth 100000 in
theorem wd_483 : (.code y_Reader_allThere prog_4_method_11_code 4 (some .boolean) : Cond) ∈ tbg := tbg_in2 483 rfl rfl
theorem wd_484 : (.methodLinkNest "QuotaLaws$Reader" 153 y_Q_isPart "QuotaLaws" : Cond) ∈ nests := nests_in2 484 (by decide +kernel) rfl
theorem wd_485 : (.static y_Q_isPart : Cond) ∈ tbg := tbg_in2 485 (by decide +kernel) rfl
set_option maxRecDepth 100000 in
theorem wd_486 : (.code y_Q_isPart prog_1_method_45_code 2 (some .boolean) : Cond) ∈ tbg := tbg_in2 486 rfl rfl
theorem wd_487 : (.methodLink "QuotaLaws$Reader" 156 y_Realm_hasLaw : Cond) ∈ tbg := tbg_in2 487 (by decide +kernel) rfl
theorem wd_488 : (.instanceMethod y_Realm_hasLaw : Cond) ∈ tbg := tbg_in2 488 (by decide +kernel) rfl
theorem wd_489 : (.selects "QuotaLaws$Realm" y_Realm_hasLaw y_Realm_hasLaw : Cond) ∈ tbg := tbg_in2 489 (by decide +kernel) rfl
set_option maxRecDepth 100000 in
theorem wd_490 : (.code y_Realm_hasLaw prog_5_method_4_code 2 (some .boolean) : Cond) ∈ tbg := tbg_in2 490 rfl rfl
theorem wd_491 : (.methodLink "QuotaLaws$Reader" 160 y_Realm_hasOne : Cond) ∈ tbg := tbg_in2 491 (by decide +kernel) rfl
theorem wd_492 : (.instanceMethod y_Realm_hasOne : Cond) ∈ tbg := tbg_in2 492 (by decide +kernel) rfl
theorem wd_493 : (.selects "QuotaLaws$Realm" y_Realm_hasOne y_Realm_hasOne : Cond) ∈ tbg := tbg_in2 493 (by decide +kernel) rfl
set_option maxRecDepth 100000 in
theorem wd_494 : (.code y_Realm_hasOne prog_5_method_5_code 2 (some .boolean) : Cond) ∈ tbg := tbg_in2 494 rfl rfl
theorem wd_495 : (.methodLink "QuotaLaws" 81 y_Realm_copyFrom : Cond) ∈ tbg := tbg_in2 495 (by decide +kernel) rfl
theorem wd_496 : (.instanceMethod y_Realm_copyFrom : Cond) ∈ tbg := tbg_in2 496 (by decide +kernel) rfl
theorem wd_497 : (.selects "QuotaLaws$Realm" y_Realm_copyFrom y_Realm_copyFrom : Cond) ∈ tbg := tbg_in2 497 (by decide +kernel) rfl
set_option maxRecDepth 100000 in
theorem wd_498 : (.code y_Realm_copyFrom prog_5_method_3_code 2 none : Cond) ∈ tbg := tbg_in2 498 rfl rfl
theorem wd_499 : (.methodLink "QuotaLaws$Realm" 83 arraycopyName : Cond) ∈ tbg := tbg_in2 499 (by decide +kernel) rfl
theorem wd_500 : (.static arraycopyName : Cond) ∈ tbg := tbg_in2 500 (by decide +kernel) rfl
theorem wd_501 : (.native arraycopyName : Cond) ∈ tbg := tbg_in2 501 (by decide +kernel) rfl
theorem wd_502 : (.methodLink "QuotaLaws$Realm" 89 y_Sightings_copyFrom : Cond) ∈ tbg := tbg_in2 502 (by decide +kernel) rfl
theorem wd_503 : (.instanceMethod y_Sightings_copyFrom : Cond) ∈ tbg := tbg_in2 503 (by decide +kernel) rfl
theorem wd_504 : (.selects "QuotaLaws$Sightings" y_Sightings_copyFrom y_Sightings_copyFrom : Cond) ∈ tbg := tbg_in2 504 (by decide +kernel) rfl
set_option maxRecDepth 100000 in
theorem wd_505 : (.code y_Sightings_copyFrom prog_7_method_4_code 2 none : Cond) ∈ tbg := tbg_in2 505 rfl rfl
theorem wd_506 : (.methodLink "QuotaLaws$Sightings" 25 arraycopyName : Cond) ∈ tbg := tbg_in2 506 (by decide +kernel) rfl
theorem wd_507 : (.methodLink "QuotaLawsLaw" 27 y_Q_fault : Cond) ∈ tbg := tbg_in2 507 (by decide +kernel) rfl
theorem wd_508 : (.instanceMethod y_Q_fault : Cond) ∈ tbg := tbg_in2 508 (by decide +kernel) rfl
theorem wd_509 : (.selects "QuotaLaws" y_Q_fault y_Q_fault : Cond) ∈ tbg := tbg_in2 509 (by decide +kernel) rfl
set_option maxRecDepth 100000 in
theorem wd_510 : (.code y_Q_fault prog_1_method_5_code 1 (some .int) : Cond) ∈ tbg := tbg_in2 510 rfl rfl
theorem wd_511 : (.methodLink "QuotaLawsLaw" 31 y_Q_rule : Cond) ∈ tbg := tbg_in2 511 (by decide +kernel) rfl
theorem wd_512 : (.instanceMethod y_Q_rule : Cond) ∈ tbg := tbg_in2 512 (by decide +kernel) rfl
theorem wd_513 : (.selects "QuotaLaws" y_Q_rule y_Q_rule : Cond) ∈ tbg := tbg_in2 513 (by decide +kernel) rfl
set_option maxRecDepth 100000 in
theorem wd_514 : (.code y_Q_rule prog_1_method_6_code 2 (some .int) : Cond) ∈ tbg := tbg_in2 514 rfl rfl
theorem wd_515 : (.methodLink "QuotaLawsLaw" 35 y_Q_law : Cond) ∈ tbg := tbg_in2 515 (by decide +kernel) rfl
theorem wd_516 : (.instanceMethod y_Q_law : Cond) ∈ tbg := tbg_in2 516 (by decide +kernel) rfl
theorem wd_517 : (.selects "QuotaLaws" y_Q_law y_Q_law : Cond) ∈ tbg := tbg_in2 517 (by decide +kernel) rfl
set_option maxRecDepth 100000 in
theorem wd_518 : (.code y_Q_law prog_1_method_7_code 3 (some .int) : Cond) ∈ tbg := tbg_in2 518 rfl rfl
theorem wd_519 : (.methodLink "QuotaLaws" 109 y_Realm_hasLaw : Cond) ∈ tbg := tbg_in2 519 (by decide +kernel) rfl
theorem wd_520 : (.methodLink "QuotaLaws" 128 y_Realm_needOf : Cond) ∈ tbg := tbg_in2 520 (by decide +kernel) rfl
theorem wd_521 : (.instanceMethod y_Realm_needOf : Cond) ∈ tbg := tbg_in2 521 (by decide +kernel) rfl
theorem wd_522 : (.selects "QuotaLaws$Realm" y_Realm_needOf y_Realm_needOf : Cond) ∈ tbg := tbg_in2 522 (by decide +kernel) rfl
set_option maxRecDepth 100000 in
theorem wd_523 : (.code y_Realm_needOf prog_5_method_10_code 4 (some .int) : Cond) ∈ tbg := tbg_in2 523 rfl rfl
theorem wd_524 : (.methodLinkNest "QuotaLaws$Realm" 104 y_Q_hasBit "QuotaLaws" : Cond) ∈ nests := nests_in2 524 (by decide +kernel) rfl
theorem wd_525 : (.methodLink "QuotaLaws$Realm" 108 y_Realm_brokenBy : Cond) ∈ tbg := tbg_in2 525 (by decide +kernel) rfl
theorem wd_526 : (.instanceMethod y_Realm_brokenBy : Cond) ∈ tbg := tbg_in2 526 (by decide +kernel) rfl
theorem wd_527 : (.selects "QuotaLaws$Realm" y_Realm_brokenBy y_Realm_brokenBy : Cond) ∈ tbg := tbg_in2 527 (by decide +kernel) rfl
set_option maxRecDepth 100000 in
theorem wd_528 : (.code y_Realm_brokenBy prog_5_method_7_code 3 (some .int) : Cond) ∈ tbg := tbg_in2 528 rfl rfl
theorem wd_529 : (.methodLink "QuotaLaws$Realm" 112 Lib.Math.max.name : Cond) ∈ tbg := tbg_in2 529 (by decide +kernel) rfl
theorem wd_530 : (.static Lib.Math.max.name : Cond) ∈ tbg := tbg_in2 530 (by decide +kernel) rfl
set_option maxRecDepth 100000 in
theorem wd_531 : (.code Lib.Math.max.name Lib.Math.max.code 2 (some .int) : Cond) ∈ tbg := tbg_in2 531 rfl rfl
theorem wd_532 : (.methodLink "QuotaLaws" 132 y_Realm_chainOf : Cond) ∈ tbg := tbg_in2 532 (by decide +kernel) rfl
theorem wd_533 : (.instanceMethod y_Realm_chainOf : Cond) ∈ tbg := tbg_in2 533 (by decide +kernel) rfl
theorem wd_534 : (.selects "QuotaLaws$Realm" y_Realm_chainOf y_Realm_chainOf : Cond) ∈ tbg := tbg_in2 534 (by decide +kernel) rfl
set_option maxRecDepth 100000 in
theorem wd_535 : (.code y_Realm_chainOf prog_5_method_13_code 5 (some .int) : Cond) ∈ tbg := tbg_in2 535 rfl rfl
theorem wd_536 : (.methodLink "QuotaLaws$Realm" 97 y_Realm_hasLaw : Cond) ∈ tbg := tbg_in2 536 (by decide +kernel) rfl
theorem wd_537 : (.methodLink "QuotaLawsLaw" 40 y_Q_one : Cond) ∈ tbg := tbg_in2 537 (by decide +kernel) rfl
theorem wd_538 : (.instanceMethod y_Q_one : Cond) ∈ tbg := tbg_in2 538 (by decide +kernel) rfl
theorem wd_539 : (.selects "QuotaLaws" y_Q_one y_Q_one : Cond) ∈ tbg := tbg_in2 539 (by decide +kernel) rfl
set_option maxRecDepth 100000 in
theorem wd_540 : (.code y_Q_one prog_1_method_8_code 3 (some .int) : Cond) ∈ tbg := tbg_in2 540 rfl rfl
theorem wd_541 : (.methodLink "QuotaLaws" 135 y_Realm_hasOne : Cond) ∈ tbg := tbg_in2 541 (by decide +kernel) rfl
theorem wd_542 : (.methodLink "QuotaLaws" 156 y_Realm_brokenByOne : Cond) ∈ tbg := tbg_in2 542 (by decide +kernel) rfl
theorem wd_543 : (.instanceMethod y_Realm_brokenByOne : Cond) ∈ tbg := tbg_in2 543 (by decide +kernel) rfl
theorem wd_544 : (.selects "QuotaLaws$Realm" y_Realm_brokenByOne y_Realm_brokenByOne : Cond) ∈ tbg := tbg_in2 544 (by decide +kernel) rfl
set_option maxRecDepth 100000 in
theorem wd_545 : (.code y_Realm_brokenByOne prog_5_method_8_code 4 (some .int) : Cond) ∈ tbg := tbg_in2 545 rfl rfl
theorem wd_546 : (.methodLink "QuotaLaws" 159 y_Realm_breakable : Cond) ∈ tbg := tbg_in2 546 (by decide +kernel) rfl
theorem wd_547 : (.instanceMethod y_Realm_breakable : Cond) ∈ tbg := tbg_in2 547 (by decide +kernel) rfl
theorem wd_548 : (.selects "QuotaLaws$Realm" y_Realm_breakable y_Realm_breakable : Cond) ∈ tbg := tbg_in2 548 (by decide +kernel) rfl
set_option maxRecDepth 100000 in
theorem wd_549 : (.code y_Realm_breakable prog_5_method_18_code 4 (some .int) : Cond) ∈ tbg := tbg_in2 549 rfl rfl
theorem wd_550 : (.methodLink "QuotaLaws$Realm" 129 y_Realm_ableAlone : Cond) ∈ tbg := tbg_in2 550 (by decide +kernel) rfl
theorem wd_551 : (.instanceMethod y_Realm_ableAlone : Cond) ∈ tbg := tbg_in2 551 (by decide +kernel) rfl
theorem wd_552 : (.selects "QuotaLaws$Realm" y_Realm_ableAlone y_Realm_ableAlone : Cond) ∈ tbg := tbg_in2 552 (by decide +kernel) rfl
set_option maxRecDepth 100000 in
theorem wd_553 : (.code y_Realm_ableAlone prog_5_method_16_code 3 (some .int) : Cond) ∈ tbg := tbg_in2 553 rfl rfl
theorem wd_554 : (.methodLink "QuotaLaws$Realm" 120 y_Realm_roomOf : Cond) ∈ tbg := tbg_in2 554 (by decide +kernel) rfl
theorem wd_555 : (.instanceMethod y_Realm_roomOf : Cond) ∈ tbg := tbg_in2 555 (by decide +kernel) rfl
theorem wd_556 : (.selects "QuotaLaws$Realm" y_Realm_roomOf y_Realm_roomOf : Cond) ∈ tbg := tbg_in2 556 (by decide +kernel) rfl
set_option maxRecDepth 100000 in
theorem wd_557 : (.code y_Realm_roomOf prog_5_method_14_code 4 (some .int) : Cond) ∈ tbg := tbg_in2 557 rfl rfl
theorem wd_558 : (.methodLink "QuotaLaws$Realm" 123 y_Realm_timeLeft : Cond) ∈ tbg := tbg_in2 558 (by decide +kernel) rfl
theorem wd_559 : (.instanceMethod y_Realm_timeLeft : Cond) ∈ tbg := tbg_in2 559 (by decide +kernel) rfl
theorem wd_560 : (.selects "QuotaLaws$Realm" y_Realm_timeLeft y_Realm_timeLeft : Cond) ∈ tbg := tbg_in2 560 (by decide +kernel) rfl
set_option maxRecDepth 100000 in
theorem wd_561 : (.code y_Realm_timeLeft prog_5_method_15_code 2 (some .int) : Cond) ∈ tbg := tbg_in2 561 rfl rfl
theorem wd_562 : (.methodLink "QuotaLaws$Realm" 100 y_Realm_brokenByOne : Cond) ∈ tbg := tbg_in2 562 (by decide +kernel) rfl
theorem wd_563 : (.methodLink "QuotaLaws$Realm" 126 Lib.Math.min.name : Cond) ∈ tbg := tbg_in2 563 (by decide +kernel) rfl
theorem wd_564 : (.static Lib.Math.min.name : Cond) ∈ tbg := tbg_in2 564 (by decide +kernel) rfl
set_option maxRecDepth 100000 in
theorem wd_565 : (.code Lib.Math.min.name Lib.Math.min.code 2 (some .int) : Cond) ∈ tbg := tbg_in2 565 rfl rfl
theorem wd_566 : (.methodLink "QuotaLawsLaw" 44 y_Q_broken : Cond) ∈ tbg := tbg_in2 566 (by decide +kernel) rfl
theorem wd_567 : (.instanceMethod y_Q_broken : Cond) ∈ tbg := tbg_in2 567 (by decide +kernel) rfl
theorem wd_568 : (.selects "QuotaLaws" y_Q_broken y_Q_broken : Cond) ∈ tbg := tbg_in2 568 (by decide +kernel) rfl
set_option maxRecDepth 100000 in
theorem wd_569 : (.code y_Q_broken prog_1_method_9_code 3 (some .int) : Cond) ∈ tbg := tbg_in2 569 rfl rfl
theorem wd_570 : (.methodLink "QuotaLaws" 162 y_Realm_hasBoth : Cond) ∈ tbg := tbg_in2 570 (by decide +kernel) rfl
theorem wd_571 : (.instanceMethod y_Realm_hasBoth : Cond) ∈ tbg := tbg_in2 571 (by decide +kernel) rfl
theorem wd_572 : (.selects "QuotaLaws$Realm" y_Realm_hasBoth y_Realm_hasBoth : Cond) ∈ tbg := tbg_in2 572 (by decide +kernel) rfl
set_option maxRecDepth 100000 in
theorem wd_573 : (.code y_Realm_hasBoth prog_5_method_6_code 3 (some .boolean) : Cond) ∈ tbg := tbg_in2 573 rfl rfl
theorem wd_574 : (.methodLink "QuotaLaws$Realm" 93 y_Realm_hasOne : Cond) ∈ tbg := tbg_in2 574 (by decide +kernel) rfl
theorem wd_575 : (.methodLink "QuotaLaws" 166 y_Realm_brokenBy : Cond) ∈ tbg := tbg_in2 575 (by decide +kernel) rfl
theorem wd_576 : (.methodLink "QuotaLawsLaw" 48 y_Q_quota : Cond) ∈ tbg := tbg_in2 576 (by decide +kernel) rfl
theorem wd_577 : (.instanceMethod y_Q_quota : Cond) ∈ tbg := tbg_in2 577 (by decide +kernel) rfl
theorem wd_578 : (.selects "QuotaLaws" y_Q_quota y_Q_quota : Cond) ∈ tbg := tbg_in2 578 (by decide +kernel) rfl
set_option maxRecDepth 100000 in
theorem wd_579 : (.code y_Q_quota prog_1_method_10_code 4 (some .int) : Cond) ∈ tbg := tbg_in2 579 rfl rfl
theorem wd_580 : (.methodLink "QuotaLawsLaw" 52 y_Q_carry : Cond) ∈ tbg := tbg_in2 580 (by decide +kernel) rfl
theorem wd_581 : (.instanceMethod y_Q_carry : Cond) ∈ tbg := tbg_in2 581 (by decide +kernel) rfl
theorem wd_582 : (.selects "QuotaLaws" y_Q_carry y_Q_carry : Cond) ∈ tbg := tbg_in2 582 (by decide +kernel) rfl
set_option maxRecDepth 100000 in
theorem wd_583 : (.code y_Q_carry prog_1_method_11_code 4 (some .int) : Cond) ∈ tbg := tbg_in2 583 rfl rfl
theorem wd_584 : (.methodLink "QuotaLawsLaw" 56 y_Q_watch : Cond) ∈ tbg := tbg_in2 584 (by decide +kernel) rfl
theorem wd_585 : (.instanceMethod y_Q_watch : Cond) ∈ tbg := tbg_in2 585 (by decide +kernel) rfl
theorem wd_586 : (.selects "QuotaLaws" y_Q_watch y_Q_watch : Cond) ∈ tbg := tbg_in2 586 (by decide +kernel) rfl
set_option maxRecDepth 100000 in
theorem wd_587 : (.code y_Q_watch prog_1_method_12_code 4 (some .int) : Cond) ∈ tbg := tbg_in2 587 rfl rfl
theorem wd_588 : (.methodLink "QuotaLaws" 170 y_Q_bitOf : Cond) ∈ tbg := tbg_in2 588 (by decide +kernel) rfl
theorem wd_589 : (.static y_Q_bitOf : Cond) ∈ tbg := tbg_in2 589 (by decide +kernel) rfl
set_option maxRecDepth 100000 in
theorem wd_590 : (.code y_Q_bitOf prog_1_method_43_code 2 (some .int) : Cond) ∈ tbg := tbg_in2 590 rfl rfl
theorem wd_591 : (.methodLink "QuotaLaws" 173 y_Q_withBit : Cond) ∈ tbg := tbg_in2 591 (by decide +kernel) rfl
theorem wd_592 : (.static y_Q_withBit : Cond) ∈ tbg := tbg_in2 592 (by decide +kernel) rfl
set_option maxRecDepth 100000 in
theorem wd_593 : (.code y_Q_withBit prog_1_method_44_code 3 (some .int) : Cond) ∈ tbg := tbg_in2 593 rfl rfl
theorem wd_594 : (.methodLink "QuotaLawsLaw" 61 y_Q_time : Cond) ∈ tbg := tbg_in2 594 (by decide +kernel) rfl
theorem wd_595 : (.instanceMethod y_Q_time : Cond) ∈ tbg := tbg_in2 595 (by decide +kernel) rfl
theorem wd_596 : (.selects "QuotaLaws" y_Q_time y_Q_time : Cond) ∈ tbg := tbg_in2 596 (by decide +kernel) rfl
set_option maxRecDepth 100000 in
theorem wd_597 : (.code y_Q_time prog_1_method_13_code 4 (some .int) : Cond) ∈ tbg := tbg_in2 597 rfl rfl
theorem wd_598 : (.methodLink "QuotaLawsLaw" 65 y_Q_refuse : Cond) ∈ tbg := tbg_in2 598 (by decide +kernel) rfl
theorem wd_599 : (.instanceMethod y_Q_refuse : Cond) ∈ tbg := tbg_in2 599 (by decide +kernel) rfl
theorem wd_600 : (.selects "QuotaLaws" y_Q_refuse y_Q_refuse : Cond) ∈ tbg := tbg_in2 600 (by decide +kernel) rfl
set_option maxRecDepth 100000 in
theorem wd_601 : (.code y_Q_refuse prog_1_method_14_code 5 (some .int) : Cond) ∈ tbg := tbg_in2 601 rfl rfl
theorem wd_602 : (.methodLink "QuotaLawsLaw" 70 y_Q_want : Cond) ∈ tbg := tbg_in2 602 (by decide +kernel) rfl
theorem wd_603 : (.instanceMethod y_Q_want : Cond) ∈ tbg := tbg_in2 603 (by decide +kernel) rfl
theorem wd_604 : (.selects "QuotaLaws" y_Q_want y_Q_want : Cond) ∈ tbg := tbg_in2 604 (by decide +kernel) rfl
set_option maxRecDepth 100000 in
theorem wd_605 : (.code y_Q_want prog_1_method_15_code 5 (some .int) : Cond) ∈ tbg := tbg_in2 605 rfl rfl
theorem wd_606 : (.methodLink "QuotaLawsLaw" 74 y_Q_fund : Cond) ∈ tbg := tbg_in2 606 (by decide +kernel) rfl
theorem wd_607 : (.instanceMethod y_Q_fund : Cond) ∈ tbg := tbg_in2 607 (by decide +kernel) rfl
theorem wd_608 : (.selects "QuotaLaws" y_Q_fund y_Q_fund : Cond) ∈ tbg := tbg_in2 608 (by decide +kernel) rfl
set_option maxRecDepth 100000 in
theorem wd_609 : (.code y_Q_fund prog_1_method_16_code 4 (some .int) : Cond) ∈ tbg := tbg_in2 609 rfl rfl
theorem wd_610 : (.methodLink "QuotaLawsLaw" 78 y_Q_revive : Cond) ∈ tbg := tbg_in2 610 (by decide +kernel) rfl
theorem wd_611 : (.instanceMethod y_Q_revive : Cond) ∈ tbg := tbg_in2 611 (by decide +kernel) rfl
theorem wd_612 : (.selects "QuotaLaws" y_Q_revive y_Q_revive : Cond) ∈ tbg := tbg_in2 612 (by decide +kernel) rfl
set_option maxRecDepth 100000 in
theorem wd_613 : (.code y_Q_revive prog_1_method_17_code 2 (some .int) : Cond) ∈ tbg := tbg_in2 613 rfl rfl
theorem wd_614 : (.methodLink "QuotaLaws" 177 y_Q_hasBit : Cond) ∈ tbg := tbg_in2 614 (by decide +kernel) rfl
theorem wd_615 : (.methodLink "QuotaLaws" 180 y_Integer_bitCount : Cond) ∈ tbg := tbg_in2 615 (by decide +kernel) rfl
theorem wd_616 : (.static y_Integer_bitCount : Cond) ∈ tbg := tbg_in2 616 (by decide +kernel) rfl
set_option maxRecDepth 100000 in
theorem wd_617 : (.code y_Integer_bitCount prog_11_method_49_code 1 (some .int) : Cond) ∈ tbg := tbg_in2 617 rfl rfl
theorem wd_618 : (.constant "java/lang/Integer" 265 (1431655765) : Cond) ∈ tbg := tbg_in2 618 (by decide +kernel) rfl
theorem wd_619 : (.constant "java/lang/Integer" 266 (858993459) : Cond) ∈ tbg := tbg_in2 619 (by decide +kernel) rfl
theorem wd_620 : (.constant "java/lang/Integer" 267 (252645135) : Cond) ∈ tbg := tbg_in2 620 (by decide +kernel) rfl
theorem wd_621 : (.methodLink "QuotaLawsLaw" 82 y_Q_breaks : Cond) ∈ tbg := tbg_in2 621 (by decide +kernel) rfl
theorem wd_622 : (.instanceMethod y_Q_breaks : Cond) ∈ tbg := tbg_in2 622 (by decide +kernel) rfl
theorem wd_623 : (.selects "QuotaLaws" y_Q_breaks y_Q_breaks : Cond) ∈ tbg := tbg_in2 623 (by decide +kernel) rfl
set_option maxRecDepth 100000 in
theorem wd_624 : (.code y_Q_breaks prog_1_method_18_code 3 (some .int) : Cond) ∈ tbg := tbg_in2 624 rfl rfl
theorem wd_625 : (.methodLink "QuotaLaws" 185 y_Realm_breakOnce : Cond) ∈ tbg := tbg_in2 625 (by decide +kernel) rfl
theorem wd_626 : (.instanceMethod y_Realm_breakOnce : Cond) ∈ tbg := tbg_in2 626 (by decide +kernel) rfl
theorem wd_627 : (.selects "QuotaLaws$Realm" y_Realm_breakOnce y_Realm_breakOnce : Cond) ∈ tbg := tbg_in2 627 (by decide +kernel) rfl
set_option maxRecDepth 100000 in
theorem wd_628 : (.code y_Realm_breakOnce prog_5_method_19_code 4 (some .int) : Cond) ∈ tbg := tbg_in2 628 rfl rfl
theorem wd_629 : (.methodLink "QuotaLaws$Realm" 132 y_Realm_hasBoth : Cond) ∈ tbg := tbg_in2 629 (by decide +kernel) rfl
theorem wd_630 : (.methodLink "QuotaLaws$Realm" 135 y_Realm_mark : Cond) ∈ tbg := tbg_in2 630 (by decide +kernel) rfl
theorem wd_631 : (.instanceMethod y_Realm_mark : Cond) ∈ tbg := tbg_in2 631 (by decide +kernel) rfl
theorem wd_632 : (.selects "QuotaLaws$Realm" y_Realm_mark y_Realm_mark : Cond) ∈ tbg := tbg_in2 632 (by decide +kernel) rfl
set_option maxRecDepth 100000 in
theorem wd_633 : (.code y_Realm_mark prog_5_method_20_code 4 (some .int) : Cond) ∈ tbg := tbg_in2 633 rfl rfl
theorem wd_634 : (.methodLink "QuotaLawsLaw" 86 y_Q_year : Cond) ∈ tbg := tbg_in2 634 (by decide +kernel) rfl
theorem wd_635 : (.instanceMethod y_Q_year : Cond) ∈ tbg := tbg_in2 635 (by decide +kernel) rfl
theorem wd_636 : (.selects "QuotaLaws" y_Q_year y_Q_year : Cond) ∈ tbg := tbg_in2 636 (by decide +kernel) rfl
set_option maxRecDepth 100000 in
theorem wd_637 : (.code y_Q_year prog_1_method_19_code 1 (some .int) : Cond) ∈ tbg := tbg_in2 637 rfl rfl
theorem wd_638 : (.methodLink "QuotaLaws" 188 y_Realm_endYear : Cond) ∈ tbg := tbg_in2 638 (by decide +kernel) rfl
theorem wd_639 : (.instanceMethod y_Realm_endYear : Cond) ∈ tbg := tbg_in2 639 (by decide +kernel) rfl
theorem wd_640 : (.selects "QuotaLaws$Realm" y_Realm_endYear y_Realm_endYear : Cond) ∈ tbg := tbg_in2 640 (by decide +kernel) rfl
set_option maxRecDepth 100000 in
theorem wd_641 : (.code y_Realm_endYear prog_5_method_22_code 2 (some .int) : Cond) ∈ tbg := tbg_in2 641 rfl rfl
theorem wd_642 : (.methodLink "QuotaLaws$Realm" 141 y_Realm_lapsing : Cond) ∈ tbg := tbg_in2 642 (by decide +kernel) rfl
theorem wd_643 : (.instanceMethod y_Realm_lapsing : Cond) ∈ tbg := tbg_in2 643 (by decide +kernel) rfl
theorem wd_644 : (.selects "QuotaLaws$Realm" y_Realm_lapsing y_Realm_lapsing : Cond) ∈ tbg := tbg_in2 644 (by decide +kernel) rfl
set_option maxRecDepth 100000 in
theorem wd_645 : (.code y_Realm_lapsing prog_5_method_21_code 3 (some .int) : Cond) ∈ tbg := tbg_in2 645 rfl rfl
theorem wd_646 : (.methodLink "QuotaLaws$Realm" 117 y_Realm_needOf : Cond) ∈ tbg := tbg_in2 646 (by decide +kernel) rfl
theorem wd_647 : (.methodLink "QuotaLaws$Realm" 138 y_Realm_chainOf : Cond) ∈ tbg := tbg_in2 647 (by decide +kernel) rfl
theorem wd_648 : (.methodLink "QuotaLawsLaw" 90 y_Q_falls : Cond) ∈ tbg := tbg_in2 648 (by decide +kernel) rfl
theorem wd_649 : (.instanceMethod y_Q_falls : Cond) ∈ tbg := tbg_in2 649 (by decide +kernel) rfl
theorem wd_650 : (.selects "QuotaLaws" y_Q_falls y_Q_falls : Cond) ∈ tbg := tbg_in2 650 (by decide +kernel) rfl
set_option maxRecDepth 100000 in
theorem wd_651 : (.code y_Q_falls prog_1_method_20_code 1 (some .int) : Cond) ∈ tbg := tbg_in2 651 rfl rfl
theorem wd_652 : (.methodLink "QuotaLaws" 192 y_Realm_lapsing : Cond) ∈ tbg := tbg_in2 652 (by decide +kernel) rfl
theorem wd_653 : (.methodLink "QuotaLawsLaw" 94 y_Q_most : Cond) ∈ tbg := tbg_in2 653 (by decide +kernel) rfl
theorem wd_654 : (.instanceMethod y_Q_most : Cond) ∈ tbg := tbg_in2 654 (by decide +kernel) rfl
theorem wd_655 : (.selects "QuotaLaws" y_Q_most y_Q_most : Cond) ∈ tbg := tbg_in2 655 (by decide +kernel) rfl
set_option maxRecDepth 100000 in
theorem wd_656 : (.code y_Q_most prog_1_method_21_code 6 (some .int) : Cond) ∈ tbg := tbg_in2 656 rfl rfl
theorem wd_657 : (.methodLink "QuotaLawsLaw" 98 y_Q_rota : Cond) ∈ tbg := tbg_in2 657 (by decide +kernel) rfl
theorem wd_658 : (.instanceMethod y_Q_rota : Cond) ∈ tbg := tbg_in2 658 (by decide +kernel) rfl
theorem wd_659 : (.selects "QuotaLaws" y_Q_rota y_Q_rota : Cond) ∈ tbg := tbg_in2 659 (by decide +kernel) rfl
set_option maxRecDepth 100000 in
theorem wd_660 : (.code y_Q_rota prog_1_method_22_code 5 (some .int) : Cond) ∈ tbg := tbg_in2 660 rfl rfl
theorem wd_661 : (.methodLink "QuotaLaws" 195 y_Planner_load : Cond) ∈ tbg := tbg_in2 661 (by decide +kernel) rfl
theorem wd_662 : (.instanceMethod y_Planner_load : Cond) ∈ tbg := tbg_in2 662 (by decide +kernel) rfl
theorem wd_663 : (.selects "QuotaLaws$Planner" y_Planner_load y_Planner_load : Cond) ∈ tbg := tbg_in2 663 (by decide +kernel) rfl
set_option maxRecDepth 100000 in
theorem wd_664 : (.code y_Planner_load prog_3_method_2_code 4 none : Cond) ∈ tbg := tbg_in2 664 rfl rfl
theorem wd_665 : (.methodLink "QuotaLaws$Planner" 40 y_Arrays_fillI : Cond) ∈ tbg := tbg_in2 665 (by decide +kernel) rfl
theorem wd_666 : (.methodLink "QuotaLaws$Planner" 46 y_Realm_hasOne : Cond) ∈ tbg := tbg_in2 666 (by decide +kernel) rfl
theorem wd_667 : (.methodLink "QuotaLaws$Planner" 50 y_Realm_timeLeft : Cond) ∈ tbg := tbg_in2 667 (by decide +kernel) rfl
theorem wd_668 : (.methodLink "QuotaLaws$Planner" 54 y_Realm_needOf : Cond) ∈ tbg := tbg_in2 668 (by decide +kernel) rfl
theorem wd_669 : (.methodLink "QuotaLaws$Planner" 60 y_Realm_roomOf : Cond) ∈ tbg := tbg_in2 669 (by decide +kernel) rfl
theorem wd_670 : (.methodLink "QuotaLaws" 198 y_Planner_leastHarm : Cond) ∈ tbg := tbg_in2 670 (by decide +kernel) rfl
theorem wd_671 : (.instanceMethod y_Planner_leastHarm : Cond) ∈ tbg := tbg_in2 671 (by decide +kernel) rfl
theorem wd_672 : (.selects "QuotaLaws$Planner" y_Planner_leastHarm y_Planner_leastHarm : Cond) ∈ tbg := tbg_in2 672 (by decide +kernel) rfl
set_option maxRecDepth 100000 in
theorem wd_673 : (.code y_Planner_leastHarm prog_3_method_7_code 4 (some .int) : Cond) ∈ tbg := tbg_in2 673 rfl rfl
theorem wd_674 : (.constant "QuotaLaws$Planner" 89 (1000000) : Cond) ∈ tbg := tbg_in2 674 (by decide +kernel) rfl
theorem wd_675 : (.methodLink "QuotaLaws$Planner" 90 y_Planner_leftToLast : Cond) ∈ tbg := tbg_in2 675 (by decide +kernel) rfl
theorem wd_677 : (.instanceMethod y_Planner_leftToLast : Cond) ∈ tbg := tbg_in2 677 (by decide +kernel) rfl
set_option maxRecDepth 100000 in
theorem wd_678 : (.code y_Planner_leftToLast prog_3_method_9_code 4 (some .int) : Cond) ∈ tbg := tbg_in2 678 rfl rfl
theorem wd_679 : (.methodLink "QuotaLaws$Planner" 94 y_Planner_stateOf : Cond) ∈ tbg := tbg_in2 679 (by decide +kernel) rfl
theorem wd_680 : (.static y_Planner_stateOf : Cond) ∈ tbg := tbg_in2 680 (by decide +kernel) rfl
set_option maxRecDepth 100000 in
theorem wd_681 : (.code y_Planner_stateOf prog_3_method_10_code 3 (some .int) : Cond) ∈ tbg := tbg_in2 681 rfl rfl
theorem wd_682 : (.methodLink "QuotaLaws$Planner" 97 y_Planner_search : Cond) ∈ tbg := tbg_in2 682 (by decide +kernel) rfl
theorem wd_684 : (.instanceMethod y_Planner_search : Cond) ∈ tbg := tbg_in2 684 (by decide +kernel) rfl
set_option maxRecDepth 100000 in
theorem wd_685 : (.code y_Planner_search prog_3_method_11_code 12 (some .int) : Cond) ∈ tbg := tbg_in2 685 rfl rfl
theorem wd_686 : (.methodLink "QuotaLaws$Planner" 86 Lib.Math.min.name : Cond) ∈ tbg := tbg_in2 686 (by decide +kernel) rfl
theorem wd_687 : (.methodLinkNest "QuotaLaws$Planner" 100 y_Q_isWithin "QuotaLaws" : Cond) ∈ nests := nests_in2 687 (by decide +kernel) rfl
theorem wd_688 : (.methodLink "QuotaLaws" 201 y_Planner_timesInFirst : Cond) ∈ tbg := tbg_in2 688 (by decide +kernel) rfl
theorem wd_689 : (.instanceMethod y_Planner_timesInFirst : Cond) ∈ tbg := tbg_in2 689 (by decide +kernel) rfl
theorem wd_690 : (.selects "QuotaLaws$Planner" y_Planner_timesInFirst y_Planner_timesInFirst : Cond) ∈ tbg := tbg_in2 690 (by decide +kernel) rfl
set_option maxRecDepth 100000 in
theorem wd_691 : (.code y_Planner_timesInFirst prog_3_method_8_code 6 (some .int) : Cond) ∈ tbg := tbg_in2 691 rfl rfl
theorem wd_692 : (.methodLink "QuotaLawsLaw" 102 y_Q_more : Cond) ∈ tbg := tbg_in2 692 (by decide +kernel) rfl
theorem wd_693 : (.instanceMethod y_Q_more : Cond) ∈ tbg := tbg_in2 693 (by decide +kernel) rfl
theorem wd_694 : (.selects "QuotaLaws" y_Q_more y_Q_more : Cond) ∈ tbg := tbg_in2 694 (by decide +kernel) rfl
set_option maxRecDepth 100000 in
theorem wd_695 : (.code y_Q_more prog_1_method_23_code 3 (some .int) : Cond) ∈ tbg := tbg_in2 695 rfl rfl
theorem wd_696 : (.methodLink "QuotaLaws" 204 y_Planner_grant : Cond) ∈ tbg := tbg_in2 696 (by decide +kernel) rfl
theorem wd_697 : (.instanceMethod y_Planner_grant : Cond) ∈ tbg := tbg_in2 697 (by decide +kernel) rfl
theorem wd_698 : (.selects "QuotaLaws$Planner" y_Planner_grant y_Planner_grant : Cond) ∈ tbg := tbg_in2 698 (by decide +kernel) rfl
set_option maxRecDepth 100000 in
theorem wd_699 : (.code y_Planner_grant prog_3_method_3_code 3 none : Cond) ∈ tbg := tbg_in2 699 rfl rfl
theorem wd_700 : (.methodLink "QuotaLaws$Planner" 68 Lib.Math.max.name : Cond) ∈ tbg := tbg_in2 700 (by decide +kernel) rfl
theorem wd_701 : (.methodLink "QuotaLaws" 208 y_Planner_canMeet : Cond) ∈ tbg := tbg_in2 701 (by decide +kernel) rfl
theorem wd_702 : (.instanceMethod y_Planner_canMeet : Cond) ∈ tbg := tbg_in2 702 (by decide +kernel) rfl
theorem wd_703 : (.selects "QuotaLaws$Planner" y_Planner_canMeet y_Planner_canMeet : Cond) ∈ tbg := tbg_in2 703 (by decide +kernel) rfl
set_option maxRecDepth 100000 in
theorem wd_704 : (.code y_Planner_canMeet prog_3_method_4_code 3 (some .boolean) : Cond) ∈ tbg := tbg_in2 704 rfl rfl
theorem wd_705 : (.methodLinkNest "QuotaLaws$Planner" 73 y_Q_isPart "QuotaLaws" : Cond) ∈ nests := nests_in2 705 (by decide +kernel) rfl
theorem wd_706 : (.methodLink "QuotaLaws$Planner" 77 y_Planner_needOfAll : Cond) ∈ tbg := tbg_in2 706 (by decide +kernel) rfl
theorem wd_708 : (.instanceMethod y_Planner_needOfAll : Cond) ∈ tbg := tbg_in2 708 (by decide +kernel) rfl
set_option maxRecDepth 100000 in
theorem wd_709 : (.code y_Planner_needOfAll prog_3_method_5_code 4 (some .int) : Cond) ∈ tbg := tbg_in2 709 rfl rfl
theorem wd_710 : (.methodLinkNest "QuotaLaws$Planner" 83 y_Q_hasBit "QuotaLaws" : Cond) ∈ nests := nests_in2 710 (by decide +kernel) rfl
theorem wd_711 : (.methodLink "QuotaLaws$Planner" 80 y_Planner_givenTo : Cond) ∈ tbg := tbg_in2 711 (by decide +kernel) rfl
theorem wd_713 : (.instanceMethod y_Planner_givenTo : Cond) ∈ tbg := tbg_in2 713 (by decide +kernel) rfl
set_option maxRecDepth 100000 in
theorem wd_714 : (.code y_Planner_givenTo prog_3_method_6_code 6 (some .int) : Cond) ∈ tbg := tbg_in2 714 rfl rfl
theorem wd_715 : (.methodLink "QuotaLawsLaw" 106 y_Q_together : Cond) ∈ tbg := tbg_in2 715 (by decide +kernel) rfl
theorem wd_716 : (.instanceMethod y_Q_together : Cond) ∈ tbg := tbg_in2 716 (by decide +kernel) rfl
theorem wd_717 : (.selects "QuotaLaws" y_Q_together y_Q_together : Cond) ∈ tbg := tbg_in2 717 (by decide +kernel) rfl
set_option maxRecDepth 100000 in
theorem wd_718 : (.code y_Q_together prog_1_method_24_code 5 (some .int) : Cond) ∈ tbg := tbg_in2 718 rfl rfl
theorem wd_719 : (.methodLink "QuotaLaws" 211 y_Q_isPart : Cond) ∈ tbg := tbg_in2 719 (by decide +kernel) rfl
theorem wd_720 : (.methodLink "QuotaLawsLaw" 110 y_Q_kill : Cond) ∈ tbg := tbg_in2 720 (by decide +kernel) rfl
theorem wd_721 : (.instanceMethod y_Q_kill : Cond) ∈ tbg := tbg_in2 721 (by decide +kernel) rfl
theorem wd_722 : (.selects "QuotaLaws" y_Q_kill y_Q_kill : Cond) ∈ tbg := tbg_in2 722 (by decide +kernel) rfl
set_option maxRecDepth 100000 in
theorem wd_723 : (.code y_Q_kill prog_1_method_25_code 6 (some .int) : Cond) ∈ tbg := tbg_in2 723 rfl rfl
theorem wd_724 : (.methodLink "QuotaLaws" 214 y_Realm_ableWithout : Cond) ∈ tbg := tbg_in2 724 (by decide +kernel) rfl
theorem wd_725 : (.instanceMethod y_Realm_ableWithout : Cond) ∈ tbg := tbg_in2 725 (by decide +kernel) rfl
theorem wd_726 : (.selects "QuotaLaws$Realm" y_Realm_ableWithout y_Realm_ableWithout : Cond) ∈ tbg := tbg_in2 726 (by decide +kernel) rfl
set_option maxRecDepth 100000 in
theorem wd_727 : (.code y_Realm_ableWithout prog_5_method_17_code 5 (some .int) : Cond) ∈ tbg := tbg_in2 727 rfl rfl
theorem wd_728 : (.methodLink "QuotaLawsLaw" 114 y_Q_selfish : Cond) ∈ tbg := tbg_in2 728 (by decide +kernel) rfl
theorem wd_729 : (.instanceMethod y_Q_selfish : Cond) ∈ tbg := tbg_in2 729 (by decide +kernel) rfl
theorem wd_730 : (.selects "QuotaLaws" y_Q_selfish y_Q_selfish : Cond) ∈ tbg := tbg_in2 730 (by decide +kernel) rfl
set_option maxRecDepth 100000 in
theorem wd_731 : (.code y_Q_selfish prog_1_method_26_code 3 (some .int) : Cond) ∈ tbg := tbg_in2 731 rfl rfl
theorem wd_732 : (.methodLink "QuotaLaws" 217 y_Realm_eachForHimself : Cond) ∈ tbg := tbg_in2 732 (by decide +kernel) rfl
theorem wd_733 : (.instanceMethod y_Realm_eachForHimself : Cond) ∈ tbg := tbg_in2 733 (by decide +kernel) rfl
theorem wd_734 : (.selects "QuotaLaws$Realm" y_Realm_eachForHimself y_Realm_eachForHimself : Cond) ∈ tbg := tbg_in2 734 (by decide +kernel) rfl
set_option maxRecDepth 100000 in
theorem wd_735 : (.code y_Realm_eachForHimself prog_5_method_24_code 6 (some .int) : Cond) ∈ tbg := tbg_in2 735 rfl rfl
theorem wd_736 : (.methodLink "QuotaLaws$Realm" 145 y_Realm_mostNeeded : Cond) ∈ tbg := tbg_in2 736 (by decide +kernel) rfl
theorem wd_737 : (.instanceMethod y_Realm_mostNeeded : Cond) ∈ tbg := tbg_in2 737 (by decide +kernel) rfl
theorem wd_738 : (.selects "QuotaLaws$Realm" y_Realm_mostNeeded y_Realm_mostNeeded : Cond) ∈ tbg := tbg_in2 738 (by decide +kernel) rfl
set_option maxRecDepth 100000 in
theorem wd_739 : (.code y_Realm_mostNeeded prog_5_method_25_code 6 (some .int) : Cond) ∈ tbg := tbg_in2 739 rfl rfl
theorem wd_740 : (.methodLink "QuotaLaws$Realm" 148 y_Realm_breakable : Cond) ∈ tbg := tbg_in2 740 (by decide +kernel) rfl
theorem wd_741 : (.methodLink "QuotaLaws" 220 y_Realm_met : Cond) ∈ tbg := tbg_in2 741 (by decide +kernel) rfl
theorem wd_742 : (.instanceMethod y_Realm_met : Cond) ∈ tbg := tbg_in2 742 (by decide +kernel) rfl
theorem wd_743 : (.selects "QuotaLaws$Realm" y_Realm_met y_Realm_met : Cond) ∈ tbg := tbg_in2 743 (by decide +kernel) rfl
set_option maxRecDepth 100000 in
theorem wd_744 : (.code y_Realm_met prog_5_method_23_code 3 (some .int) : Cond) ∈ tbg := tbg_in2 744 rfl rfl
theorem wd_745 : (.methodLink "QuotaLawsLaw" 118 y_Q_luck : Cond) ∈ tbg := tbg_in2 745 (by decide +kernel) rfl
theorem wd_746 : (.instanceMethod y_Q_luck : Cond) ∈ tbg := tbg_in2 746 (by decide +kernel) rfl
theorem wd_747 : (.selects "QuotaLaws" y_Q_luck y_Q_luck : Cond) ∈ tbg := tbg_in2 747 (by decide +kernel) rfl
set_option maxRecDepth 100000 in
theorem wd_748 : (.code y_Q_luck prog_1_method_27_code 3 (some .long) : Cond) ∈ tbg := tbg_in2 748 rfl rfl
theorem wd_749 : (.constantLong "QuotaLaws" 223 (-1) : Cond) ∈ tbg := tbg_in2 749 (by decide +kernel) rfl
theorem wd_750 : (.methodLink "QuotaLaws" 225 y_Odds_weigh : Cond) ∈ tbg := tbg_in2 750 (by decide +kernel) rfl
theorem wd_751 : (.instanceMethod y_Odds_weigh : Cond) ∈ tbg := tbg_in2 751 (by decide +kernel) rfl
theorem wd_752 : (.selects "QuotaLaws$Odds" y_Odds_weigh y_Odds_weigh : Cond) ∈ tbg := tbg_in2 752 (by decide +kernel) rfl
set_option maxRecDepth 100000 in
theorem wd_753 : (.code y_Odds_weigh prog_2_method_2_code 6 none : Cond) ∈ tbg := tbg_in2 753 rfl rfl
theorem wd_754 : (.methodLink "QuotaLaws$Odds" 15 y_Arrays_fillJ : Cond) ∈ tbg := tbg_in2 754 (by decide +kernel) rfl
theorem wd_755 : (.static y_Arrays_fillJ : Cond) ∈ tbg := tbg_in2 755 (by decide +kernel) rfl
set_option maxRecDepth 100000 in
theorem wd_756 : (.code y_Arrays_fillJ prog_17_method_101_code 5 none : Cond) ∈ tbg := tbg_in2 756 rfl rfl
theorem wd_757 : (.methodLink "QuotaLaws$Odds" 31 y_Realm_ableAlone : Cond) ∈ tbg := tbg_in2 757 (by decide +kernel) rfl
theorem wd_758 : (.methodLink "QuotaLaws$Odds" 39 y_Odds_addTry : Cond) ∈ tbg := tbg_in2 758 (by decide +kernel) rfl
theorem wd_760 : (.instanceMethod y_Odds_addTry : Cond) ∈ tbg := tbg_in2 760 (by decide +kernel) rfl
set_option maxRecDepth 100000 in
theorem wd_761 : (.code y_Odds_addTry prog_2_method_3_code 3 none : Cond) ∈ tbg := tbg_in2 761 rfl rfl
theorem wd_762 : (.constantLong "QuotaLaws$Odds" 53 (10) : Cond) ∈ tbg := tbg_in2 762 (by decide +kernel) rfl
theorem wd_763 : (.methodLink "QuotaLaws$Odds" 46 y_Realm_needOf : Cond) ∈ tbg := tbg_in2 763 (by decide +kernel) rfl
theorem wd_764 : (.methodLink "QuotaLaws$Odds" 50 y_Odds_reduce : Cond) ∈ tbg := tbg_in2 764 (by decide +kernel) rfl
theorem wd_766 : (.instanceMethod y_Odds_reduce : Cond) ∈ tbg := tbg_in2 766 (by decide +kernel) rfl
set_option maxRecDepth 100000 in
theorem wd_767 : (.code y_Odds_reduce prog_2_method_4_code 8 none : Cond) ∈ tbg := tbg_in2 767 rfl rfl
theorem wd_768 : (.methodLink "QuotaLawsLaw" 123 y_Q_see : Cond) ∈ tbg := tbg_in2 768 (by decide +kernel) rfl
theorem wd_769 : (.instanceMethod y_Q_see : Cond) ∈ tbg := tbg_in2 769 (by decide +kernel) rfl
theorem wd_770 : (.selects "QuotaLaws" y_Q_see y_Q_see : Cond) ∈ tbg := tbg_in2 770 (by decide +kernel) rfl
set_option maxRecDepth 100000 in
theorem wd_771 : (.code y_Q_see prog_1_method_28_code 5 (some .int) : Cond) ∈ tbg := tbg_in2 771 rfl rfl
theorem wd_772 : (.methodLink "QuotaLaws" 240 y_Sightings_append : Cond) ∈ tbg := tbg_in2 772 (by decide +kernel) rfl
theorem wd_773 : (.instanceMethod y_Sightings_append : Cond) ∈ tbg := tbg_in2 773 (by decide +kernel) rfl
theorem wd_774 : (.selects "QuotaLaws$Sightings" y_Sightings_append y_Sightings_append : Cond) ∈ tbg := tbg_in2 774 (by decide +kernel) rfl
set_option maxRecDepth 100000 in
theorem wd_775 : (.code y_Sightings_append prog_7_method_2_code 4 (some .boolean) : Cond) ∈ tbg := tbg_in2 775 rfl rfl
theorem wd_776 : (.methodLink "QuotaLawsLaw" 128 y_Q_forget : Cond) ∈ tbg := tbg_in2 776 (by decide +kernel) rfl
theorem wd_777 : (.instanceMethod y_Q_forget : Cond) ∈ tbg := tbg_in2 777 (by decide +kernel) rfl
theorem wd_778 : (.selects "QuotaLaws" y_Q_forget y_Q_forget : Cond) ∈ tbg := tbg_in2 778 (by decide +kernel) rfl
set_option maxRecDepth 100000 in
theorem wd_779 : (.code y_Q_forget prog_1_method_29_code 3 (some .int) : Cond) ∈ tbg := tbg_in2 779 rfl rfl
theorem wd_780 : (.methodLink "QuotaLawsLaw" 132 y_Q_books : Cond) ∈ tbg := tbg_in2 780 (by decide +kernel) rfl
theorem wd_781 : (.instanceMethod y_Q_books : Cond) ∈ tbg := tbg_in2 781 (by decide +kernel) rfl
theorem wd_782 : (.selects "QuotaLaws" y_Q_books y_Q_books : Cond) ∈ tbg := tbg_in2 782 (by decide +kernel) rfl
set_option maxRecDepth 100000 in
theorem wd_783 : (.code y_Q_books prog_1_method_30_code 1 (some .long) : Cond) ∈ tbg := tbg_in2 783 rfl rfl
theorem wd_784 : (.methodLink "QuotaLaws" 247 y_Tables_load : Cond) ∈ tbg := tbg_in2 784 (by decide +kernel) rfl
theorem wd_785 : (.instanceMethod y_Tables_load : Cond) ∈ tbg := tbg_in2 785 (by decide +kernel) rfl
theorem wd_786 : (.selects "QuotaLaws$Tables" y_Tables_load y_Tables_load : Cond) ∈ tbg := tbg_in2 786 (by decide +kernel) rfl
set_option maxRecDepth 100000 in
theorem wd_787 : (.code y_Tables_load prog_8_method_2_code 6 none : Cond) ∈ tbg := tbg_in2 787 rfl rfl
theorem wd_788 : (.methodLink "QuotaLaws$Tables" 41 y_Arrays_fillI : Cond) ∈ tbg := tbg_in2 788 (by decide +kernel) rfl
theorem wd_789 : (.methodLink "QuotaLaws$Tables" 53 y_Sightings_sumDue : Cond) ∈ tbg := tbg_in2 789 (by decide +kernel) rfl
theorem wd_790 : (.instanceMethod y_Sightings_sumDue : Cond) ∈ tbg := tbg_in2 790 (by decide +kernel) rfl
theorem wd_791 : (.selects "QuotaLaws$Sightings" y_Sightings_sumDue y_Sightings_sumDue : Cond) ∈ tbg := tbg_in2 791 (by decide +kernel) rfl
set_option maxRecDepth 100000 in
theorem wd_792 : (.code y_Sightings_sumDue prog_7_method_3_code 5 (some .int) : Cond) ∈ tbg := tbg_in2 792 rfl rfl
theorem wd_793 : (.methodLink "QuotaLaws$Tables" 57 y_Realm_hasOne : Cond) ∈ tbg := tbg_in2 793 (by decide +kernel) rfl
theorem wd_794 : (.methodLinkNest "QuotaLaws$Tables" 65 y_Q_hasBit "QuotaLaws" : Cond) ∈ nests := nests_in2 794 (by decide +kernel) rfl
theorem wd_795 : (.methodLink "QuotaLaws" 248 y_Tables_fitting : Cond) ∈ tbg := tbg_in2 795 (by decide +kernel) rfl
theorem wd_796 : (.instanceMethod y_Tables_fitting : Cond) ∈ tbg := tbg_in2 796 (by decide +kernel) rfl
theorem wd_797 : (.selects "QuotaLaws$Tables" y_Tables_fitting y_Tables_fitting : Cond) ∈ tbg := tbg_in2 797 (by decide +kernel) rfl
set_option maxRecDepth 100000 in
theorem wd_798 : (.code y_Tables_fitting prog_8_method_4_code 3 (some .long) : Cond) ∈ tbg := tbg_in2 798 rfl rfl
theorem wd_799 : (.methodLink "QuotaLaws$Tables" 76 y_Arrays_fillJ : Cond) ∈ tbg := tbg_in2 799 (by decide +kernel) rfl
theorem wd_800 : (.methodLink "QuotaLaws$Tables" 79 y_Tables_spendAlone : Cond) ∈ tbg := tbg_in2 800 (by decide +kernel) rfl
theorem wd_802 : (.instanceMethod y_Tables_spendAlone : Cond) ∈ tbg := tbg_in2 802 (by decide +kernel) rfl
set_option maxRecDepth 100000 in
theorem wd_803 : (.code y_Tables_spendAlone prog_8_method_5_code 9 none : Cond) ∈ tbg := tbg_in2 803 rfl rfl
theorem wd_804 : (.methodLink "QuotaLaws$Tables" 83 y_Tables_joinAll : Cond) ∈ tbg := tbg_in2 804 (by decide +kernel) rfl
theorem wd_806 : (.instanceMethod y_Tables_joinAll : Cond) ∈ tbg := tbg_in2 806 (by decide +kernel) rfl
set_option maxRecDepth 100000 in
theorem wd_807 : (.code y_Tables_joinAll prog_8_method_6_code 4 none : Cond) ∈ tbg := tbg_in2 807 rfl rfl
theorem wd_808 : (.methodLink "QuotaLaws$Tables" 93 y_Tables_stateOf : Cond) ∈ tbg := tbg_in2 808 (by decide +kernel) rfl
theorem wd_809 : (.static y_Tables_stateOf : Cond) ∈ tbg := tbg_in2 809 (by decide +kernel) rfl
set_option maxRecDepth 100000 in
theorem wd_810 : (.code y_Tables_stateOf prog_8_method_11_code 3 (some .int) : Cond) ∈ tbg := tbg_in2 810 rfl rfl
theorem wd_811 : (.methodLink "QuotaLaws$Tables" 86 y_Tables_spendTogether : Cond) ∈ tbg := tbg_in2 811 (by decide +kernel) rfl
theorem wd_813 : (.instanceMethod y_Tables_spendTogether : Cond) ∈ tbg := tbg_in2 813 (by decide +kernel) rfl
set_option maxRecDepth 100000 in
theorem wd_814 : (.code y_Tables_spendTogether prog_8_method_7_code 5 none : Cond) ∈ tbg := tbg_in2 814 rfl rfl
theorem wd_815 : (.methodLink "QuotaLaws$Tables" 97 y_Tables_waysTo : Cond) ∈ tbg := tbg_in2 815 (by decide +kernel) rfl
theorem wd_817 : (.instanceMethod y_Tables_waysTo : Cond) ∈ tbg := tbg_in2 817 (by decide +kernel) rfl
set_option maxRecDepth 100000 in
theorem wd_818 : (.code y_Tables_waysTo prog_8_method_8_code 13 (some .long) : Cond) ∈ tbg := tbg_in2 818 rfl rfl
theorem wd_819 : (.methodLink "QuotaLaws$Tables" 101 Lib.Math.min.name : Cond) ∈ tbg := tbg_in2 819 (by decide +kernel) rfl
theorem wd_820 : (.methodLinkNest "QuotaLaws$Tables" 106 y_Q_isWithin "QuotaLaws" : Cond) ∈ nests := nests_in2 820 (by decide +kernel) rfl
theorem wd_821 : (.methodLink "QuotaLaws$Tables" 90 y_Tables_sumOfDue : Cond) ∈ tbg := tbg_in2 821 (by decide +kernel) rfl
theorem wd_823 : (.instanceMethod y_Tables_sumOfDue : Cond) ∈ tbg := tbg_in2 823 (by decide +kernel) rfl
set_option maxRecDepth 100000 in
theorem wd_824 : (.code y_Tables_sumOfDue prog_8_method_9_code 6 (some .long) : Cond) ∈ tbg := tbg_in2 824 rfl rfl
theorem wd_825 : (.methodLink "QuotaLaws$Tables" 110 y_Tables_isDueOf : Cond) ∈ tbg := tbg_in2 825 (by decide +kernel) rfl
theorem wd_827 : (.instanceMethod y_Tables_isDueOf : Cond) ∈ tbg := tbg_in2 827 (by decide +kernel) rfl
set_option maxRecDepth 100000 in
theorem wd_828 : (.code y_Tables_isDueOf prog_8_method_10_code 3 (some .boolean) : Cond) ∈ tbg := tbg_in2 828 rfl rfl
theorem wd_829 : (.methodLink "QuotaLawsLaw" 137 y_Q_entry : Cond) ∈ tbg := tbg_in2 829 (by decide +kernel) rfl
theorem wd_830 : (.instanceMethod y_Q_entry : Cond) ∈ tbg := tbg_in2 830 (by decide +kernel) rfl
theorem wd_831 : (.selects "QuotaLaws" y_Q_entry y_Q_entry : Cond) ∈ tbg := tbg_in2 831 (by decide +kernel) rfl
set_option maxRecDepth 100000 in
theorem wd_832 : (.code y_Q_entry prog_1_method_31_code 4 (some .int) : Cond) ∈ tbg := tbg_in2 832 rfl rfl
theorem wd_833 : (.methodLink "QuotaLaws" 252 y_Tables_firstThatFits : Cond) ∈ tbg := tbg_in2 833 (by decide +kernel) rfl
theorem wd_834 : (.instanceMethod y_Tables_firstThatFits : Cond) ∈ tbg := tbg_in2 834 (by decide +kernel) rfl
theorem wd_835 : (.selects "QuotaLaws$Tables" y_Tables_firstThatFits y_Tables_firstThatFits : Cond) ∈ tbg := tbg_in2 835 (by decide +kernel) rfl
set_option maxRecDepth 100000 in
theorem wd_836 : (.code y_Tables_firstThatFits prog_8_method_3_code 8 (some .int) : Cond) ∈ tbg := tbg_in2 836 rfl rfl
theorem wd_837 : (.methodLink "QuotaLaws$Tables" 72 y_Tables_fitting : Cond) ∈ tbg := tbg_in2 837 (by decide +kernel) rfl
theorem wd_838 : (.methodLink "QuotaLawsLaw" 141 y_Q_wild : Cond) ∈ tbg := tbg_in2 838 (by decide +kernel) rfl
theorem wd_839 : (.instanceMethod y_Q_wild : Cond) ∈ tbg := tbg_in2 839 (by decide +kernel) rfl
theorem wd_840 : (.selects "QuotaLaws" y_Q_wild y_Q_wild : Cond) ∈ tbg := tbg_in2 840 (by decide +kernel) rfl
set_option maxRecDepth 100000 in
theorem wd_841 : (.code y_Q_wild prog_1_method_32_code 5 (some .int) : Cond) ∈ tbg := tbg_in2 841 rfl rfl
theorem wd_842 : (.methodLink "QuotaLaws" 255 y_Realm_breakBySeed : Cond) ∈ tbg := tbg_in2 842 (by decide +kernel) rfl
theorem wd_843 : (.instanceMethod y_Realm_breakBySeed : Cond) ∈ tbg := tbg_in2 843 (by decide +kernel) rfl
theorem wd_844 : (.selects "QuotaLaws$Realm" y_Realm_breakBySeed y_Realm_breakBySeed : Cond) ∈ tbg := tbg_in2 844 (by decide +kernel) rfl
set_option maxRecDepth 100000 in
theorem wd_845 : (.code y_Realm_breakBySeed prog_5_method_26_code 8 (some .int) : Cond) ∈ tbg := tbg_in2 845 rfl rfl
theorem wd_846 : (.methodLink "QuotaLaws$Realm" 151 y_Realm_nextSeed : Cond) ∈ tbg := tbg_in2 846 (by decide +kernel) rfl
theorem wd_847 : (.static y_Realm_nextSeed : Cond) ∈ tbg := tbg_in2 847 (by decide +kernel) rfl
set_option maxRecDepth 100000 in
theorem wd_848 : (.code y_Realm_nextSeed prog_5_method_27_code 1 (some .int) : Cond) ∈ tbg := tbg_in2 848 rfl rfl
theorem wd_849 : (.constant "QuotaLaws$Realm" 160 (1103515245) : Cond) ∈ tbg := tbg_in2 849 (by decide +kernel) rfl
theorem wd_850 : (.methodLink "QuotaLaws$Realm" 154 y_Realm_drawn : Cond) ∈ tbg := tbg_in2 850 (by decide +kernel) rfl
theorem wd_851 : (.static y_Realm_drawn : Cond) ∈ tbg := tbg_in2 851 (by decide +kernel) rfl
set_option maxRecDepth 100000 in
theorem wd_852 : (.code y_Realm_drawn prog_5_method_28_code 1 (some .int) : Cond) ∈ tbg := tbg_in2 852 rfl rfl
theorem wd_853 : (.methodLink "QuotaLaws$Realm" 157 y_Realm_breakOnce : Cond) ∈ tbg := tbg_in2 853 (by decide +kernel) rfl
theorem wd_854 : (.methodLink "QuotaLawsLaw" 145 y_Q_keep : Cond) ∈ tbg := tbg_in2 854 (by decide +kernel) rfl
theorem wd_855 : (.instanceMethod y_Q_keep : Cond) ∈ tbg := tbg_in2 855 (by decide +kernel) rfl
theorem wd_856 : (.selects "QuotaLaws" y_Q_keep y_Q_keep : Cond) ∈ tbg := tbg_in2 856 (by decide +kernel) rfl
set_option maxRecDepth 100000 in
theorem wd_857 : (.code y_Q_keep prog_1_method_33_code 3 (some .int) : Cond) ∈ tbg := tbg_in2 857 rfl rfl
theorem wd_858 : (.methodLink "QuotaLawsLaw" 149 y_Q_back : Cond) ∈ tbg := tbg_in2 858 (by decide +kernel) rfl
theorem wd_859 : (.instanceMethod y_Q_back : Cond) ∈ tbg := tbg_in2 859 (by decide +kernel) rfl
theorem wd_860 : (.selects "QuotaLaws" y_Q_back y_Q_back : Cond) ∈ tbg := tbg_in2 860 (by decide +kernel) rfl
set_option maxRecDepth 100000 in
theorem wd_861 : (.code y_Q_back prog_1_method_34_code 2 (some .int) : Cond) ∈ tbg := tbg_in2 861 rfl rfl
theorem wd_862 : (.methodLink "QuotaLawsLaw" 153 y_Q_sheet : Cond) ∈ tbg := tbg_in2 862 (by decide +kernel) rfl
theorem wd_863 : (.instanceMethod y_Q_sheet : Cond) ∈ tbg := tbg_in2 863 (by decide +kernel) rfl
theorem wd_864 : (.selects "QuotaLaws" y_Q_sheet y_Q_sheet : Cond) ∈ tbg := tbg_in2 864 (by decide +kernel) rfl
set_option maxRecDepth 100000 in
theorem wd_865 : (.code y_Q_sheet prog_1_method_35_code 4 (some .int) : Cond) ∈ tbg := tbg_in2 865 rfl rfl
theorem wd_866 : (.methodLink "QuotaLaws" 258 y_Sheet_renew : Cond) ∈ tbg := tbg_in2 866 (by decide +kernel) rfl
theorem wd_867 : (.instanceMethod y_Sheet_renew : Cond) ∈ tbg := tbg_in2 867 (by decide +kernel) rfl
theorem wd_868 : (.selects "QuotaLaws$Sheet" y_Sheet_renew y_Sheet_renew : Cond) ∈ tbg := tbg_in2 868 (by decide +kernel) rfl
set_option maxRecDepth 100000 in
theorem wd_869 : (.code y_Sheet_renew prog_6_method_2_code 3 none : Cond) ∈ tbg := tbg_in2 869 rfl rfl
theorem wd_870 : (.methodLink "QuotaLaws$Sheet" 22 y_Arrays_fillI : Cond) ∈ tbg := tbg_in2 870 (by decide +kernel) rfl
theorem wd_871 : (.methodLink "QuotaLawsLaw" 157 y_Q_lay : Cond) ∈ tbg := tbg_in2 871 (by decide +kernel) rfl
theorem wd_872 : (.instanceMethod y_Q_lay : Cond) ∈ tbg := tbg_in2 872 (by decide +kernel) rfl
theorem wd_873 : (.selects "QuotaLaws" y_Q_lay y_Q_lay : Cond) ∈ tbg := tbg_in2 873 (by decide +kernel) rfl
set_option maxRecDepth 100000 in
theorem wd_874 : (.code y_Q_lay prog_1_method_36_code 5 (some .int) : Cond) ∈ tbg := tbg_in2 874 rfl rfl
theorem wd_875 : (.methodLink "QuotaLaws" 261 y_Sheet_faultAt : Cond) ∈ tbg := tbg_in2 875 (by decide +kernel) rfl
theorem wd_876 : (.instanceMethod y_Sheet_faultAt : Cond) ∈ tbg := tbg_in2 876 (by decide +kernel) rfl
theorem wd_877 : (.selects "QuotaLaws$Sheet" y_Sheet_faultAt y_Sheet_faultAt : Cond) ∈ tbg := tbg_in2 877 (by decide +kernel) rfl
set_option maxRecDepth 100000 in
theorem wd_878 : (.code y_Sheet_faultAt prog_6_method_5_code 3 (some .int) : Cond) ∈ tbg := tbg_in2 878 rfl rfl
theorem wd_879 : (.methodLink "QuotaLaws" 265 y_Sheet_put : Cond) ∈ tbg := tbg_in2 879 (by decide +kernel) rfl
theorem wd_880 : (.instanceMethod y_Sheet_put : Cond) ∈ tbg := tbg_in2 880 (by decide +kernel) rfl
theorem wd_881 : (.selects "QuotaLaws$Sheet" y_Sheet_put y_Sheet_put : Cond) ∈ tbg := tbg_in2 881 (by decide +kernel) rfl
set_option maxRecDepth 100000 in
theorem wd_882 : (.code y_Sheet_put prog_6_method_3_code 3 none : Cond) ∈ tbg := tbg_in2 882 rfl rfl
theorem wd_883 : (.methodLink "QuotaLawsLaw" 161 y_Q_read : Cond) ∈ tbg := tbg_in2 883 (by decide +kernel) rfl
theorem wd_884 : (.instanceMethod y_Q_read : Cond) ∈ tbg := tbg_in2 884 (by decide +kernel) rfl
theorem wd_885 : (.selects "QuotaLaws" y_Q_read y_Q_read : Cond) ∈ tbg := tbg_in2 885 (by decide +kernel) rfl
set_option maxRecDepth 100000 in
theorem wd_886 : (.code y_Q_read prog_1_method_37_code 11 (some .int) : Cond) ∈ tbg := tbg_in2 886 rfl rfl
theorem wd_887 : (.methodLink "QuotaLaws" 268 y_Sheet_faultAs : Cond) ∈ tbg := tbg_in2 887 (by decide +kernel) rfl
theorem wd_888 : (.instanceMethod y_Sheet_faultAs : Cond) ∈ tbg := tbg_in2 888 (by decide +kernel) rfl
theorem wd_889 : (.selects "QuotaLaws$Sheet" y_Sheet_faultAs y_Sheet_faultAs : Cond) ∈ tbg := tbg_in2 889 (by decide +kernel) rfl
set_option maxRecDepth 100000 in
theorem wd_890 : (.code y_Sheet_faultAs prog_6_method_7_code 2 (some .int) : Cond) ∈ tbg := tbg_in2 890 rfl rfl
theorem wd_891 : (.methodLink "QuotaLaws" 271 y_Sheet_faultOfPair : Cond) ∈ tbg := tbg_in2 891 (by decide +kernel) rfl
theorem wd_892 : (.instanceMethod y_Sheet_faultOfPair : Cond) ∈ tbg := tbg_in2 892 (by decide +kernel) rfl
theorem wd_893 : (.selects "QuotaLaws$Sheet" y_Sheet_faultOfPair y_Sheet_faultOfPair : Cond) ∈ tbg := tbg_in2 893 (by decide +kernel) rfl
set_option maxRecDepth 100000 in
theorem wd_894 : (.code y_Sheet_faultOfPair prog_6_method_6_code 4 (some .int) : Cond) ∈ tbg := tbg_in2 894 rfl rfl
theorem wd_895 : (.methodLink "QuotaLaws$Sheet" 28 y_Sheet_faultAt : Cond) ∈ tbg := tbg_in2 895 (by decide +kernel) rfl
theorem wd_896 : (.methodLink "QuotaLaws" 274 y_Sheet_cellAt : Cond) ∈ tbg := tbg_in2 896 (by decide +kernel) rfl
theorem wd_897 : (.instanceMethod y_Sheet_cellAt : Cond) ∈ tbg := tbg_in2 897 (by decide +kernel) rfl
theorem wd_898 : (.selects "QuotaLaws$Sheet" y_Sheet_cellAt y_Sheet_cellAt : Cond) ∈ tbg := tbg_in2 898 (by decide +kernel) rfl
set_option maxRecDepth 100000 in
theorem wd_899 : (.code y_Sheet_cellAt prog_6_method_4_code 3 (some .int) : Cond) ∈ tbg := tbg_in2 899 rfl rfl
theorem wd_900 : (.methodLink "QuotaLawsLaw" 166 y_Q_torn : Cond) ∈ tbg := tbg_in2 900 (by decide +kernel) rfl
theorem wd_901 : (.instanceMethod y_Q_torn : Cond) ∈ tbg := tbg_in2 901 (by decide +kernel) rfl
theorem wd_902 : (.selects "QuotaLaws" y_Q_torn y_Q_torn : Cond) ∈ tbg := tbg_in2 902 (by decide +kernel) rfl
set_option maxRecDepth 100000 in
theorem wd_903 : (.code y_Q_torn prog_1_method_38_code 1 (some .int) : Cond) ∈ tbg := tbg_in2 903 rfl rfl
theorem wd_904 : (.methodLink "QuotaLawsLaw" 170 y_Q_count : Cond) ∈ tbg := tbg_in2 904 (by decide +kernel) rfl
theorem wd_905 : (.instanceMethod y_Q_count : Cond) ∈ tbg := tbg_in2 905 (by decide +kernel) rfl
theorem wd_906 : (.selects "QuotaLaws" y_Q_count y_Q_count : Cond) ∈ tbg := tbg_in2 906 (by decide +kernel) rfl
set_option maxRecDepth 100000 in
theorem wd_907 : (.code y_Q_count prog_1_method_39_code 2 (some .int) : Cond) ∈ tbg := tbg_in2 907 rfl rfl
theorem wd_908 : (.methodLink "QuotaLaws" 280 y_Realm_brokenInAll : Cond) ∈ tbg := tbg_in2 908 (by decide +kernel) rfl
theorem wd_909 : (.instanceMethod y_Realm_brokenInAll : Cond) ∈ tbg := tbg_in2 909 (by decide +kernel) rfl
theorem wd_910 : (.selects "QuotaLaws$Realm" y_Realm_brokenInAll y_Realm_brokenInAll : Cond) ∈ tbg := tbg_in2 910 (by decide +kernel) rfl
set_option maxRecDepth 100000 in
theorem wd_911 : (.code y_Realm_brokenInAll prog_5_method_9_code 3 (some .int) : Cond) ∈ tbg := tbg_in2 911 rfl rfl
theorem wd_912 : (.methodLink "QuotaLaws" 283 y_Q_countKept : Cond) ∈ tbg := tbg_in2 912 (by decide +kernel) rfl
theorem wd_914 : (.instanceMethod y_Q_countKept : Cond) ∈ tbg := tbg_in2 914 (by decide +kernel) rfl
set_option maxRecDepth 100000 in
theorem wd_915 : (.code y_Q_countKept prog_1_method_40_code 3 (some .int) : Cond) ∈ tbg := tbg_in2 915 rfl rfl
theorem wd_916 : (.methodLink "QuotaLaws" 287 y_Realm_allPurses : Cond) ∈ tbg := tbg_in2 916 (by decide +kernel) rfl
theorem wd_917 : (.instanceMethod y_Realm_allPurses : Cond) ∈ tbg := tbg_in2 917 (by decide +kernel) rfl
theorem wd_918 : (.selects "QuotaLaws$Realm" y_Realm_allPurses y_Realm_allPurses : Cond) ∈ tbg := tbg_in2 918 (by decide +kernel) rfl
set_option maxRecDepth 100000 in
theorem wd_919 : (.code y_Realm_allPurses prog_5_method_12_code 3 (some .int) : Cond) ∈ tbg := tbg_in2 919 rfl rfl
theorem wd_920 : (.methodLink "QuotaLaws" 290 y_Realm_allNeed : Cond) ∈ tbg := tbg_in2 920 (by decide +kernel) rfl
theorem wd_921 : (.instanceMethod y_Realm_allNeed : Cond) ∈ tbg := tbg_in2 921 (by decide +kernel) rfl
theorem wd_922 : (.selects "QuotaLaws$Realm" y_Realm_allNeed y_Realm_allNeed : Cond) ∈ tbg := tbg_in2 922 (by decide +kernel) rfl
set_option maxRecDepth 100000 in
theorem wd_923 : (.code y_Realm_allNeed prog_5_method_11_code 3 (some .int) : Cond) ∈ tbg := tbg_in2 923 rfl rfl
theorem wd_924 : (.classLink "QuotaLawsLaw" 10 "QuotaLawsModel" : Cond) ∈ tbg := tbg_in2 924 (by decide +kernel) rfl
theorem wd_925 : (.instantiable "QuotaLawsModel" 39 : Cond) ∈ tbg := tbg_in2 925 (by decide +kernel) rfl
theorem wd_926 : (.methodLink "QuotaLawsLaw" 12 y_M_new : Cond) ∈ tbg := tbg_in2 926 (by decide +kernel) rfl
theorem wd_927 : (.instanceMethod y_M_new : Cond) ∈ tbg := tbg_in2 927 (by decide +kernel) rfl
set_option maxRecDepth 100000 in
theorem wd_928 : (.code y_M_new prog_10_method_1_code 2 none : Cond) ∈ tbg := tbg_in2 928 rfl rfl
theorem wd_929 : (.methodLink "QuotaLawsModel" 1 Lib.objectInit : Cond) ∈ tbg := tbg_in2 929 (by decide +kernel) rfl
theorem wd_930 : (.methodLink "QuotaLawsModel" 87 y_M_firstDraft : Cond) ∈ tbg := tbg_in2 930 (by decide +kernel) rfl
theorem wd_932 : (.instanceMethod y_M_firstDraft : Cond) ∈ tbg := tbg_in2 932 (by decide +kernel) rfl
set_option maxRecDepth 100000 in
theorem wd_933 : (.code y_M_firstDraft prog_10_method_5_code 2 none : Cond) ∈ tbg := tbg_in2 933 rfl rfl
theorem wd_934 : (.methodLink "QuotaLawsModel" 90 y_M_keepDraft : Cond) ∈ tbg := tbg_in2 934 (by decide +kernel) rfl
theorem wd_936 : (.instanceMethod y_M_keepDraft : Cond) ∈ tbg := tbg_in2 936 (by decide +kernel) rfl
set_option maxRecDepth 100000 in
theorem wd_937 : (.code y_M_keepDraft prog_10_method_6_code 2 none : Cond) ∈ tbg := tbg_in2 937 rfl rfl
theorem wd_938 : (.fieldLink "QuotaLawsModel" 7 "QuotaLawsModel" "st" "[I" : Cond) ∈ tbg := tbg_in2 938 (by decide +kernel) rfl
theorem wd_939 : (.fieldLink "QuotaLawsModel" 13 "QuotaLawsModel" "isKept" "[Z" : Cond) ∈ tbg := tbg_in2 939 (by decide +kernel) rfl
theorem wd_940 : (.fieldLink "QuotaLawsModel" 106 "QuotaLawsModel" "laws" "I" : Cond) ∈ tbg := tbg_in2 940 (by decide +kernel) rfl
theorem wd_941 : (.fieldLink "QuotaLawsModel" 109 "QuotaLawsModel" "people" "I" : Cond) ∈ tbg := tbg_in2 941 (by decide +kernel) rfl
theorem wd_942 : (.fieldLink "QuotaLawsModel" 17 "QuotaLawsModel" "cap" "[I" : Cond) ∈ tbg := tbg_in2 942 (by decide +kernel) rfl
theorem wd_943 : (.fieldLink "QuotaLawsModel" 20 "QuotaLawsModel" "harm" "[I" : Cond) ∈ tbg := tbg_in2 943 (by decide +kernel) rfl
theorem wd_944 : (.fieldLink "QuotaLawsModel" 23 "QuotaLawsModel" "fine" "[I" : Cond) ∈ tbg := tbg_in2 944 (by decide +kernel) rfl
theorem wd_945 : (.fieldLink "QuotaLawsModel" 26 "QuotaLawsModel" "clumsy" "[I" : Cond) ∈ tbg := tbg_in2 945 (by decide +kernel) rfl
theorem wd_946 : (.fieldLink "QuotaLawsModel" 29 "QuotaLawsModel" "nerve" "[I" : Cond) ∈ tbg := tbg_in2 946 (by decide +kernel) rfl
theorem wd_947 : (.fieldLink "QuotaLawsModel" 32 "QuotaLawsModel" "draft" "[I" : Cond) ∈ tbg := tbg_in2 947 (by decide +kernel) rfl
theorem wd_948 : (.fieldLink "QuotaLawsModel" 93 "QuotaLawsModel" "dLaws" "I" : Cond) ∈ tbg := tbg_in2 948 (by decide +kernel) rfl
theorem wd_949 : (.fieldLink "QuotaLawsModel" 97 "QuotaLawsModel" "dPeople" "I" : Cond) ∈ tbg := tbg_in2 949 (by decide +kernel) rfl
theorem wd_950 : (.fieldLink "QuotaLawsModel" 35 "QuotaLawsModel" "dCap" "[I" : Cond) ∈ tbg := tbg_in2 950 (by decide +kernel) rfl
theorem wd_951 : (.fieldLink "QuotaLawsModel" 38 "QuotaLawsModel" "dHarm" "[I" : Cond) ∈ tbg := tbg_in2 951 (by decide +kernel) rfl
theorem wd_952 : (.fieldLink "QuotaLawsModel" 41 "QuotaLawsModel" "dFine" "[I" : Cond) ∈ tbg := tbg_in2 952 (by decide +kernel) rfl
theorem wd_953 : (.fieldLink "QuotaLawsModel" 44 "QuotaLawsModel" "dClumsy" "[I" : Cond) ∈ tbg := tbg_in2 953 (by decide +kernel) rfl
theorem wd_954 : (.fieldLink "QuotaLawsModel" 47 "QuotaLawsModel" "dNerve" "[I" : Cond) ∈ tbg := tbg_in2 954 (by decide +kernel) rfl
theorem wd_955 : (.fieldLink "QuotaLawsModel" 100 "QuotaLawsModel" "highestLaw" "I" : Cond) ∈ tbg := tbg_in2 955 (by decide +kernel) rfl
theorem wd_956 : (.fieldLink "QuotaLawsModel" 103 "QuotaLawsModel" "highestOne" "I" : Cond) ∈ tbg := tbg_in2 956 (by decide +kernel) rfl
theorem wd_957 : (.fieldLink "QuotaLawsModel" 50 "QuotaLawsModel" "tape" "[I" : Cond) ∈ tbg := tbg_in2 957 (by decide +kernel) rfl
theorem wd_958 : (.fieldLink "QuotaLawsModel" 118 "QuotaLawsModel" "taped" "I" : Cond) ∈ tbg := tbg_in2 958 (by decide +kernel) rfl
theorem wd_959 : (.fieldLink "QuotaLawsModel" 130 "QuotaLawsModel" "pos" "I" : Cond) ∈ tbg := tbg_in2 959 (by decide +kernel) rfl
theorem wd_960 : (.fieldLink "QuotaLawsModel" 124 "QuotaLawsModel" "from" "I" : Cond) ∈ tbg := tbg_in2 960 (by decide +kernel) rfl
theorem wd_961 : (.fieldLink "QuotaLawsModel" 141 "QuotaLawsModel" "sort" "I" : Cond) ∈ tbg := tbg_in2 961 (by decide +kernel) rfl
theorem wd_962 : (.fieldLink "QuotaLawsModel" 152 "QuotaLawsModel" "value" "I" : Cond) ∈ tbg := tbg_in2 962 (by decide +kernel) rfl
theorem wd_963 : (.fieldLink "QuotaLawsModel" 121 "QuotaLawsModel" "fault" "I" : Cond) ∈ tbg := tbg_in2 963 (by decide +kernel) rfl
theorem wd_964 : (.fieldLink "QuotaLawsModel" 127 "QuotaLawsModel" "wrongAt" "I" : Cond) ∈ tbg := tbg_in2 964 (by decide +kernel) rfl
theorem wd_965 : (.fieldLink "QuotaLawsModel" 53 "QuotaLawsModel" "least" "[I" : Cond) ∈ tbg := tbg_in2 965 (by decide +kernel) rfl
theorem wd_966 : (.fieldLink "QuotaLawsModel" 56 "QuotaLawsModel" "needs" "[I" : Cond) ∈ tbg := tbg_in2 966 (by decide +kernel) rfl
theorem wd_967 : (.fieldLink "QuotaLawsModel" 59 "QuotaLawsModel" "lefts" "[I" : Cond) ∈ tbg := tbg_in2 967 (by decide +kernel) rfl
theorem wd_968 : (.fieldLink "QuotaLawsModel" 62 "QuotaLawsModel" "shares" "[I" : Cond) ∈ tbg := tbg_in2 968 (by decide +kernel) rfl
theorem wd_969 : (.fieldLink "QuotaLawsModel" 65 "QuotaLawsModel" "saved" "[I" : Cond) ∈ tbg := tbg_in2 969 (by decide +kernel) rfl
theorem wd_970 : (.fieldLink "QuotaLawsModel" 68 "QuotaLawsModel" "ways" "[J" : Cond) ∈ tbg := tbg_in2 970 (by decide +kernel) rfl
theorem wd_971 : (.fieldLink "QuotaLawsModel" 72 "QuotaLawsModel" "tables" "[J" : Cond) ∈ tbg := tbg_in2 971 (by decide +kernel) rfl
theorem wd_972 : (.fieldLink "QuotaLawsModel" 75 "QuotaLawsModel" "then" "[J" : Cond) ∈ tbg := tbg_in2 972 (by decide +kernel) rfl
theorem wd_973 : (.fieldLink "QuotaLawsModel" 78 "QuotaLawsModel" "lanes" "[I" : Cond) ∈ tbg := tbg_in2 973 (by decide +kernel) rfl
theorem wd_974 : (.fieldLink "QuotaLawsModel" 81 "QuotaLawsModel" "sizes" "[I" : Cond) ∈ tbg := tbg_in2 974 (by decide +kernel) rfl
theorem wd_975 : (.fieldLink "QuotaLawsModel" 84 "QuotaLawsModel" "cells" "[I" : Cond) ∈ tbg := tbg_in2 975 (by decide +kernel) rfl
theorem wd_976 : (.fieldLink "QuotaLawsModel" 332 "QuotaLawsModel" "torn" "I" : Cond) ∈ tbg := tbg_in2 976 (by decide +kernel) rfl
theorem wd_1056 : (.methodLink "QuotaLawsLaw" 17 y_M_feed : Cond) ∈ tbg := tbg_in2 1056 (by decide +kernel) rfl
theorem wd_1057 : (.instanceMethod y_M_feed : Cond) ∈ tbg := tbg_in2 1057 (by decide +kernel) rfl
theorem wd_1058 : (.selects "QuotaLawsModel" y_M_feed y_M_feed : Cond) ∈ tbg := tbg_in2 1058 (by decide +kernel) rfl
set_option maxRecDepth 100000 in
theorem wd_1059 : (.code y_M_feed prog_10_method_7_code 2 (some .int) : Cond) ∈ tbg := tbg_in2 1059 rfl rfl
theorem wd_1060 : (.constantLong "QuotaLawsModel" 112 (127) : Cond) ∈ tbg := tbg_in2 1060 (by decide +kernel) rfl
theorem wd_1061 : (.methodLink "QuotaLawsModel" 114 y_M_in : Cond) ∈ tbg := tbg_in2 1061 (by decide +kernel) rfl
theorem wd_1062 : (.static y_M_in : Cond) ∈ tbg := tbg_in2 1062 (by decide +kernel) rfl
set_option maxRecDepth 100000 in
theorem wd_1063 : (.code y_M_in prog_10_method_3_code 6 (some .boolean) : Cond) ∈ tbg := tbg_in2 1063 rfl rfl
theorem wd_1064 : (.methodLink "QuotaLawsLaw" 21 y_M_end : Cond) ∈ tbg := tbg_in2 1064 (by decide +kernel) rfl
theorem wd_1065 : (.instanceMethod y_M_end : Cond) ∈ tbg := tbg_in2 1065 (by decide +kernel) rfl
theorem wd_1066 : (.selects "QuotaLawsModel" y_M_end y_M_end : Cond) ∈ tbg := tbg_in2 1066 (by decide +kernel) rfl
set_option maxRecDepth 100000 in
theorem wd_1067 : (.code y_M_end prog_10_method_8_code 3 (some .int) : Cond) ∈ tbg := tbg_in2 1067 rfl rfl
theorem wd_1068 : (.methodLink "QuotaLawsLaw" 26 y_M_text : Cond) ∈ tbg := tbg_in2 1068 (by decide +kernel) rfl
theorem wd_1069 : (.instanceMethod y_M_text : Cond) ∈ tbg := tbg_in2 1069 (by decide +kernel) rfl
theorem wd_1070 : (.selects "QuotaLawsModel" y_M_text y_M_text : Cond) ∈ tbg := tbg_in2 1070 (by decide +kernel) rfl
set_option maxRecDepth 100000 in
theorem wd_1071 : (.code y_M_text prog_10_method_21_code 2 (some .int) : Cond) ∈ tbg := tbg_in2 1071 rfl rfl
theorem wd_1072 : (.methodLink "QuotaLawsModel" 162 y_M_next : Cond) ∈ tbg := tbg_in2 1072 (by decide +kernel) rfl
theorem wd_1074 : (.instanceMethod y_M_next : Cond) ∈ tbg := tbg_in2 1074 (by decide +kernel) rfl
set_option maxRecDepth 100000 in
theorem wd_1075 : (.code y_M_next prog_10_method_13_code 2 none : Cond) ∈ tbg := tbg_in2 1075 rfl rfl
theorem wd_1076 : (.methodLink "QuotaLawsModel" 133 y_M_look : Cond) ∈ tbg := tbg_in2 1076 (by decide +kernel) rfl
theorem wd_1078 : (.instanceMethod y_M_look : Cond) ∈ tbg := tbg_in2 1078 (by decide +kernel) rfl
set_option maxRecDepth 100000 in
theorem wd_1079 : (.code y_M_look prog_10_method_10_code 2 (some .int) : Cond) ∈ tbg := tbg_in2 1079 rfl rfl
theorem wd_1080 : (.constantLong "QuotaLawsModel" 144 (97) : Cond) ∈ tbg := tbg_in2 1080 (by decide +kernel) rfl
theorem wd_1081 : (.constantLong "QuotaLawsModel" 146 (122) : Cond) ∈ tbg := tbg_in2 1081 (by decide +kernel) rfl
theorem wd_1082 : (.constantLong "QuotaLawsModel" 148 (48) : Cond) ∈ tbg := tbg_in2 1082 (by decide +kernel) rfl
theorem wd_1083 : (.constantLong "QuotaLawsModel" 150 (57) : Cond) ∈ tbg := tbg_in2 1083 (by decide +kernel) rfl
theorem wd_1084 : (.methodLink "QuotaLawsModel" 155 y_M_needs : Cond) ∈ tbg := tbg_in2 1084 (by decide +kernel) rfl
theorem wd_1086 : (.instanceMethod y_M_needs : Cond) ∈ tbg := tbg_in2 1086 (by decide +kernel) rfl
set_option maxRecDepth 100000 in
theorem wd_1087 : (.code y_M_needs prog_10_method_9_code 3 none : Cond) ∈ tbg := tbg_in2 1087 rfl rfl
theorem wd_1088 : (.methodLink "QuotaLawsModel" 185 y_M_readLine : Cond) ∈ tbg := tbg_in2 1088 (by decide +kernel) rfl
theorem wd_1090 : (.instanceMethod y_M_readLine : Cond) ∈ tbg := tbg_in2 1090 (by decide +kernel) rfl
set_option maxRecDepth 100000 in
theorem wd_1091 : (.code y_M_readLine prog_10_method_20_code 2 none : Cond) ∈ tbg := tbg_in2 1091 rfl rfl
theorem wd_1092 : (.methodLink "QuotaLawsModel" 177 y_M_lineNow : Cond) ∈ tbg := tbg_in2 1092 (by decide +kernel) rfl
theorem wd_1094 : (.instanceMethod y_M_lineNow : Cond) ∈ tbg := tbg_in2 1094 (by decide +kernel) rfl
set_option maxRecDepth 100000 in
theorem wd_1095 : (.code y_M_lineNow prog_10_method_12_code 1 (some .int) : Cond) ∈ tbg := tbg_in2 1095 rfl rfl
theorem wd_1096 : (.methodLink "QuotaLawsModel" 137 y_M_is : Cond) ∈ tbg := tbg_in2 1096 (by decide +kernel) rfl
theorem wd_1098 : (.instanceMethod y_M_is : Cond) ∈ tbg := tbg_in2 1098 (by decide +kernel) rfl
set_option maxRecDepth 100000 in
theorem wd_1099 : (.code y_M_is prog_10_method_11_code 5 (some .boolean) : Cond) ∈ tbg := tbg_in2 1099 rfl rfl
theorem wd_1100 : (.methodLink "QuotaLawsModel" 181 y_M_readLineOf : Cond) ∈ tbg := tbg_in2 1100 (by decide +kernel) rfl
theorem wd_1102 : (.instanceMethod y_M_readLineOf : Cond) ∈ tbg := tbg_in2 1102 (by decide +kernel) rfl
set_option maxRecDepth 100000 in
theorem wd_1103 : (.code y_M_readLineOf prog_10_method_19_code 3 none : Cond) ∈ tbg := tbg_in2 1103 rfl rfl
theorem wd_1104 : (.methodLink "QuotaLawsModel" 171 y_M_readLaw : Cond) ∈ tbg := tbg_in2 1104 (by decide +kernel) rfl
theorem wd_1106 : (.instanceMethod y_M_readLaw : Cond) ∈ tbg := tbg_in2 1106 (by decide +kernel) rfl
set_option maxRecDepth 100000 in
theorem wd_1107 : (.code y_M_readLaw prog_10_method_17_code 4 none : Cond) ∈ tbg := tbg_in2 1107 rfl rfl
theorem wd_1108 : (.methodLink "QuotaLawsModel" 165 y_M_readNumber : Cond) ∈ tbg := tbg_in2 1108 (by decide +kernel) rfl
theorem wd_1110 : (.instanceMethod y_M_readNumber : Cond) ∈ tbg := tbg_in2 1110 (by decide +kernel) rfl
set_option maxRecDepth 100000 in
theorem wd_1111 : (.code y_M_readNumber prog_10_method_15_code 4 (some .int) : Cond) ∈ tbg := tbg_in2 1111 rfl rfl
theorem wd_1112 : (.methodLink "QuotaLawsModel" 158 y_M_looked : Cond) ∈ tbg := tbg_in2 1112 (by decide +kernel) rfl
theorem wd_1114 : (.instanceMethod y_M_looked : Cond) ∈ tbg := tbg_in2 1114 (by decide +kernel) rfl
set_option maxRecDepth 100000 in
theorem wd_1115 : (.code y_M_looked prog_10_method_14_code 3 (some .int) : Cond) ∈ tbg := tbg_in2 1115 rfl rfl
theorem wd_1116 : (.methodLink "QuotaLawsModel" 168 y_M_readLawOf : Cond) ∈ tbg := tbg_in2 1116 (by decide +kernel) rfl
theorem wd_1118 : (.instanceMethod y_M_readLawOf : Cond) ∈ tbg := tbg_in2 1118 (by decide +kernel) rfl
set_option maxRecDepth 100000 in
theorem wd_1119 : (.code y_M_readLawOf prog_10_method_16_code 3 (some .int) : Cond) ∈ tbg := tbg_in2 1119 rfl rfl
theorem wd_1120 : (.methodLink "QuotaLawsModel" 174 y_M_readOne : Cond) ∈ tbg := tbg_in2 1120 (by decide +kernel) rfl
theorem wd_1122 : (.instanceMethod y_M_readOne : Cond) ∈ tbg := tbg_in2 1122 (by decide +kernel) rfl
set_option maxRecDepth 100000 in
theorem wd_1123 : (.code y_M_readOne prog_10_method_18_code 2 none : Cond) ∈ tbg := tbg_in2 1123 rfl rfl
theorem wd_1124 : (.methodLink "QuotaLawsLaw" 30 y_M_fault : Cond) ∈ tbg := tbg_in2 1124 (by decide +kernel) rfl
theorem wd_1125 : (.instanceMethod y_M_fault : Cond) ∈ tbg := tbg_in2 1125 (by decide +kernel) rfl
theorem wd_1126 : (.selects "QuotaLawsModel" y_M_fault y_M_fault : Cond) ∈ tbg := tbg_in2 1126 (by decide +kernel) rfl
set_option maxRecDepth 100000 in
theorem wd_1127 : (.code y_M_fault prog_10_method_22_code 1 (some .int) : Cond) ∈ tbg := tbg_in2 1127 rfl rfl
theorem wd_1128 : (.methodLink "QuotaLawsLaw" 34 y_M_rule : Cond) ∈ tbg := tbg_in2 1128 (by decide +kernel) rfl
theorem wd_1129 : (.instanceMethod y_M_rule : Cond) ∈ tbg := tbg_in2 1129 (by decide +kernel) rfl
theorem wd_1130 : (.selects "QuotaLawsModel" y_M_rule y_M_rule : Cond) ∈ tbg := tbg_in2 1130 (by decide +kernel) rfl
set_option maxRecDepth 100000 in
theorem wd_1131 : (.code y_M_rule prog_10_method_35_code 2 (some .int) : Cond) ∈ tbg := tbg_in2 1131 rfl rfl
theorem wd_1132 : (.methodLink "QuotaLawsLaw" 39 y_M_law : Cond) ∈ tbg := tbg_in2 1132 (by decide +kernel) rfl
theorem wd_1133 : (.instanceMethod y_M_law : Cond) ∈ tbg := tbg_in2 1133 (by decide +kernel) rfl
theorem wd_1134 : (.selects "QuotaLawsModel" y_M_law y_M_law : Cond) ∈ tbg := tbg_in2 1134 (by decide +kernel) rfl
set_option maxRecDepth 100000 in
theorem wd_1135 : (.code y_M_law prog_10_method_36_code 3 (some .int) : Cond) ∈ tbg := tbg_in2 1135 rfl rfl
theorem wd_1136 : (.methodLink "QuotaLawsModel" 210 y_M_isLaw : Cond) ∈ tbg := tbg_in2 1136 (by decide +kernel) rfl
theorem wd_1138 : (.instanceMethod y_M_isLaw : Cond) ∈ tbg := tbg_in2 1138 (by decide +kernel) rfl
set_option maxRecDepth 100000 in
theorem wd_1139 : (.code y_M_isLaw prog_10_method_23_code 2 (some .boolean) : Cond) ∈ tbg := tbg_in2 1139 rfl rfl
theorem wd_1140 : (.methodLink "QuotaLawsModel" 204 y_M_needOf : Cond) ∈ tbg := tbg_in2 1140 (by decide +kernel) rfl
theorem wd_1142 : (.instanceMethod y_M_needOf : Cond) ∈ tbg := tbg_in2 1142 (by decide +kernel) rfl
set_option maxRecDepth 100000 in
theorem wd_1143 : (.code y_M_needOf prog_10_method_29_code 4 (some .int) : Cond) ∈ tbg := tbg_in2 1143 rfl rfl
theorem wd_1144 : (.methodLink "QuotaLawsModel" 191 y_M_doesStand : Cond) ∈ tbg := tbg_in2 1144 (by decide +kernel) rfl
theorem wd_1146 : (.instanceMethod y_M_doesStand : Cond) ∈ tbg := tbg_in2 1146 (by decide +kernel) rfl
set_option maxRecDepth 100000 in
theorem wd_1147 : (.code y_M_doesStand prog_10_method_26_code 2 (some .boolean) : Cond) ∈ tbg := tbg_in2 1147 rfl rfl
theorem wd_1148 : (.methodLink "QuotaLawsModel" 188 y_M_brokenBy : Cond) ∈ tbg := tbg_in2 1148 (by decide +kernel) rfl
theorem wd_1150 : (.instanceMethod y_M_brokenBy : Cond) ∈ tbg := tbg_in2 1150 (by decide +kernel) rfl
set_option maxRecDepth 100000 in
theorem wd_1151 : (.code y_M_brokenBy prog_10_method_27_code 3 (some .int) : Cond) ∈ tbg := tbg_in2 1151 rfl rfl
theorem wd_1152 : (.methodLink "QuotaLawsModel" 207 y_M_chainOf : Cond) ∈ tbg := tbg_in2 1152 (by decide +kernel) rfl
theorem wd_1154 : (.instanceMethod y_M_chainOf : Cond) ∈ tbg := tbg_in2 1154 (by decide +kernel) rfl
set_option maxRecDepth 100000 in
theorem wd_1155 : (.code y_M_chainOf prog_10_method_30_code 4 (some .int) : Cond) ∈ tbg := tbg_in2 1155 rfl rfl
theorem wd_1156 : (.methodLink "QuotaLawsLaw" 43 y_M_one : Cond) ∈ tbg := tbg_in2 1156 (by decide +kernel) rfl
theorem wd_1157 : (.instanceMethod y_M_one : Cond) ∈ tbg := tbg_in2 1157 (by decide +kernel) rfl
theorem wd_1158 : (.selects "QuotaLawsModel" y_M_one y_M_one : Cond) ∈ tbg := tbg_in2 1158 (by decide +kernel) rfl
set_option maxRecDepth 100000 in
theorem wd_1159 : (.code y_M_one prog_10_method_37_code 5 (some .int) : Cond) ∈ tbg := tbg_in2 1159 rfl rfl
theorem wd_1160 : (.methodLink "QuotaLawsModel" 213 y_M_isOne : Cond) ∈ tbg := tbg_in2 1160 (by decide +kernel) rfl
theorem wd_1162 : (.instanceMethod y_M_isOne : Cond) ∈ tbg := tbg_in2 1162 (by decide +kernel) rfl
set_option maxRecDepth 100000 in
theorem wd_1163 : (.code y_M_isOne prog_10_method_24_code 2 (some .boolean) : Cond) ∈ tbg := tbg_in2 1163 rfl rfl
theorem wd_1164 : (.methodLink "QuotaLawsModel" 216 y_M_canBreak : Cond) ∈ tbg := tbg_in2 1164 (by decide +kernel) rfl
theorem wd_1166 : (.instanceMethod y_M_canBreak : Cond) ∈ tbg := tbg_in2 1166 (by decide +kernel) rfl
set_option maxRecDepth 100000 in
theorem wd_1167 : (.code y_M_canBreak prog_10_method_33_code 3 (some .boolean) : Cond) ∈ tbg := tbg_in2 1167 rfl rfl
theorem wd_1168 : (.methodLink "QuotaLawsModel" 198 y_M_roomOf : Cond) ∈ tbg := tbg_in2 1168 (by decide +kernel) rfl
theorem wd_1170 : (.instanceMethod y_M_roomOf : Cond) ∈ tbg := tbg_in2 1170 (by decide +kernel) rfl
set_option maxRecDepth 100000 in
theorem wd_1171 : (.code y_M_roomOf prog_10_method_31_code 5 (some .int) : Cond) ∈ tbg := tbg_in2 1171 rfl rfl
theorem wd_1172 : (.methodLink "QuotaLawsModel" 201 y_M_timeLeft : Cond) ∈ tbg := tbg_in2 1172 (by decide +kernel) rfl
theorem wd_1174 : (.instanceMethod y_M_timeLeft : Cond) ∈ tbg := tbg_in2 1174 (by decide +kernel) rfl
set_option maxRecDepth 100000 in
theorem wd_1175 : (.code y_M_timeLeft prog_10_method_32_code 3 (some .int) : Cond) ∈ tbg := tbg_in2 1175 rfl rfl
theorem wd_1176 : (.methodLink "QuotaLawsModel" 195 y_M_allBy : Cond) ∈ tbg := tbg_in2 1176 (by decide +kernel) rfl
theorem wd_1178 : (.instanceMethod y_M_allBy : Cond) ∈ tbg := tbg_in2 1178 (by decide +kernel) rfl
set_option maxRecDepth 100000 in
theorem wd_1179 : (.code y_M_allBy prog_10_method_28_code 4 (some .int) : Cond) ∈ tbg := tbg_in2 1179 rfl rfl
theorem wd_1180 : (.methodLink "QuotaLawsModel" 220 y_M_flag : Cond) ∈ tbg := tbg_in2 1180 (by decide +kernel) rfl
theorem wd_1181 : (.static y_M_flag : Cond) ∈ tbg := tbg_in2 1181 (by decide +kernel) rfl
set_option maxRecDepth 100000 in
theorem wd_1182 : (.code y_M_flag prog_10_method_4_code 1 (some .int) : Cond) ∈ tbg := tbg_in2 1182 rfl rfl
theorem wd_1183 : (.methodLink "QuotaLawsLaw" 47 y_M_broken : Cond) ∈ tbg := tbg_in2 1183 (by decide +kernel) rfl
theorem wd_1184 : (.instanceMethod y_M_broken : Cond) ∈ tbg := tbg_in2 1184 (by decide +kernel) rfl
theorem wd_1185 : (.selects "QuotaLawsModel" y_M_broken y_M_broken : Cond) ∈ tbg := tbg_in2 1185 (by decide +kernel) rfl
set_option maxRecDepth 100000 in
theorem wd_1186 : (.code y_M_broken prog_10_method_38_code 3 (some .int) : Cond) ∈ tbg := tbg_in2 1186 rfl rfl
theorem wd_1187 : (.methodLink "QuotaLawsLaw" 51 y_M_quota : Cond) ∈ tbg := tbg_in2 1187 (by decide +kernel) rfl
theorem wd_1188 : (.instanceMethod y_M_quota : Cond) ∈ tbg := tbg_in2 1188 (by decide +kernel) rfl
theorem wd_1189 : (.selects "QuotaLawsModel" y_M_quota y_M_quota : Cond) ∈ tbg := tbg_in2 1189 (by decide +kernel) rfl
set_option maxRecDepth 100000 in
theorem wd_1190 : (.code y_M_quota prog_10_method_41_code 3 (some .int) : Cond) ∈ tbg := tbg_in2 1190 rfl rfl
theorem wd_1191 : (.constantLong "QuotaLawsModel" 224 (9) : Cond) ∈ tbg := tbg_in2 1191 (by decide +kernel) rfl
theorem wd_1192 : (.methodLink "QuotaLawsModel" 226 y_M_becomes : Cond) ∈ tbg := tbg_in2 1192 (by decide +kernel) rfl
theorem wd_1194 : (.instanceMethod y_M_becomes : Cond) ∈ tbg := tbg_in2 1194 (by decide +kernel) rfl
set_option maxRecDepth 100000 in
theorem wd_1195 : (.code y_M_becomes prog_10_method_39_code 4 (some .int) : Cond) ∈ tbg := tbg_in2 1195 rfl rfl
theorem wd_1196 : (.methodLink "QuotaLawsLaw" 55 y_M_carry : Cond) ∈ tbg := tbg_in2 1196 (by decide +kernel) rfl
theorem wd_1197 : (.instanceMethod y_M_carry : Cond) ∈ tbg := tbg_in2 1197 (by decide +kernel) rfl
theorem wd_1198 : (.selects "QuotaLawsModel" y_M_carry y_M_carry : Cond) ∈ tbg := tbg_in2 1198 (by decide +kernel) rfl
set_option maxRecDepth 100000 in
theorem wd_1199 : (.code y_M_carry prog_10_method_42_code 3 (some .int) : Cond) ∈ tbg := tbg_in2 1199 rfl rfl
theorem wd_1200 : (.methodLink "QuotaLawsLaw" 60 y_M_watch : Cond) ∈ tbg := tbg_in2 1200 (by decide +kernel) rfl
theorem wd_1201 : (.instanceMethod y_M_watch : Cond) ∈ tbg := tbg_in2 1201 (by decide +kernel) rfl
theorem wd_1202 : (.selects "QuotaLawsModel" y_M_watch y_M_watch : Cond) ∈ tbg := tbg_in2 1202 (by decide +kernel) rfl
set_option maxRecDepth 100000 in
theorem wd_1203 : (.code y_M_watch prog_10_method_43_code 3 (some .int) : Cond) ∈ tbg := tbg_in2 1203 rfl rfl
theorem wd_1204 : (.methodLink "QuotaLawsModel" 229 y_M_becomesBit : Cond) ∈ tbg := tbg_in2 1204 (by decide +kernel) rfl
theorem wd_1206 : (.instanceMethod y_M_becomesBit : Cond) ∈ tbg := tbg_in2 1206 (by decide +kernel) rfl
set_option maxRecDepth 100000 in
theorem wd_1207 : (.code y_M_becomesBit prog_10_method_40_code 5 (some .int) : Cond) ∈ tbg := tbg_in2 1207 rfl rfl
theorem wd_1208 : (.methodLink "QuotaLawsLaw" 64 y_M_time : Cond) ∈ tbg := tbg_in2 1208 (by decide +kernel) rfl
theorem wd_1209 : (.instanceMethod y_M_time : Cond) ∈ tbg := tbg_in2 1209 (by decide +kernel) rfl
theorem wd_1210 : (.selects "QuotaLawsModel" y_M_time y_M_time : Cond) ∈ tbg := tbg_in2 1210 (by decide +kernel) rfl
set_option maxRecDepth 100000 in
theorem wd_1211 : (.code y_M_time prog_10_method_44_code 3 (some .int) : Cond) ∈ tbg := tbg_in2 1211 rfl rfl
theorem wd_1212 : (.constantLong "QuotaLawsModel" 233 (5) : Cond) ∈ tbg := tbg_in2 1212 (by decide +kernel) rfl
theorem wd_1213 : (.methodLink "QuotaLawsLaw" 69 y_M_refuse : Cond) ∈ tbg := tbg_in2 1213 (by decide +kernel) rfl
theorem wd_1214 : (.instanceMethod y_M_refuse : Cond) ∈ tbg := tbg_in2 1214 (by decide +kernel) rfl
theorem wd_1215 : (.selects "QuotaLawsModel" y_M_refuse y_M_refuse : Cond) ∈ tbg := tbg_in2 1215 (by decide +kernel) rfl
set_option maxRecDepth 100000 in
theorem wd_1216 : (.code y_M_refuse prog_10_method_45_code 4 (some .int) : Cond) ∈ tbg := tbg_in2 1216 rfl rfl
theorem wd_1217 : (.methodLink "QuotaLawsLaw" 73 y_M_want : Cond) ∈ tbg := tbg_in2 1217 (by decide +kernel) rfl
theorem wd_1218 : (.instanceMethod y_M_want : Cond) ∈ tbg := tbg_in2 1218 (by decide +kernel) rfl
theorem wd_1219 : (.selects "QuotaLawsModel" y_M_want y_M_want : Cond) ∈ tbg := tbg_in2 1219 (by decide +kernel) rfl
set_option maxRecDepth 100000 in
theorem wd_1220 : (.code y_M_want prog_10_method_46_code 4 (some .int) : Cond) ∈ tbg := tbg_in2 1220 rfl rfl
theorem wd_1221 : (.methodLink "QuotaLawsLaw" 77 y_M_fund : Cond) ∈ tbg := tbg_in2 1221 (by decide +kernel) rfl
theorem wd_1222 : (.instanceMethod y_M_fund : Cond) ∈ tbg := tbg_in2 1222 (by decide +kernel) rfl
theorem wd_1223 : (.selects "QuotaLawsModel" y_M_fund y_M_fund : Cond) ∈ tbg := tbg_in2 1223 (by decide +kernel) rfl
set_option maxRecDepth 100000 in
theorem wd_1224 : (.code y_M_fund prog_10_method_47_code 3 (some .int) : Cond) ∈ tbg := tbg_in2 1224 rfl rfl
theorem wd_1225 : (.constantLong "QuotaLawsModel" 235 (99) : Cond) ∈ tbg := tbg_in2 1225 (by decide +kernel) rfl
theorem wd_1226 : (.methodLink "QuotaLawsLaw" 81 y_M_revive : Cond) ∈ tbg := tbg_in2 1226 (by decide +kernel) rfl
theorem wd_1227 : (.instanceMethod y_M_revive : Cond) ∈ tbg := tbg_in2 1227 (by decide +kernel) rfl
theorem wd_1228 : (.selects "QuotaLawsModel" y_M_revive y_M_revive : Cond) ∈ tbg := tbg_in2 1228 (by decide +kernel) rfl
set_option maxRecDepth 100000 in
theorem wd_1229 : (.code y_M_revive prog_10_method_48_code 2 (some .int) : Cond) ∈ tbg := tbg_in2 1229 rfl rfl
theorem wd_1230 : (.methodLink "QuotaLawsModel" 237 y_M_bitsOf : Cond) ∈ tbg := tbg_in2 1230 (by decide +kernel) rfl
theorem wd_1231 : (.static y_M_bitsOf : Cond) ∈ tbg := tbg_in2 1231 (by decide +kernel) rfl
set_option maxRecDepth 100000 in
theorem wd_1232 : (.code y_M_bitsOf prog_10_method_25_code 3 (some .int) : Cond) ∈ tbg := tbg_in2 1232 rfl rfl
theorem wd_1233 : (.methodLink "QuotaLawsLaw" 85 y_M_breaks : Cond) ∈ tbg := tbg_in2 1233 (by decide +kernel) rfl
theorem wd_1234 : (.instanceMethod y_M_breaks : Cond) ∈ tbg := tbg_in2 1234 (by decide +kernel) rfl
theorem wd_1235 : (.selects "QuotaLawsModel" y_M_breaks y_M_breaks : Cond) ∈ tbg := tbg_in2 1235 (by decide +kernel) rfl
set_option maxRecDepth 100000 in
theorem wd_1236 : (.code y_M_breaks prog_10_method_49_code 5 (some .int) : Cond) ∈ tbg := tbg_in2 1236 rfl rfl
theorem wd_1237 : (.methodLink "QuotaLawsLaw" 89 y_M_year : Cond) ∈ tbg := tbg_in2 1237 (by decide +kernel) rfl
theorem wd_1238 : (.instanceMethod y_M_year : Cond) ∈ tbg := tbg_in2 1238 (by decide +kernel) rfl
theorem wd_1239 : (.selects "QuotaLawsModel" y_M_year y_M_year : Cond) ∈ tbg := tbg_in2 1239 (by decide +kernel) rfl
set_option maxRecDepth 100000 in
theorem wd_1240 : (.code y_M_year prog_10_method_50_code 3 (some .int) : Cond) ∈ tbg := tbg_in2 1240 rfl rfl
theorem wd_1241 : (.methodLink "QuotaLawsModel" 240 y_M_fallsNow : Cond) ∈ tbg := tbg_in2 1241 (by decide +kernel) rfl
theorem wd_1243 : (.instanceMethod y_M_fallsNow : Cond) ∈ tbg := tbg_in2 1243 (by decide +kernel) rfl
set_option maxRecDepth 100000 in
theorem wd_1244 : (.code y_M_fallsNow prog_10_method_34_code 3 (some .int) : Cond) ∈ tbg := tbg_in2 1244 rfl rfl
theorem wd_1245 : (.methodLink "QuotaLawsLaw" 93 y_M_falls : Cond) ∈ tbg := tbg_in2 1245 (by decide +kernel) rfl
theorem wd_1246 : (.instanceMethod y_M_falls : Cond) ∈ tbg := tbg_in2 1246 (by decide +kernel) rfl
theorem wd_1247 : (.selects "QuotaLawsModel" y_M_falls y_M_falls : Cond) ∈ tbg := tbg_in2 1247 (by decide +kernel) rfl
set_option maxRecDepth 100000 in
theorem wd_1248 : (.code y_M_falls prog_10_method_51_code 1 (some .int) : Cond) ∈ tbg := tbg_in2 1248 rfl rfl
theorem wd_1249 : (.methodLink "QuotaLawsLaw" 97 y_M_most : Cond) ∈ tbg := tbg_in2 1249 (by decide +kernel) rfl
theorem wd_1250 : (.instanceMethod y_M_most : Cond) ∈ tbg := tbg_in2 1250 (by decide +kernel) rfl
theorem wd_1251 : (.selects "QuotaLawsModel" y_M_most y_M_most : Cond) ∈ tbg := tbg_in2 1251 (by decide +kernel) rfl
set_option maxRecDepth 100000 in
theorem wd_1252 : (.code y_M_most prog_10_method_52_code 6 (some .int) : Cond) ∈ tbg := tbg_in2 1252 rfl rfl
theorem wd_1253 : (.methodLink "QuotaLawsLaw" 101 y_M_rota : Cond) ∈ tbg := tbg_in2 1253 (by decide +kernel) rfl
theorem wd_1254 : (.instanceMethod y_M_rota : Cond) ∈ tbg := tbg_in2 1254 (by decide +kernel) rfl
theorem wd_1255 : (.selects "QuotaLawsModel" y_M_rota y_M_rota : Cond) ∈ tbg := tbg_in2 1255 (by decide +kernel) rfl
set_option maxRecDepth 100000 in
theorem wd_1256 : (.code y_M_rota prog_10_method_60_code 7 (some .int) : Cond) ∈ tbg := tbg_in2 1256 rfl rfl
theorem wd_1257 : (.methodLink "QuotaLawsModel" 260 y_M_startsRota : Cond) ∈ tbg := tbg_in2 1257 (by decide +kernel) rfl
theorem wd_1259 : (.instanceMethod y_M_startsRota : Cond) ∈ tbg := tbg_in2 1259 (by decide +kernel) rfl
set_option maxRecDepth 100000 in
theorem wd_1260 : (.code y_M_startsRota prog_10_method_58_code 3 none : Cond) ∈ tbg := tbg_in2 1260 rfl rfl
theorem wd_1261 : (.methodLink "QuotaLawsModel" 263 y_M_findRota : Cond) ∈ tbg := tbg_in2 1261 (by decide +kernel) rfl
theorem wd_1263 : (.instanceMethod y_M_findRota : Cond) ∈ tbg := tbg_in2 1263 (by decide +kernel) rfl
set_option maxRecDepth 100000 in
theorem wd_1264 : (.code y_M_findRota prog_10_method_57_code 5 (some .int) : Cond) ∈ tbg := tbg_in2 1264 rfl rfl
theorem wd_1265 : (.methodLink "QuotaLawsModel" 247 y_M_at : Cond) ∈ tbg := tbg_in2 1265 (by decide +kernel) rfl
theorem wd_1266 : (.static y_M_at : Cond) ∈ tbg := tbg_in2 1266 (by decide +kernel) rfl
set_option maxRecDepth 100000 in
theorem wd_1267 : (.code y_M_at prog_10_method_53_code 4 (some .int) : Cond) ∈ tbg := tbg_in2 1267 rfl rfl
theorem wd_1268 : (.methodLink "QuotaLawsModel" 257 y_M_leastOf : Cond) ∈ tbg := tbg_in2 1268 (by decide +kernel) rfl
theorem wd_1270 : (.instanceMethod y_M_leastOf : Cond) ∈ tbg := tbg_in2 1270 (by decide +kernel) rfl
set_option maxRecDepth 100000 in
theorem wd_1271 : (.code y_M_leastOf prog_10_method_56_code 10 (some .int) : Cond) ∈ tbg := tbg_in2 1271 rfl rfl
theorem wd_1272 : (.constant "QuotaLawsModel" 246 (1000000) : Cond) ∈ tbg := tbg_in2 1272 (by decide +kernel) rfl
theorem wd_1273 : (.constantLong "QuotaLawsModel" 251 (3) : Cond) ∈ tbg := tbg_in2 1273 (by decide +kernel) rfl
theorem wd_1274 : (.methodLink "QuotaLawsModel" 253 y_M_harmBy : Cond) ∈ tbg := tbg_in2 1274 (by decide +kernel) rfl
theorem wd_1276 : (.instanceMethod y_M_harmBy : Cond) ∈ tbg := tbg_in2 1276 (by decide +kernel) rfl
set_option maxRecDepth 100000 in
theorem wd_1277 : (.code y_M_harmBy prog_10_method_55_code 10 (some .int) : Cond) ∈ tbg := tbg_in2 1277 rfl rfl
theorem wd_1278 : (.methodLink "QuotaLawsModel" 243 y_M_roomAt : Cond) ∈ tbg := tbg_in2 1278 (by decide +kernel) rfl
theorem wd_1280 : (.instanceMethod y_M_roomAt : Cond) ∈ tbg := tbg_in2 1280 (by decide +kernel) rfl
set_option maxRecDepth 100000 in
theorem wd_1281 : (.code y_M_roomAt prog_10_method_54_code 3 (some .int) : Cond) ∈ tbg := tbg_in2 1281 rfl rfl
theorem wd_1282 : (.methodLink "QuotaLawsModel" 266 y_M_sharesOf : Cond) ∈ tbg := tbg_in2 1282 (by decide +kernel) rfl
theorem wd_1284 : (.instanceMethod y_M_sharesOf : Cond) ∈ tbg := tbg_in2 1284 (by decide +kernel) rfl
set_option maxRecDepth 100000 in
theorem wd_1285 : (.code y_M_sharesOf prog_10_method_59_code 10 none : Cond) ∈ tbg := tbg_in2 1285 rfl rfl
theorem wd_1286 : (.methodLink "QuotaLawsLaw" 105 y_M_more : Cond) ∈ tbg := tbg_in2 1286 (by decide +kernel) rfl
theorem wd_1287 : (.instanceMethod y_M_more : Cond) ∈ tbg := tbg_in2 1287 (by decide +kernel) rfl
theorem wd_1288 : (.selects "QuotaLawsModel" y_M_more y_M_more : Cond) ∈ tbg := tbg_in2 1288 (by decide +kernel) rfl
set_option maxRecDepth 100000 in
theorem wd_1289 : (.code y_M_more prog_10_method_61_code 5 (some .int) : Cond) ∈ tbg := tbg_in2 1289 rfl rfl
theorem wd_1290 : (.methodLink "QuotaLawsLaw" 109 y_M_together : Cond) ∈ tbg := tbg_in2 1290 (by decide +kernel) rfl
theorem wd_1291 : (.instanceMethod y_M_together : Cond) ∈ tbg := tbg_in2 1291 (by decide +kernel) rfl
theorem wd_1292 : (.selects "QuotaLawsModel" y_M_together y_M_together : Cond) ∈ tbg := tbg_in2 1292 (by decide +kernel) rfl
set_option maxRecDepth 100000 in
theorem wd_1293 : (.code y_M_together prog_10_method_62_code 6 (some .int) : Cond) ∈ tbg := tbg_in2 1293 rfl rfl
theorem wd_1294 : (.methodLink "QuotaLawsLaw" 113 y_M_kill : Cond) ∈ tbg := tbg_in2 1294 (by decide +kernel) rfl
theorem wd_1295 : (.instanceMethod y_M_kill : Cond) ∈ tbg := tbg_in2 1295 (by decide +kernel) rfl
theorem wd_1296 : (.selects "QuotaLawsModel" y_M_kill y_M_kill : Cond) ∈ tbg := tbg_in2 1296 (by decide +kernel) rfl
set_option maxRecDepth 100000 in
theorem wd_1297 : (.code y_M_kill prog_10_method_64_code 8 (some .int) : Cond) ∈ tbg := tbg_in2 1297 rfl rfl
theorem wd_1298 : (.methodLink "QuotaLawsModel" 270 y_M_triesOf : Cond) ∈ tbg := tbg_in2 1298 (by decide +kernel) rfl
theorem wd_1300 : (.instanceMethod y_M_triesOf : Cond) ∈ tbg := tbg_in2 1300 (by decide +kernel) rfl
set_option maxRecDepth 100000 in
theorem wd_1301 : (.code y_M_triesOf prog_10_method_63_code 4 (some .int) : Cond) ∈ tbg := tbg_in2 1301 rfl rfl
theorem wd_1302 : (.methodLink "QuotaLawsLaw" 117 y_M_selfish : Cond) ∈ tbg := tbg_in2 1302 (by decide +kernel) rfl
theorem wd_1303 : (.instanceMethod y_M_selfish : Cond) ∈ tbg := tbg_in2 1303 (by decide +kernel) rfl
theorem wd_1304 : (.selects "QuotaLawsModel" y_M_selfish y_M_selfish : Cond) ∈ tbg := tbg_in2 1304 (by decide +kernel) rfl
set_option maxRecDepth 100000 in
theorem wd_1305 : (.code y_M_selfish prog_10_method_68_code 7 (some .int) : Cond) ∈ tbg := tbg_in2 1305 rfl rfl
theorem wd_1306 : (.constantLong "QuotaLawsModel" 273 (2) : Cond) ∈ tbg := tbg_in2 1306 (by decide +kernel) rfl
theorem wd_1307 : (.methodLink "QuotaLawsModel" 275 y_M_saves : Cond) ∈ tbg := tbg_in2 1307 (by decide +kernel) rfl
theorem wd_1309 : (.instanceMethod y_M_saves : Cond) ∈ tbg := tbg_in2 1309 (by decide +kernel) rfl
set_option maxRecDepth 100000 in
theorem wd_1310 : (.code y_M_saves prog_10_method_65_code 2 none : Cond) ∈ tbg := tbg_in2 1310 rfl rfl
theorem wd_1311 : (.methodLink "QuotaLawsModel" 278 y_M_wantedBy : Cond) ∈ tbg := tbg_in2 1311 (by decide +kernel) rfl
theorem wd_1313 : (.instanceMethod y_M_wantedBy : Cond) ∈ tbg := tbg_in2 1313 (by decide +kernel) rfl
set_option maxRecDepth 100000 in
theorem wd_1314 : (.code y_M_wantedBy prog_10_method_67_code 5 (some .int) : Cond) ∈ tbg := tbg_in2 1314 rfl rfl
theorem wd_1315 : (.methodLink "QuotaLawsModel" 281 y_M_returns : Cond) ∈ tbg := tbg_in2 1315 (by decide +kernel) rfl
theorem wd_1317 : (.instanceMethod y_M_returns : Cond) ∈ tbg := tbg_in2 1317 (by decide +kernel) rfl
set_option maxRecDepth 100000 in
theorem wd_1318 : (.code y_M_returns prog_10_method_66_code 2 none : Cond) ∈ tbg := tbg_in2 1318 rfl rfl
theorem wd_1319 : (.methodLink "QuotaLawsLaw" 122 y_M_luck : Cond) ∈ tbg := tbg_in2 1319 (by decide +kernel) rfl
theorem wd_1320 : (.instanceMethod y_M_luck : Cond) ∈ tbg := tbg_in2 1320 (by decide +kernel) rfl
theorem wd_1321 : (.selects "QuotaLawsModel" y_M_luck y_M_luck : Cond) ∈ tbg := tbg_in2 1321 (by decide +kernel) rfl
set_option maxRecDepth 100000 in
theorem wd_1322 : (.code y_M_luck prog_10_method_70_code 10 (some .long) : Cond) ∈ tbg := tbg_in2 1322 rfl rfl
theorem wd_1323 : (.constantLong "QuotaLawsModel" 284 (-1) : Cond) ∈ tbg := tbg_in2 1323 (by decide +kernel) rfl
theorem wd_1324 : (.constantLong "QuotaLawsModel" 286 (10) : Cond) ∈ tbg := tbg_in2 1324 (by decide +kernel) rfl
theorem wd_1325 : (.methodLink "QuotaLawsModel" 288 y_M_common : Cond) ∈ tbg := tbg_in2 1325 (by decide +kernel) rfl
theorem wd_1326 : (.static y_M_common : Cond) ∈ tbg := tbg_in2 1326 (by decide +kernel) rfl
set_option maxRecDepth 100000 in
theorem wd_1327 : (.code y_M_common prog_10_method_69_code 10 (some .long) : Cond) ∈ tbg := tbg_in2 1327 rfl rfl
theorem wd_1328 : (.methodLink "QuotaLawsLaw" 127 y_M_see : Cond) ∈ tbg := tbg_in2 1328 (by decide +kernel) rfl
theorem wd_1329 : (.instanceMethod y_M_see : Cond) ∈ tbg := tbg_in2 1329 (by decide +kernel) rfl
theorem wd_1330 : (.selects "QuotaLawsModel" y_M_see y_M_see : Cond) ∈ tbg := tbg_in2 1330 (by decide +kernel) rfl
set_option maxRecDepth 100000 in
theorem wd_1331 : (.code y_M_see prog_10_method_71_code 6 (some .int) : Cond) ∈ tbg := tbg_in2 1331 rfl rfl
theorem wd_1332 : (.constantLong "QuotaLawsModel" 292 (20) : Cond) ∈ tbg := tbg_in2 1332 (by decide +kernel) rfl
theorem wd_1333 : (.methodLink "QuotaLawsLaw" 131 y_M_forget : Cond) ∈ tbg := tbg_in2 1333 (by decide +kernel) rfl
theorem wd_1334 : (.instanceMethod y_M_forget : Cond) ∈ tbg := tbg_in2 1334 (by decide +kernel) rfl
theorem wd_1335 : (.selects "QuotaLawsModel" y_M_forget y_M_forget : Cond) ∈ tbg := tbg_in2 1335 (by decide +kernel) rfl
set_option maxRecDepth 100000 in
theorem wd_1336 : (.code y_M_forget prog_10_method_72_code 2 (some .int) : Cond) ∈ tbg := tbg_in2 1336 rfl rfl
theorem wd_1337 : (.methodLink "QuotaLawsLaw" 136 y_M_books : Cond) ∈ tbg := tbg_in2 1337 (by decide +kernel) rfl
theorem wd_1338 : (.instanceMethod y_M_books : Cond) ∈ tbg := tbg_in2 1338 (by decide +kernel) rfl
theorem wd_1339 : (.selects "QuotaLawsModel" y_M_books y_M_books : Cond) ∈ tbg := tbg_in2 1339 (by decide +kernel) rfl
set_option maxRecDepth 100000 in
theorem wd_1340 : (.code y_M_books prog_10_method_80_code 1 (some .long) : Cond) ∈ tbg := tbg_in2 1340 rfl rfl
theorem wd_1341 : (.methodLink "QuotaLawsModel" 315 y_M_tablesBy : Cond) ∈ tbg := tbg_in2 1341 (by decide +kernel) rfl
theorem wd_1343 : (.instanceMethod y_M_tablesBy : Cond) ∈ tbg := tbg_in2 1343 (by decide +kernel) rfl
set_option maxRecDepth 100000 in
theorem wd_1344 : (.code y_M_tablesBy prog_10_method_79_code 7 (some .long) : Cond) ∈ tbg := tbg_in2 1344 rfl rfl
theorem wd_1345 : (.methodLink "QuotaLawsModel" 309 y_M_addsLaw : Cond) ∈ tbg := tbg_in2 1345 (by decide +kernel) rfl
theorem wd_1347 : (.instanceMethod y_M_addsLaw : Cond) ∈ tbg := tbg_in2 1347 (by decide +kernel) rfl
set_option maxRecDepth 100000 in
theorem wd_1348 : (.code y_M_addsLaw prog_10_method_76_code 9 none : Cond) ∈ tbg := tbg_in2 1348 rfl rfl
theorem wd_1349 : (.methodLink "QuotaLawsModel" 294 y_M_mostOf : Cond) ∈ tbg := tbg_in2 1349 (by decide +kernel) rfl
theorem wd_1351 : (.instanceMethod y_M_mostOf : Cond) ∈ tbg := tbg_in2 1351 (by decide +kernel) rfl
set_option maxRecDepth 100000 in
theorem wd_1352 : (.code y_M_mostOf prog_10_method_74_code 3 (some .int) : Cond) ∈ tbg := tbg_in2 1352 rfl rfl
theorem wd_1353 : (.methodLink "QuotaLawsModel" 297 y_M_isSo : Cond) ∈ tbg := tbg_in2 1353 (by decide +kernel) rfl
theorem wd_1355 : (.instanceMethod y_M_isSo : Cond) ∈ tbg := tbg_in2 1355 (by decide +kernel) rfl
set_option maxRecDepth 100000 in
theorem wd_1356 : (.code y_M_isSo prog_10_method_73_code 7 (some .boolean) : Cond) ∈ tbg := tbg_in2 1356 rfl rfl
theorem wd_1357 : (.methodLink "QuotaLawsModel" 301 y_M_isAsked : Cond) ∈ tbg := tbg_in2 1357 (by decide +kernel) rfl
theorem wd_1359 : (.instanceMethod y_M_isAsked : Cond) ∈ tbg := tbg_in2 1359 (by decide +kernel) rfl
set_option maxRecDepth 100000 in
theorem wd_1360 : (.code y_M_isAsked prog_10_method_75_code 7 (some .boolean) : Cond) ∈ tbg := tbg_in2 1360 rfl rfl
theorem wd_1361 : (.methodLink "QuotaLawsModel" 305 y_M_addsTables : Cond) ∈ tbg := tbg_in2 1361 (by decide +kernel) rfl
theorem wd_1363 : (.instanceMethod y_M_addsTables : Cond) ∈ tbg := tbg_in2 1363 (by decide +kernel) rfl
set_option maxRecDepth 100000 in
theorem wd_1364 : (.code y_M_addsTables prog_10_method_77_code 8 none : Cond) ∈ tbg := tbg_in2 1364 rfl rfl
theorem wd_1365 : (.methodLink "QuotaLawsModel" 312 y_M_isTime : Cond) ∈ tbg := tbg_in2 1365 (by decide +kernel) rfl
theorem wd_1367 : (.instanceMethod y_M_isTime : Cond) ∈ tbg := tbg_in2 1367 (by decide +kernel) rfl
set_option maxRecDepth 100000 in
theorem wd_1368 : (.code y_M_isTime prog_10_method_78_code 3 (some .boolean) : Cond) ∈ tbg := tbg_in2 1368 rfl rfl
theorem wd_1369 : (.methodLink "QuotaLawsLaw" 140 y_M_entry : Cond) ∈ tbg := tbg_in2 1369 (by decide +kernel) rfl
theorem wd_1370 : (.instanceMethod y_M_entry : Cond) ∈ tbg := tbg_in2 1370 (by decide +kernel) rfl
theorem wd_1371 : (.selects "QuotaLawsModel" y_M_entry y_M_entry : Cond) ∈ tbg := tbg_in2 1371 (by decide +kernel) rfl
set_option maxRecDepth 100000 in
theorem wd_1372 : (.code y_M_entry prog_10_method_81_code 8 (some .int) : Cond) ∈ tbg := tbg_in2 1372 rfl rfl
theorem wd_1373 : (.methodLink "QuotaLawsLaw" 144 y_M_wild : Cond) ∈ tbg := tbg_in2 1373 (by decide +kernel) rfl
theorem wd_1374 : (.instanceMethod y_M_wild : Cond) ∈ tbg := tbg_in2 1374 (by decide +kernel) rfl
theorem wd_1375 : (.selects "QuotaLawsModel" y_M_wild y_M_wild : Cond) ∈ tbg := tbg_in2 1375 (by decide +kernel) rfl
set_option maxRecDepth 100000 in
theorem wd_1376 : (.code y_M_wild prog_10_method_82_code 8 (some .int) : Cond) ∈ tbg := tbg_in2 1376 rfl rfl
theorem wd_1377 : (.constantLong "QuotaLawsModel" 319 (60) : Cond) ∈ tbg := tbg_in2 1377 (by decide +kernel) rfl
theorem wd_1378 : (.constant "QuotaLawsModel" 321 (1103515245) : Cond) ∈ tbg := tbg_in2 1378 (by decide +kernel) rfl
theorem wd_1379 : (.methodLink "QuotaLawsModel" 322 y_M_breaks : Cond) ∈ tbg := tbg_in2 1379 (by decide +kernel) rfl
theorem wd_1380 : (.methodLink "QuotaLawsLaw" 148 y_M_keep : Cond) ∈ tbg := tbg_in2 1380 (by decide +kernel) rfl
theorem wd_1381 : (.instanceMethod y_M_keep : Cond) ∈ tbg := tbg_in2 1381 (by decide +kernel) rfl
theorem wd_1382 : (.selects "QuotaLawsModel" y_M_keep y_M_keep : Cond) ∈ tbg := tbg_in2 1382 (by decide +kernel) rfl
set_option maxRecDepth 100000 in
theorem wd_1383 : (.code y_M_keep prog_10_method_84_code 3 (some .int) : Cond) ∈ tbg := tbg_in2 1383 rfl rfl
theorem wd_1384 : (.methodLink "QuotaLawsModel" 325 y_M_copies : Cond) ∈ tbg := tbg_in2 1384 (by decide +kernel) rfl
theorem wd_1386 : (.instanceMethod y_M_copies : Cond) ∈ tbg := tbg_in2 1386 (by decide +kernel) rfl
set_option maxRecDepth 100000 in
theorem wd_1387 : (.code y_M_copies prog_10_method_83_code 4 none : Cond) ∈ tbg := tbg_in2 1387 rfl rfl
theorem wd_1388 : (.methodLink "QuotaLawsLaw" 152 y_M_back : Cond) ∈ tbg := tbg_in2 1388 (by decide +kernel) rfl
theorem wd_1389 : (.instanceMethod y_M_back : Cond) ∈ tbg := tbg_in2 1389 (by decide +kernel) rfl
theorem wd_1390 : (.selects "QuotaLawsModel" y_M_back y_M_back : Cond) ∈ tbg := tbg_in2 1390 (by decide +kernel) rfl
set_option maxRecDepth 100000 in
theorem wd_1391 : (.code y_M_back prog_10_method_85_code 2 (some .int) : Cond) ∈ tbg := tbg_in2 1391 rfl rfl
theorem wd_1392 : (.methodLink "QuotaLawsLaw" 156 y_M_sheet : Cond) ∈ tbg := tbg_in2 1392 (by decide +kernel) rfl
theorem wd_1393 : (.instanceMethod y_M_sheet : Cond) ∈ tbg := tbg_in2 1393 (by decide +kernel) rfl
theorem wd_1394 : (.selects "QuotaLawsModel" y_M_sheet y_M_sheet : Cond) ∈ tbg := tbg_in2 1394 (by decide +kernel) rfl
set_option maxRecDepth 100000 in
theorem wd_1395 : (.code y_M_sheet prog_10_method_87_code 5 (some .int) : Cond) ∈ tbg := tbg_in2 1395 rfl rfl
theorem wd_1396 : (.methodLink "QuotaLawsModel" 329 y_M_isSheet : Cond) ∈ tbg := tbg_in2 1396 (by decide +kernel) rfl
theorem wd_1397 : (.static y_M_isSheet : Cond) ∈ tbg := tbg_in2 1397 (by decide +kernel) rfl
set_option maxRecDepth 100000 in
theorem wd_1398 : (.code y_M_isSheet prog_10_method_86_code 2 (some .boolean) : Cond) ∈ tbg := tbg_in2 1398 rfl rfl
theorem wd_1399 : (.methodLink "QuotaLawsLaw" 160 y_M_lay : Cond) ∈ tbg := tbg_in2 1399 (by decide +kernel) rfl
theorem wd_1400 : (.instanceMethod y_M_lay : Cond) ∈ tbg := tbg_in2 1400 (by decide +kernel) rfl
theorem wd_1401 : (.selects "QuotaLawsModel" y_M_lay y_M_lay : Cond) ∈ tbg := tbg_in2 1401 (by decide +kernel) rfl
set_option maxRecDepth 100000 in
theorem wd_1402 : (.code y_M_lay prog_10_method_88_code 4 (some .int) : Cond) ∈ tbg := tbg_in2 1402 rfl rfl
theorem wd_1403 : (.methodLink "QuotaLawsLaw" 165 y_M_read : Cond) ∈ tbg := tbg_in2 1403 (by decide +kernel) rfl
theorem wd_1404 : (.instanceMethod y_M_read : Cond) ∈ tbg := tbg_in2 1404 (by decide +kernel) rfl
theorem wd_1405 : (.selects "QuotaLawsModel" y_M_read y_M_read : Cond) ∈ tbg := tbg_in2 1405 (by decide +kernel) rfl
set_option maxRecDepth 100000 in
theorem wd_1406 : (.code y_M_read prog_10_method_89_code 11 (some .int) : Cond) ∈ tbg := tbg_in2 1406 rfl rfl
theorem wd_1407 : (.methodLink "QuotaLawsLaw" 169 y_M_torn : Cond) ∈ tbg := tbg_in2 1407 (by decide +kernel) rfl
theorem wd_1408 : (.instanceMethod y_M_torn : Cond) ∈ tbg := tbg_in2 1408 (by decide +kernel) rfl
theorem wd_1409 : (.selects "QuotaLawsModel" y_M_torn y_M_torn : Cond) ∈ tbg := tbg_in2 1409 (by decide +kernel) rfl
set_option maxRecDepth 100000 in
theorem wd_1410 : (.code y_M_torn prog_10_method_90_code 1 (some .int) : Cond) ∈ tbg := tbg_in2 1410 rfl rfl
theorem wd_1411 : (.methodLink "QuotaLawsLaw" 173 y_M_count : Cond) ∈ tbg := tbg_in2 1411 (by decide +kernel) rfl
theorem wd_1412 : (.instanceMethod y_M_count : Cond) ∈ tbg := tbg_in2 1412 (by decide +kernel) rfl
theorem wd_1413 : (.selects "QuotaLawsModel" y_M_count y_M_count : Cond) ∈ tbg := tbg_in2 1413 (by decide +kernel) rfl
set_option maxRecDepth 100000 in
theorem wd_1414 : (.code y_M_count prog_10_method_91_code 6 (some .int) : Cond) ∈ tbg := tbg_in2 1414 rfl rfl
theorem wd_1415 : (.fieldLink "java/lang/String" 9 "java/lang/String" "value" "[B" : Cond) ∈ tbg := tbg_in2 1415 (by decide +kernel) rfl
theorem wd_1416 : (.fieldLink "java/lang/String" 15 "java/lang/String" "coder" "B" : Cond) ∈ tbg := tbg_in2 1416 (by decide +kernel) rfl
theorem wp_0 : (.selects "QuotaLaws$Reader" y_Reader_takeToken y_Reader_takeToken : Cond) ∈ tbg := tbg_in3 0 (by decide +kernel) rfl
theorem wp_1 : (.selects "QuotaLaws$Reader" y_Reader_passRun y_Reader_passRun : Cond) ∈ tbg := tbg_in3 1 (by decide +kernel) rfl
theorem wp_2 : (.selects "QuotaLaws$Reader" y_Reader_kindHere y_Reader_kindHere : Cond) ∈ tbg := tbg_in3 2 (by decide +kernel) rfl
theorem wp_3 : (.selects "QuotaLaws$Reader" y_Reader_valueOfRun y_Reader_valueOfRun : Cond) ∈ tbg := tbg_in3 3 (by decide +kernel) rfl
theorem wp_4 : (.selects "QuotaLaws$Reader" y_Reader_fail y_Reader_fail : Cond) ∈ tbg := tbg_in3 4 (by decide +kernel) rfl
theorem wp_5 : (.selects "QuotaLaws$Reader" y_Reader_takeLine y_Reader_takeLine : Cond) ∈ tbg := tbg_in3 5 (by decide +kernel) rfl
theorem wp_6 : (.selects "QuotaLaws$Reader" y_Reader_isWord y_Reader_isWord : Cond) ∈ tbg := tbg_in3 6 (by decide +kernel) rfl
theorem wp_7 : (.selects "QuotaLaws$Reader" y_Reader_takeLaw y_Reader_takeLaw : Cond) ∈ tbg := tbg_in3 7 (by decide +kernel) rfl
theorem wp_8 : (.selects "QuotaLaws$Reader" y_Reader_takeNumber y_Reader_takeNumber : Cond) ∈ tbg := tbg_in3 8 (by decide +kernel) rfl
theorem wp_9 : (.selects "QuotaLaws$Reader" y_Reader_isBounded y_Reader_isBounded : Cond) ∈ tbg := tbg_in3 9 (by decide +kernel) rfl
theorem wp_10 : (.selects "QuotaLaws$Reader" y_Reader_putInto y_Reader_putInto : Cond) ∈ tbg := tbg_in3 10 (by decide +kernel) rfl
theorem wp_11 : (.selects "QuotaLaws$Reader" y_Reader_takeCarried y_Reader_takeCarried : Cond) ∈ tbg := tbg_in3 11 (by decide +kernel) rfl
theorem wp_12 : (.selects "QuotaLaws$Reader" y_Reader_isStop y_Reader_isStop : Cond) ∈ tbg := tbg_in3 12 (by decide +kernel) rfl
theorem wp_13 : (.selects "QuotaLaws$Reader" y_Reader_takeOne y_Reader_takeOne : Cond) ∈ tbg := tbg_in3 13 (by decide +kernel) rfl
theorem wp_14 : (.selects "QuotaLaws$Reader" y_Reader_addLaw y_Reader_addLaw : Cond) ∈ tbg := tbg_in3 14 (by decide +kernel) rfl
theorem wp_15 : (.selects "QuotaLaws$Reader" y_Reader_takeWant y_Reader_takeWant : Cond) ∈ tbg := tbg_in3 15 (by decide +kernel) rfl
theorem wp_16 : (.selects "QuotaLaws$Reader" y_Reader_takeWatch y_Reader_takeWatch : Cond) ∈ tbg := tbg_in3 16 (by decide +kernel) rfl
theorem wp_17 : (.selects "QuotaLaws$Planner" y_Planner_leftToLast y_Planner_leftToLast : Cond) ∈ tbg := tbg_in3 17 (by decide +kernel) rfl
theorem wp_18 : (.selects "QuotaLaws$Planner" y_Planner_search y_Planner_search : Cond) ∈ tbg := tbg_in3 18 (by decide +kernel) rfl
theorem wp_19 : (.selects "QuotaLaws$Planner" y_Planner_needOfAll y_Planner_needOfAll : Cond) ∈ tbg := tbg_in3 19 (by decide +kernel) rfl
theorem wp_20 : (.selects "QuotaLaws$Planner" y_Planner_givenTo y_Planner_givenTo : Cond) ∈ tbg := tbg_in3 20 (by decide +kernel) rfl
theorem wp_21 : (.selects "QuotaLaws$Odds" y_Odds_addTry y_Odds_addTry : Cond) ∈ tbg := tbg_in3 21 (by decide +kernel) rfl
theorem wp_22 : (.selects "QuotaLaws$Odds" y_Odds_reduce y_Odds_reduce : Cond) ∈ tbg := tbg_in3 22 (by decide +kernel) rfl
theorem wp_23 : (.selects "QuotaLaws$Tables" y_Tables_spendAlone y_Tables_spendAlone : Cond) ∈ tbg := tbg_in3 23 (by decide +kernel) rfl
theorem wp_24 : (.selects "QuotaLaws$Tables" y_Tables_joinAll y_Tables_joinAll : Cond) ∈ tbg := tbg_in3 24 (by decide +kernel) rfl
theorem wp_25 : (.selects "QuotaLaws$Tables" y_Tables_spendTogether y_Tables_spendTogether : Cond) ∈ tbg := tbg_in3 25 (by decide +kernel) rfl
theorem wp_26 : (.selects "QuotaLaws$Tables" y_Tables_waysTo y_Tables_waysTo : Cond) ∈ tbg := tbg_in3 26 (by decide +kernel) rfl
theorem wp_27 : (.selects "QuotaLaws$Tables" y_Tables_sumOfDue y_Tables_sumOfDue : Cond) ∈ tbg := tbg_in3 27 (by decide +kernel) rfl
theorem wp_28 : (.selects "QuotaLaws$Tables" y_Tables_isDueOf y_Tables_isDueOf : Cond) ∈ tbg := tbg_in3 28 (by decide +kernel) rfl
theorem wp_29 : (.selects "QuotaLaws" y_Q_countKept y_Q_countKept : Cond) ∈ tbg := tbg_in3 29 (by decide +kernel) rfl
theorem wp_30 : (.selects "QuotaLawsModel" y_M_firstDraft y_M_firstDraft : Cond) ∈ tbg := tbg_in3 30 (by decide +kernel) rfl
theorem wp_31 : (.selects "QuotaLawsModel" y_M_keepDraft y_M_keepDraft : Cond) ∈ tbg := tbg_in3 31 (by decide +kernel) rfl
theorem wp_32 : (.selects "QuotaLawsModel" y_M_next y_M_next : Cond) ∈ tbg := tbg_in3 32 (by decide +kernel) rfl
theorem wp_33 : (.selects "QuotaLawsModel" y_M_look y_M_look : Cond) ∈ tbg := tbg_in3 33 (by decide +kernel) rfl
theorem wp_34 : (.selects "QuotaLawsModel" y_M_needs y_M_needs : Cond) ∈ tbg := tbg_in3 34 (by decide +kernel) rfl
theorem wp_35 : (.selects "QuotaLawsModel" y_M_readLine y_M_readLine : Cond) ∈ tbg := tbg_in3 35 (by decide +kernel) rfl
theorem wp_36 : (.selects "QuotaLawsModel" y_M_lineNow y_M_lineNow : Cond) ∈ tbg := tbg_in3 36 (by decide +kernel) rfl
theorem wp_37 : (.selects "QuotaLawsModel" y_M_is y_M_is : Cond) ∈ tbg := tbg_in3 37 (by decide +kernel) rfl
theorem wp_38 : (.selects "QuotaLawsModel" y_M_readLineOf y_M_readLineOf : Cond) ∈ tbg := tbg_in3 38 (by decide +kernel) rfl
theorem wp_39 : (.selects "QuotaLawsModel" y_M_readLaw y_M_readLaw : Cond) ∈ tbg := tbg_in3 39 (by decide +kernel) rfl
theorem wp_40 : (.selects "QuotaLawsModel" y_M_readNumber y_M_readNumber : Cond) ∈ tbg := tbg_in3 40 (by decide +kernel) rfl
theorem wp_41 : (.selects "QuotaLawsModel" y_M_looked y_M_looked : Cond) ∈ tbg := tbg_in3 41 (by decide +kernel) rfl
theorem wp_42 : (.selects "QuotaLawsModel" y_M_readLawOf y_M_readLawOf : Cond) ∈ tbg := tbg_in3 42 (by decide +kernel) rfl
theorem wp_43 : (.selects "QuotaLawsModel" y_M_readOne y_M_readOne : Cond) ∈ tbg := tbg_in3 43 (by decide +kernel) rfl
theorem wp_44 : (.selects "QuotaLawsModel" y_M_isLaw y_M_isLaw : Cond) ∈ tbg := tbg_in3 44 (by decide +kernel) rfl
theorem wp_45 : (.selects "QuotaLawsModel" y_M_needOf y_M_needOf : Cond) ∈ tbg := tbg_in3 45 (by decide +kernel) rfl
theorem wp_46 : (.selects "QuotaLawsModel" y_M_doesStand y_M_doesStand : Cond) ∈ tbg := tbg_in3 46 (by decide +kernel) rfl
theorem wp_47 : (.selects "QuotaLawsModel" y_M_brokenBy y_M_brokenBy : Cond) ∈ tbg := tbg_in3 47 (by decide +kernel) rfl
theorem wp_48 : (.selects "QuotaLawsModel" y_M_chainOf y_M_chainOf : Cond) ∈ tbg := tbg_in3 48 (by decide +kernel) rfl
theorem wp_49 : (.selects "QuotaLawsModel" y_M_isOne y_M_isOne : Cond) ∈ tbg := tbg_in3 49 (by decide +kernel) rfl
theorem wp_50 : (.selects "QuotaLawsModel" y_M_canBreak y_M_canBreak : Cond) ∈ tbg := tbg_in3 50 (by decide +kernel) rfl
theorem wp_51 : (.selects "QuotaLawsModel" y_M_roomOf y_M_roomOf : Cond) ∈ tbg := tbg_in3 51 (by decide +kernel) rfl
theorem wp_52 : (.selects "QuotaLawsModel" y_M_timeLeft y_M_timeLeft : Cond) ∈ tbg := tbg_in3 52 (by decide +kernel) rfl
theorem wp_53 : (.selects "QuotaLawsModel" y_M_allBy y_M_allBy : Cond) ∈ tbg := tbg_in3 53 (by decide +kernel) rfl
theorem wp_54 : (.selects "QuotaLawsModel" y_M_becomes y_M_becomes : Cond) ∈ tbg := tbg_in3 54 (by decide +kernel) rfl
theorem wp_55 : (.selects "QuotaLawsModel" y_M_becomesBit y_M_becomesBit : Cond) ∈ tbg := tbg_in3 55 (by decide +kernel) rfl
theorem wp_56 : (.selects "QuotaLawsModel" y_M_fallsNow y_M_fallsNow : Cond) ∈ tbg := tbg_in3 56 (by decide +kernel) rfl
theorem wp_57 : (.selects "QuotaLawsModel" y_M_startsRota y_M_startsRota : Cond) ∈ tbg := tbg_in3 57 (by decide +kernel) rfl
theorem wp_58 : (.selects "QuotaLawsModel" y_M_findRota y_M_findRota : Cond) ∈ tbg := tbg_in3 58 (by decide +kernel) rfl
theorem wp_59 : (.selects "QuotaLawsModel" y_M_leastOf y_M_leastOf : Cond) ∈ tbg := tbg_in3 59 (by decide +kernel) rfl
theorem wp_60 : (.selects "QuotaLawsModel" y_M_harmBy y_M_harmBy : Cond) ∈ tbg := tbg_in3 60 (by decide +kernel) rfl
theorem wp_61 : (.selects "QuotaLawsModel" y_M_roomAt y_M_roomAt : Cond) ∈ tbg := tbg_in3 61 (by decide +kernel) rfl
theorem wp_62 : (.selects "QuotaLawsModel" y_M_sharesOf y_M_sharesOf : Cond) ∈ tbg := tbg_in3 62 (by decide +kernel) rfl
theorem wp_63 : (.selects "QuotaLawsModel" y_M_triesOf y_M_triesOf : Cond) ∈ tbg := tbg_in3 63 (by decide +kernel) rfl
theorem wp_64 : (.selects "QuotaLawsModel" y_M_saves y_M_saves : Cond) ∈ tbg := tbg_in3 64 (by decide +kernel) rfl
theorem wp_65 : (.selects "QuotaLawsModel" y_M_wantedBy y_M_wantedBy : Cond) ∈ tbg := tbg_in3 65 (by decide +kernel) rfl
theorem wp_66 : (.selects "QuotaLawsModel" y_M_returns y_M_returns : Cond) ∈ tbg := tbg_in3 66 (by decide +kernel) rfl
theorem wp_67 : (.selects "QuotaLawsModel" y_M_tablesBy y_M_tablesBy : Cond) ∈ tbg := tbg_in3 67 (by decide +kernel) rfl
theorem wp_68 : (.selects "QuotaLawsModel" y_M_addsLaw y_M_addsLaw : Cond) ∈ tbg := tbg_in3 68 (by decide +kernel) rfl
theorem wp_69 : (.selects "QuotaLawsModel" y_M_mostOf y_M_mostOf : Cond) ∈ tbg := tbg_in3 69 (by decide +kernel) rfl
theorem wp_70 : (.selects "QuotaLawsModel" y_M_isSo y_M_isSo : Cond) ∈ tbg := tbg_in3 70 (by decide +kernel) rfl
theorem wp_71 : (.selects "QuotaLawsModel" y_M_isAsked y_M_isAsked : Cond) ∈ tbg := tbg_in3 71 (by decide +kernel) rfl
theorem wp_72 : (.selects "QuotaLawsModel" y_M_addsTables y_M_addsTables : Cond) ∈ tbg := tbg_in3 72 (by decide +kernel) rfl
theorem wp_73 : (.selects "QuotaLawsModel" y_M_isTime y_M_isTime : Cond) ∈ tbg := tbg_in3 73 (by decide +kernel) rfl
theorem wp_74 : (.selects "QuotaLawsModel" y_M_copies y_M_copies : Cond) ∈ tbg := tbg_in3 74 (by decide +kernel) rfl
theorem si_Sightings_new : site0 y_Sightings_new prog_7_method_1_code 1 none 0 := ⟨wd_75, wd_4, ⟨by decide, by decide⟩, by decide +kernel⟩
theorem si_Reader_new : site0 y_Reader_new prog_4_method_1_code 1 none 0 := ⟨wd_30, wd_2, ⟨by decide, by decide⟩, by decide +kernel⟩
theorem si_Realm_new : site0 y_Realm_new prog_5_method_1_code 1 none 0 := ⟨wd_69, wd_3, ⟨by decide, by decide⟩, by decide +kernel⟩
theorem si_Planner_new : site0 y_Planner_new prog_3_method_1_code 1 none 0 := ⟨wd_202, wd_5, ⟨by decide, by decide⟩, by decide +kernel⟩
theorem si_Tables_new : site0 y_Tables_new prog_8_method_1_code 1 none 0 := ⟨wd_234, wd_6, ⟨by decide, by decide⟩, by decide +kernel⟩
theorem si_Odds_new : site0 y_Odds_new prog_2_method_1_code 1 none 0 := ⟨wd_266, wd_7, ⟨by decide, by decide⟩, by decide +kernel⟩
theorem si_Sheet_new : site0 y_Sheet_new prog_6_method_1_code 1 none 0 := ⟨wd_283, wd_8, ⟨by decide, by decide⟩, by decide +kernel⟩
theorem si_Q_isWithin : site0 y_Q_isWithin prog_1_method_41_code 3 (some .boolean) 3 := ⟨wd_333, wd_1, ⟨by decide, by decide⟩, by decide +kernel⟩
theorem si_Reader_append : site0 y_Reader_append prog_4_method_2_code 2 (some .boolean) 1 := ⟨wd_337, wd_2, ⟨by decide, by decide⟩, by decide +kernel⟩
theorem si_Arrays_fillI : site0 y_Arrays_fillI prog_17_method_103_code 4 none 2 := ⟨wd_356, wd_10, ⟨by decide, by decide⟩, by decide +kernel⟩
theorem si_Reader_passRun : site0 y_Reader_passRun prog_4_method_19_code 3 none 2 := ⟨wd_364, wd_2, ⟨by decide, by decide⟩, by decide +kernel⟩
theorem si_Reader_kindHere : site0 y_Reader_kindHere prog_4_method_18_code 2 (some .int) 0 := ⟨wd_368, wd_2, ⟨by decide, by decide⟩, by decide +kernel⟩
theorem si_Reader_valueOfRun : site0 y_Reader_valueOfRun prog_4_method_20_code 3 (some .int) 0 := ⟨wd_372, wd_2, ⟨by decide, by decide⟩, by decide +kernel⟩
theorem si_Reader_fail : site0 y_Reader_fail prog_4_method_21_code 3 (some .boolean) 2 := ⟨wd_376, wd_2, ⟨by decide, by decide⟩, by decide +kernel⟩
theorem si_String_length : site0 y_String_length prog_13_method_54_code 1 (some .int) 0 := ⟨wd_389, wd_11, ⟨by decide, by decide⟩, by decide +kernel⟩
theorem si_String_charAt : site0 y_String_charAt prog_13_method_56_code 2 (some .char) 1 := ⟨wd_399, wd_11, ⟨by decide, by decide⟩, by decide +kernel⟩
theorem si_Reader_takeToken : site0 y_Reader_takeToken prog_4_method_17_code 1 (some .boolean) 0 := ⟨wd_360, wd_2, ⟨by decide, by decide⟩, by decide +kernel⟩
theorem si_Reader_isBounded : site0 y_Reader_isBounded prog_4_method_14_code 3 (some .boolean) 2 := ⟨wd_445, wd_2, ⟨by decide, by decide⟩, by decide +kernel⟩
theorem si_Reader_takeNumber : site0 y_Reader_takeNumber prog_4_method_13_code 3 (some .boolean) 2 := ⟨wd_441, wd_2, ⟨by decide, by decide⟩, by decide +kernel⟩
theorem si_Reader_putInto : site0 y_Reader_putInto prog_4_method_12_code 3 (some .boolean) 2 := ⟨wd_450, wd_2, ⟨by decide, by decide⟩, by decide +kernel⟩
theorem si_Reader_takeCarried : site0 y_Reader_takeCarried prog_4_method_6_code 3 (some .boolean) 2 := ⟨wd_454, wd_2, ⟨by decide, by decide⟩, by decide +kernel⟩
theorem si_Reader_isStop : site0 y_Reader_isStop prog_4_method_15_code 1 (some .boolean) 0 := ⟨wd_458, wd_2, ⟨by decide, by decide⟩, by decide +kernel⟩
theorem si_Q_hasBit : site0 y_Q_hasBit prog_1_method_42_code 2 (some .boolean) 2 := ⟨wd_470, wd_1, ⟨by decide, by decide⟩, by decide +kernel⟩
theorem si_Reader_addLaw : site0 y_Reader_addLaw prog_4_method_10_code 3 (some .boolean) 2 := ⟨wd_467, wd_2, ⟨by decide, by decide⟩, by decide +kernel⟩
theorem si_Reader_isWord : site0 y_Reader_isWord prog_4_method_16_code 3 (some .boolean) 1 := ⟨wd_385, wd_2, ⟨by decide, by decide⟩, by decide +kernel⟩
theorem si_Reader_takeWatch : site0 y_Reader_takeWatch prog_4_method_9_code 2 (some .boolean) 1 := ⟨wd_480, wd_2, ⟨by decide, by decide⟩, by decide +kernel⟩
theorem si_Reader_takeWant : site0 y_Reader_takeWant prog_4_method_8_code 3 (some .boolean) 1 := ⟨wd_475, wd_2, ⟨by decide, by decide⟩, by decide +kernel⟩
theorem si_Reader_takeOne : site0 y_Reader_takeOne prog_4_method_7_code 5 (some .boolean) 2 := ⟨wd_463, wd_2, ⟨by decide, by decide⟩, by decide +kernel⟩
theorem si_Reader_takeLaw : site0 y_Reader_takeLaw prog_4_method_5_code 3 (some .boolean) 2 := ⟨wd_437, wd_2, ⟨by decide, by decide⟩, by decide +kernel⟩
theorem si_Q_isPart : site0 y_Q_isPart prog_1_method_45_code 2 (some .boolean) 2 := ⟨wd_486, wd_1, ⟨by decide, by decide⟩, by decide +kernel⟩
theorem si_Realm_hasLaw : site0 y_Realm_hasLaw prog_5_method_4_code 2 (some .boolean) 1 := ⟨wd_490, wd_3, ⟨by decide, by decide⟩, by decide +kernel⟩
theorem si_Realm_hasOne : site0 y_Realm_hasOne prog_5_method_5_code 2 (some .boolean) 1 := ⟨wd_494, wd_3, ⟨by decide, by decide⟩, by decide +kernel⟩
theorem si_Realm_empty : site0 y_Realm_empty prog_5_method_2_code 1 none 0 := ⟨wd_353, wd_3, ⟨by decide, by decide⟩, by decide +kernel⟩
theorem si_Reader_takeLine : site0 y_Reader_takeLine prog_4_method_4_code 2 (some .boolean) 1 := ⟨wd_380, wd_2, ⟨by decide, by decide⟩, by decide +kernel⟩
theorem si_Reader_allThere : site0 y_Reader_allThere prog_4_method_11_code 4 (some .boolean) 1 := ⟨wd_483, wd_2, ⟨by decide, by decide⟩, by decide +kernel⟩
theorem si_Sightings_copyFrom : site0 y_Sightings_copyFrom prog_7_method_4_code 2 none 1 := ⟨wd_505, wd_4, ⟨by decide, by decide⟩, by decide +kernel⟩
theorem si_Reader_readInto : site0 y_Reader_readInto prog_4_method_3_code 4 (some .boolean) 1 := ⟨wd_349, wd_2, ⟨by decide, by decide⟩, by decide +kernel⟩
theorem si_Realm_copyFrom : site0 y_Realm_copyFrom prog_5_method_3_code 2 none 1 := ⟨wd_498, wd_3, ⟨by decide, by decide⟩, by decide +kernel⟩
theorem si_Realm_brokenBy : site0 y_Realm_brokenBy prog_5_method_7_code 3 (some .int) 2 := ⟨wd_528, wd_3, ⟨by decide, by decide⟩, by decide +kernel⟩
theorem si_Realm_needOf : site0 y_Realm_needOf prog_5_method_10_code 4 (some .int) 1 := ⟨wd_523, wd_3, ⟨by decide, by decide⟩, by decide +kernel⟩
theorem si_Realm_chainOf : site0 y_Realm_chainOf prog_5_method_13_code 5 (some .int) 1 := ⟨wd_535, wd_3, ⟨by decide, by decide⟩, by decide +kernel⟩
theorem si_Realm_brokenByOne : site0 y_Realm_brokenByOne prog_5_method_8_code 4 (some .int) 1 := ⟨wd_545, wd_3, ⟨by decide, by decide⟩, by decide +kernel⟩
theorem si_Realm_roomOf : site0 y_Realm_roomOf prog_5_method_14_code 4 (some .int) 2 := ⟨wd_557, wd_3, ⟨by decide, by decide⟩, by decide +kernel⟩
theorem si_Realm_timeLeft : site0 y_Realm_timeLeft prog_5_method_15_code 2 (some .int) 1 := ⟨wd_561, wd_3, ⟨by decide, by decide⟩, by decide +kernel⟩
theorem si_Realm_ableAlone : site0 y_Realm_ableAlone prog_5_method_16_code 3 (some .int) 2 := ⟨wd_553, wd_3, ⟨by decide, by decide⟩, by decide +kernel⟩
theorem si_Realm_breakable : site0 y_Realm_breakable prog_5_method_18_code 4 (some .int) 1 := ⟨wd_549, wd_3, ⟨by decide, by decide⟩, by decide +kernel⟩
theorem si_Realm_hasBoth : site0 y_Realm_hasBoth prog_5_method_6_code 3 (some .boolean) 2 := ⟨wd_573, wd_3, ⟨by decide, by decide⟩, by decide +kernel⟩
theorem si_Q_bitOf : site0 y_Q_bitOf prog_1_method_43_code 2 (some .int) 2 := ⟨wd_590, wd_1, ⟨by decide, by decide⟩, by decide +kernel⟩
theorem si_Q_withBit : site0 y_Q_withBit prog_1_method_44_code 3 (some .int) 3 := ⟨wd_593, wd_1, ⟨by decide, by decide⟩, by decide +kernel⟩
theorem si_Integer_bitCount : site0 y_Integer_bitCount prog_11_method_49_code 1 (some .int) 1 := ⟨wd_617, wd_17, ⟨by decide, by decide⟩, by decide +kernel⟩
theorem si_Realm_mark : site0 y_Realm_mark prog_5_method_20_code 4 (some .int) 2 := ⟨wd_633, wd_3, ⟨by decide, by decide⟩, by decide +kernel⟩
theorem si_Realm_breakOnce : site0 y_Realm_breakOnce prog_5_method_19_code 4 (some .int) 2 := ⟨wd_628, wd_3, ⟨by decide, by decide⟩, by decide +kernel⟩
theorem si_Realm_lapsing : site0 y_Realm_lapsing prog_5_method_21_code 3 (some .int) 0 := ⟨wd_645, wd_3, ⟨by decide, by decide⟩, by decide +kernel⟩
theorem si_Realm_endYear : site0 y_Realm_endYear prog_5_method_22_code 2 (some .int) 0 := ⟨wd_641, wd_3, ⟨by decide, by decide⟩, by decide +kernel⟩
theorem si_Planner_leftToLast : site0 y_Planner_leftToLast prog_3_method_9_code 4 (some .int) 3 := ⟨wd_678, wd_5, ⟨by decide, by decide⟩, by decide +kernel⟩
theorem si_Planner_stateOf : site0 y_Planner_stateOf prog_3_method_10_code 3 (some .int) 3 := ⟨wd_681, wd_5, ⟨by decide, by decide⟩, by decide +kernel⟩
theorem si_Planner_search : site0 y_Planner_search prog_3_method_11_code 12 (some .int) 3 := ⟨wd_685, wd_5, ⟨by decide, by decide⟩, by decide +kernel⟩
theorem si_Planner_load : site0 y_Planner_load prog_3_method_2_code 4 none 1 := ⟨wd_664, wd_5, ⟨by decide, by decide⟩, by decide +kernel⟩
theorem si_Planner_leastHarm : site0 y_Planner_leastHarm prog_3_method_7_code 4 (some .int) 0 := ⟨wd_673, wd_5, ⟨by decide, by decide⟩, by decide +kernel⟩
theorem si_Planner_timesInFirst : site0 y_Planner_timesInFirst prog_3_method_8_code 6 (some .int) 2 := ⟨wd_691, wd_5, ⟨by decide, by decide⟩, by decide +kernel⟩
theorem si_Planner_needOfAll : site0 y_Planner_needOfAll prog_3_method_5_code 4 (some .int) 1 := ⟨wd_709, wd_5, ⟨by decide, by decide⟩, by decide +kernel⟩
theorem si_Planner_givenTo : site0 y_Planner_givenTo prog_3_method_6_code 6 (some .int) 1 := ⟨wd_714, wd_5, ⟨by decide, by decide⟩, by decide +kernel⟩
theorem si_Planner_grant : site0 y_Planner_grant prog_3_method_3_code 3 none 2 := ⟨wd_699, wd_5, ⟨by decide, by decide⟩, by decide +kernel⟩
theorem si_Planner_canMeet : site0 y_Planner_canMeet prog_3_method_4_code 3 (some .boolean) 1 := ⟨wd_704, wd_5, ⟨by decide, by decide⟩, by decide +kernel⟩
theorem si_Realm_ableWithout : site0 y_Realm_ableWithout prog_5_method_17_code 5 (some .int) 2 := ⟨wd_727, wd_3, ⟨by decide, by decide⟩, by decide +kernel⟩
theorem si_Realm_mostNeeded : site0 y_Realm_mostNeeded prog_5_method_25_code 6 (some .int) 1 := ⟨wd_739, wd_3, ⟨by decide, by decide⟩, by decide +kernel⟩
theorem si_Realm_eachForHimself : site0 y_Realm_eachForHimself prog_5_method_24_code 6 (some .int) 0 := ⟨wd_735, wd_3, ⟨by decide, by decide⟩, by decide +kernel⟩
theorem si_Realm_met : site0 y_Realm_met prog_5_method_23_code 3 (some .int) 0 := ⟨wd_744, wd_3, ⟨by decide, by decide⟩, by decide +kernel⟩
theorem si_Arrays_fillJ : site0 y_Arrays_fillJ prog_17_method_101_code 5 none 2 := ⟨wd_756, wd_10, ⟨by decide, by decide⟩, by decide +kernel⟩
theorem si_Odds_addTry : site0 y_Odds_addTry prog_2_method_3_code 3 none 1 := ⟨wd_761, wd_7, ⟨by decide, by decide⟩, by decide +kernel⟩
theorem si_Odds_reduce : site0 y_Odds_reduce prog_2_method_4_code 8 none 0 := ⟨wd_767, wd_7, ⟨by decide, by decide⟩, by decide +kernel⟩
theorem si_Odds_weigh : site0 y_Odds_weigh prog_2_method_2_code 6 none 2 := ⟨wd_753, wd_7, ⟨by decide, by decide⟩, by decide +kernel⟩
theorem si_Sightings_append : site0 y_Sightings_append prog_7_method_2_code 4 (some .boolean) 3 := ⟨wd_775, wd_4, ⟨by decide, by decide⟩, by decide +kernel⟩
theorem si_Sightings_sumDue : site0 y_Sightings_sumDue prog_7_method_3_code 5 (some .int) 2 := ⟨wd_792, wd_4, ⟨by decide, by decide⟩, by decide +kernel⟩
theorem si_Tables_stateOf : site0 y_Tables_stateOf prog_8_method_11_code 3 (some .int) 3 := ⟨wd_810, wd_6, ⟨by decide, by decide⟩, by decide +kernel⟩
theorem si_Tables_waysTo : site0 y_Tables_waysTo prog_8_method_8_code 13 (some .long) 4 := ⟨wd_818, wd_6, ⟨by decide, by decide⟩, by decide +kernel⟩
theorem si_Tables_isDueOf : site0 y_Tables_isDueOf prog_8_method_10_code 3 (some .boolean) 2 := ⟨wd_828, wd_6, ⟨by decide, by decide⟩, by decide +kernel⟩
theorem si_Tables_joinAll : site0 y_Tables_joinAll prog_8_method_6_code 4 none 0 := ⟨wd_807, wd_6, ⟨by decide, by decide⟩, by decide +kernel⟩
theorem si_Tables_spendAlone : site0 y_Tables_spendAlone prog_8_method_5_code 9 none 2 := ⟨wd_803, wd_6, ⟨by decide, by decide⟩, by decide +kernel⟩
theorem si_Tables_sumOfDue : site0 y_Tables_sumOfDue prog_8_method_9_code 6 (some .long) 0 := ⟨wd_824, wd_6, ⟨by decide, by decide⟩, by decide +kernel⟩
theorem si_Tables_spendTogether : site0 y_Tables_spendTogether prog_8_method_7_code 5 none 1 := ⟨wd_814, wd_6, ⟨by decide, by decide⟩, by decide +kernel⟩
theorem si_Tables_load : site0 y_Tables_load prog_8_method_2_code 6 none 1 := ⟨wd_787, wd_6, ⟨by decide, by decide⟩, by decide +kernel⟩
theorem si_Tables_fitting : site0 y_Tables_fitting prog_8_method_4_code 3 (some .long) 0 := ⟨wd_798, wd_6, ⟨by decide, by decide⟩, by decide +kernel⟩
theorem si_Tables_firstThatFits : site0 y_Tables_firstThatFits prog_8_method_3_code 8 (some .int) 3 := ⟨wd_836, wd_6, ⟨by decide, by decide⟩, by decide +kernel⟩
theorem si_Realm_nextSeed : site0 y_Realm_nextSeed prog_5_method_27_code 1 (some .int) 1 := ⟨wd_848, wd_3, ⟨by decide, by decide⟩, by decide +kernel⟩
theorem si_Realm_drawn : site0 y_Realm_drawn prog_5_method_28_code 1 (some .int) 1 := ⟨wd_852, wd_3, ⟨by decide, by decide⟩, by decide +kernel⟩
theorem si_Realm_breakBySeed : site0 y_Realm_breakBySeed prog_5_method_26_code 8 (some .int) 2 := ⟨wd_845, wd_3, ⟨by decide, by decide⟩, by decide +kernel⟩
theorem si_Sheet_renew : site0 y_Sheet_renew prog_6_method_2_code 3 none 2 := ⟨wd_869, wd_8, ⟨by decide, by decide⟩, by decide +kernel⟩
theorem si_Sheet_faultAt : site0 y_Sheet_faultAt prog_6_method_5_code 3 (some .int) 1 := ⟨wd_878, wd_8, ⟨by decide, by decide⟩, by decide +kernel⟩
theorem si_Sheet_put : site0 y_Sheet_put prog_6_method_3_code 3 none 2 := ⟨wd_882, wd_8, ⟨by decide, by decide⟩, by decide +kernel⟩
theorem si_Sheet_faultAs : site0 y_Sheet_faultAs prog_6_method_7_code 2 (some .int) 1 := ⟨wd_890, wd_8, ⟨by decide, by decide⟩, by decide +kernel⟩
theorem si_Sheet_faultOfPair : site0 y_Sheet_faultOfPair prog_6_method_6_code 4 (some .int) 1 := ⟨wd_894, wd_8, ⟨by decide, by decide⟩, by decide +kernel⟩
theorem si_Sheet_cellAt : site0 y_Sheet_cellAt prog_6_method_4_code 3 (some .int) 1 := ⟨wd_899, wd_8, ⟨by decide, by decide⟩, by decide +kernel⟩
theorem si_Realm_brokenInAll : site0 y_Realm_brokenInAll prog_5_method_9_code 3 (some .int) 0 := ⟨wd_911, wd_3, ⟨by decide, by decide⟩, by decide +kernel⟩
theorem si_Q_countKept : site0 y_Q_countKept prog_1_method_40_code 3 (some .int) 0 := ⟨wd_915, wd_1, ⟨by decide, by decide⟩, by decide +kernel⟩
theorem si_Realm_allPurses : site0 y_Realm_allPurses prog_5_method_12_code 3 (some .int) 0 := ⟨wd_919, wd_3, ⟨by decide, by decide⟩, by decide +kernel⟩
theorem si_Realm_allNeed : site0 y_Realm_allNeed prog_5_method_11_code 3 (some .int) 0 := ⟨wd_923, wd_3, ⟨by decide, by decide⟩, by decide +kernel⟩
theorem si_M_firstDraft : site0 y_M_firstDraft prog_10_method_5_code 2 none 0 := ⟨wd_933, wd_9, ⟨by decide, by decide⟩, by decide +kernel⟩
theorem si_M_keepDraft : site0 y_M_keepDraft prog_10_method_6_code 2 none 0 := ⟨wd_937, wd_9, ⟨by decide, by decide⟩, by decide +kernel⟩
theorem si_M_in : site0 y_M_in prog_10_method_3_code 6 (some .boolean) 3 := ⟨wd_1063, wd_9, ⟨by decide, by decide⟩, by decide +kernel⟩
theorem si_M_look : site0 y_M_look prog_10_method_10_code 2 (some .int) 1 := ⟨wd_1079, wd_9, ⟨by decide, by decide⟩, by decide +kernel⟩
theorem si_M_needs : site0 y_M_needs prog_10_method_9_code 3 none 2 := ⟨wd_1087, wd_9, ⟨by decide, by decide⟩, by decide +kernel⟩
theorem si_M_is : site0 y_M_is prog_10_method_11_code 5 (some .boolean) 4 := ⟨wd_1099, wd_9, ⟨by decide, by decide⟩, by decide +kernel⟩
theorem si_M_looked : site0 y_M_looked prog_10_method_14_code 3 (some .int) 2 := ⟨wd_1115, wd_9, ⟨by decide, by decide⟩, by decide +kernel⟩
theorem si_M_next : site0 y_M_next prog_10_method_13_code 2 none 0 := ⟨wd_1075, wd_9, ⟨by decide, by decide⟩, by decide +kernel⟩
theorem si_M_readNumber : site0 y_M_readNumber prog_10_method_15_code 4 (some .int) 2 := ⟨wd_1111, wd_9, ⟨by decide, by decide⟩, by decide +kernel⟩
theorem si_M_readLawOf : site0 y_M_readLawOf prog_10_method_16_code 3 (some .int) 1 := ⟨wd_1119, wd_9, ⟨by decide, by decide⟩, by decide +kernel⟩
theorem si_M_readLaw : site0 y_M_readLaw prog_10_method_17_code 4 none 0 := ⟨wd_1107, wd_9, ⟨by decide, by decide⟩, by decide +kernel⟩
theorem si_M_readOne : site0 y_M_readOne prog_10_method_18_code 2 none 0 := ⟨wd_1123, wd_9, ⟨by decide, by decide⟩, by decide +kernel⟩
theorem si_M_lineNow : site0 y_M_lineNow prog_10_method_12_code 1 (some .int) 0 := ⟨wd_1095, wd_9, ⟨by decide, by decide⟩, by decide +kernel⟩
theorem si_M_readLineOf : site0 y_M_readLineOf prog_10_method_19_code 3 none 1 := ⟨wd_1103, wd_9, ⟨by decide, by decide⟩, by decide +kernel⟩
theorem si_M_readLine : site0 y_M_readLine prog_10_method_20_code 2 none 0 := ⟨wd_1091, wd_9, ⟨by decide, by decide⟩, by decide +kernel⟩
theorem si_M_doesStand : site0 y_M_doesStand prog_10_method_26_code 2 (some .boolean) 1 := ⟨wd_1147, wd_9, ⟨by decide, by decide⟩, by decide +kernel⟩
theorem si_M_brokenBy : site0 y_M_brokenBy prog_10_method_27_code 3 (some .int) 2 := ⟨wd_1151, wd_9, ⟨by decide, by decide⟩, by decide +kernel⟩
theorem si_M_isLaw : site0 y_M_isLaw prog_10_method_23_code 2 (some .boolean) 1 := ⟨wd_1139, wd_9, ⟨by decide, by decide⟩, by decide +kernel⟩
theorem si_M_needOf : site0 y_M_needOf prog_10_method_29_code 4 (some .int) 1 := ⟨wd_1143, wd_9, ⟨by decide, by decide⟩, by decide +kernel⟩
theorem si_M_chainOf : site0 y_M_chainOf prog_10_method_30_code 4 (some .int) 1 := ⟨wd_1155, wd_9, ⟨by decide, by decide⟩, by decide +kernel⟩
theorem si_M_allBy : site0 y_M_allBy prog_10_method_28_code 4 (some .int) 1 := ⟨wd_1179, wd_9, ⟨by decide, by decide⟩, by decide +kernel⟩
theorem si_M_roomOf : site0 y_M_roomOf prog_10_method_31_code 5 (some .int) 2 := ⟨wd_1171, wd_9, ⟨by decide, by decide⟩, by decide +kernel⟩
theorem si_M_timeLeft : site0 y_M_timeLeft prog_10_method_32_code 3 (some .int) 1 := ⟨wd_1175, wd_9, ⟨by decide, by decide⟩, by decide +kernel⟩
theorem si_M_isOne : site0 y_M_isOne prog_10_method_24_code 2 (some .boolean) 1 := ⟨wd_1163, wd_9, ⟨by decide, by decide⟩, by decide +kernel⟩
theorem si_M_canBreak : site0 y_M_canBreak prog_10_method_33_code 3 (some .boolean) 2 := ⟨wd_1167, wd_9, ⟨by decide, by decide⟩, by decide +kernel⟩
theorem si_M_flag : site0 y_M_flag prog_10_method_4_code 1 (some .int) 1 := ⟨wd_1182, wd_9, ⟨by decide, by decide⟩, by decide +kernel⟩
theorem si_M_becomes : site0 y_M_becomes prog_10_method_39_code 4 (some .int) 2 := ⟨wd_1195, wd_9, ⟨by decide, by decide⟩, by decide +kernel⟩
theorem si_M_becomesBit : site0 y_M_becomesBit prog_10_method_40_code 5 (some .int) 3 := ⟨wd_1207, wd_9, ⟨by decide, by decide⟩, by decide +kernel⟩
theorem si_M_bitsOf : site0 y_M_bitsOf prog_10_method_25_code 3 (some .int) 1 := ⟨wd_1232, wd_9, ⟨by decide, by decide⟩, by decide +kernel⟩
theorem si_M_fallsNow : site0 y_M_fallsNow prog_10_method_34_code 3 (some .int) 0 := ⟨wd_1244, wd_9, ⟨by decide, by decide⟩, by decide +kernel⟩
theorem si_M_roomAt : site0 y_M_roomAt prog_10_method_54_code 3 (some .int) 2 := ⟨wd_1281, wd_9, ⟨by decide, by decide⟩, by decide +kernel⟩
theorem si_M_at : site0 y_M_at prog_10_method_53_code 4 (some .int) 4 := ⟨wd_1267, wd_9, ⟨by decide, by decide⟩, by decide +kernel⟩
theorem si_M_harmBy : site0 y_M_harmBy prog_10_method_55_code 10 (some .int) 7 := ⟨wd_1277, wd_9, ⟨by decide, by decide⟩, by decide +kernel⟩
theorem si_M_leastOf : site0 y_M_leastOf prog_10_method_56_code 10 (some .int) 4 := ⟨wd_1271, wd_9, ⟨by decide, by decide⟩, by decide +kernel⟩
theorem si_M_startsRota : site0 y_M_startsRota prog_10_method_58_code 3 none 1 := ⟨wd_1260, wd_9, ⟨by decide, by decide⟩, by decide +kernel⟩
theorem si_M_findRota : site0 y_M_findRota prog_10_method_57_code 5 (some .int) 0 := ⟨wd_1264, wd_9, ⟨by decide, by decide⟩, by decide +kernel⟩
theorem si_M_sharesOf : site0 y_M_sharesOf prog_10_method_59_code 10 none 4 := ⟨wd_1285, wd_9, ⟨by decide, by decide⟩, by decide +kernel⟩
theorem si_M_triesOf : site0 y_M_triesOf prog_10_method_63_code 4 (some .int) 2 := ⟨wd_1301, wd_9, ⟨by decide, by decide⟩, by decide +kernel⟩
theorem si_M_saves : site0 y_M_saves prog_10_method_65_code 2 none 0 := ⟨wd_1310, wd_9, ⟨by decide, by decide⟩, by decide +kernel⟩
theorem si_M_wantedBy : site0 y_M_wantedBy prog_10_method_67_code 5 (some .int) 1 := ⟨wd_1314, wd_9, ⟨by decide, by decide⟩, by decide +kernel⟩
theorem si_M_returns : site0 y_M_returns prog_10_method_66_code 2 none 0 := ⟨wd_1318, wd_9, ⟨by decide, by decide⟩, by decide +kernel⟩
theorem si_M_common : site0 y_M_common prog_10_method_69_code 10 (some .long) 2 := ⟨wd_1327, wd_9, ⟨by decide, by decide⟩, by decide +kernel⟩
theorem si_M_mostOf : site0 y_M_mostOf prog_10_method_74_code 3 (some .int) 2 := ⟨wd_1352, wd_9, ⟨by decide, by decide⟩, by decide +kernel⟩
theorem si_M_isSo : site0 y_M_isSo prog_10_method_73_code 7 (some .boolean) 3 := ⟨wd_1356, wd_9, ⟨by decide, by decide⟩, by decide +kernel⟩
theorem si_M_isAsked : site0 y_M_isAsked prog_10_method_75_code 7 (some .boolean) 6 := ⟨wd_1360, wd_9, ⟨by decide, by decide⟩, by decide +kernel⟩
theorem si_M_addsTables : site0 y_M_addsTables prog_10_method_77_code 8 none 3 := ⟨wd_1364, wd_9, ⟨by decide, by decide⟩, by decide +kernel⟩
theorem si_M_addsLaw : site0 y_M_addsLaw prog_10_method_76_code 9 none 4 := ⟨wd_1348, wd_9, ⟨by decide, by decide⟩, by decide +kernel⟩
theorem si_M_isTime : site0 y_M_isTime prog_10_method_78_code 3 (some .boolean) 2 := ⟨wd_1368, wd_9, ⟨by decide, by decide⟩, by decide +kernel⟩
theorem si_M_tablesBy : site0 y_M_tablesBy prog_10_method_79_code 7 (some .long) 3 := ⟨wd_1344, wd_9, ⟨by decide, by decide⟩, by decide +kernel⟩
theorem si_M_breaks : site0 y_M_breaks prog_10_method_49_code 5 (some .int) 2 := ⟨wd_1236, wd_9, ⟨by decide, by decide⟩, by decide +kernel⟩
theorem si_M_copies : site0 y_M_copies prog_10_method_83_code 4 none 2 := ⟨wd_1387, wd_9, ⟨by decide, by decide⟩, by decide +kernel⟩
theorem si_M_isSheet : site0 y_M_isSheet prog_10_method_86_code 2 (some .boolean) 2 := ⟨wd_1398, wd_9, ⟨by decide, by decide⟩, by decide +kernel⟩
theorem si_Q_new : site0 y_Q_new prog_1_method_1_code 2 none 0 := ⟨wd_22, wd_1, ⟨by decide, by decide⟩, by decide +kernel⟩
theorem si_M_new : site0 y_M_new prog_10_method_1_code 2 none 0 := ⟨wd_928, wd_9, ⟨by decide, by decide⟩, by decide +kernel⟩
theorem si_Q_feed : site0 y_Q_feed prog_1_method_2_code 2 (some .int) 1 := ⟨wd_330, wd_1, ⟨by decide, by decide⟩, by decide +kernel⟩
theorem si_M_feed : site0 y_M_feed prog_10_method_7_code 2 (some .int) 1 := ⟨wd_1059, wd_9, ⟨by decide, by decide⟩, by decide +kernel⟩
theorem si_Q_end : site0 y_Q_end prog_1_method_3_code 3 (some .int) 1 := ⟨wd_341, wd_1, ⟨by decide, by decide⟩, by decide +kernel⟩
theorem si_M_end : site0 y_M_end prog_10_method_8_code 3 (some .int) 1 := ⟨wd_1067, wd_9, ⟨by decide, by decide⟩, by decide +kernel⟩
theorem si_Q_text : site0 y_Q_text prog_1_method_4_code 3 (some .int) 0 := ⟨wd_345, wd_1, ⟨by decide, by decide⟩, by decide +kernel⟩
theorem si_M_text : site0 y_M_text prog_10_method_21_code 2 (some .int) 0 := ⟨wd_1071, wd_9, ⟨by decide, by decide⟩, by decide +kernel⟩
theorem si_Q_fault : site0 y_Q_fault prog_1_method_5_code 1 (some .int) 0 := ⟨wd_510, wd_1, ⟨by decide, by decide⟩, by decide +kernel⟩
theorem si_M_fault : site0 y_M_fault prog_10_method_22_code 1 (some .int) 0 := ⟨wd_1127, wd_9, ⟨by decide, by decide⟩, by decide +kernel⟩
theorem si_Q_rule : site0 y_Q_rule prog_1_method_6_code 2 (some .int) 1 := ⟨wd_514, wd_1, ⟨by decide, by decide⟩, by decide +kernel⟩
theorem si_M_rule : site0 y_M_rule prog_10_method_35_code 2 (some .int) 1 := ⟨wd_1131, wd_9, ⟨by decide, by decide⟩, by decide +kernel⟩
theorem si_Q_law : site0 y_Q_law prog_1_method_7_code 3 (some .int) 2 := ⟨wd_518, wd_1, ⟨by decide, by decide⟩, by decide +kernel⟩
theorem si_M_law : site0 y_M_law prog_10_method_36_code 3 (some .int) 2 := ⟨wd_1135, wd_9, ⟨by decide, by decide⟩, by decide +kernel⟩
theorem si_Q_one : site0 y_Q_one prog_1_method_8_code 3 (some .int) 2 := ⟨wd_540, wd_1, ⟨by decide, by decide⟩, by decide +kernel⟩
theorem si_M_one : site0 y_M_one prog_10_method_37_code 5 (some .int) 2 := ⟨wd_1159, wd_9, ⟨by decide, by decide⟩, by decide +kernel⟩
theorem si_Q_broken : site0 y_Q_broken prog_1_method_9_code 3 (some .int) 2 := ⟨wd_569, wd_1, ⟨by decide, by decide⟩, by decide +kernel⟩
theorem si_M_broken : site0 y_M_broken prog_10_method_38_code 3 (some .int) 2 := ⟨wd_1186, wd_9, ⟨by decide, by decide⟩, by decide +kernel⟩
theorem si_Q_quota : site0 y_Q_quota prog_1_method_10_code 4 (some .int) 2 := ⟨wd_579, wd_1, ⟨by decide, by decide⟩, by decide +kernel⟩
theorem si_M_quota : site0 y_M_quota prog_10_method_41_code 3 (some .int) 2 := ⟨wd_1190, wd_9, ⟨by decide, by decide⟩, by decide +kernel⟩
theorem si_Q_carry : site0 y_Q_carry prog_1_method_11_code 4 (some .int) 2 := ⟨wd_583, wd_1, ⟨by decide, by decide⟩, by decide +kernel⟩
theorem si_M_carry : site0 y_M_carry prog_10_method_42_code 3 (some .int) 2 := ⟨wd_1199, wd_9, ⟨by decide, by decide⟩, by decide +kernel⟩
theorem si_Q_time : site0 y_Q_time prog_1_method_13_code 4 (some .int) 2 := ⟨wd_597, wd_1, ⟨by decide, by decide⟩, by decide +kernel⟩
theorem si_M_time : site0 y_M_time prog_10_method_44_code 3 (some .int) 2 := ⟨wd_1211, wd_9, ⟨by decide, by decide⟩, by decide +kernel⟩
theorem si_Q_fund : site0 y_Q_fund prog_1_method_16_code 4 (some .int) 2 := ⟨wd_609, wd_1, ⟨by decide, by decide⟩, by decide +kernel⟩
theorem si_M_fund : site0 y_M_fund prog_10_method_47_code 3 (some .int) 2 := ⟨wd_1224, wd_9, ⟨by decide, by decide⟩, by decide +kernel⟩
theorem si_Q_revive : site0 y_Q_revive prog_1_method_17_code 2 (some .int) 1 := ⟨wd_613, wd_1, ⟨by decide, by decide⟩, by decide +kernel⟩
theorem si_M_revive : site0 y_M_revive prog_10_method_48_code 2 (some .int) 1 := ⟨wd_1229, wd_9, ⟨by decide, by decide⟩, by decide +kernel⟩
theorem si_Q_breaks : site0 y_Q_breaks prog_1_method_18_code 3 (some .int) 2 := ⟨wd_624, wd_1, ⟨by decide, by decide⟩, by decide +kernel⟩
theorem si_Q_year : site0 y_Q_year prog_1_method_19_code 1 (some .int) 0 := ⟨wd_637, wd_1, ⟨by decide, by decide⟩, by decide +kernel⟩
theorem si_M_year : site0 y_M_year prog_10_method_50_code 3 (some .int) 0 := ⟨wd_1240, wd_9, ⟨by decide, by decide⟩, by decide +kernel⟩
theorem si_Q_falls : site0 y_Q_falls prog_1_method_20_code 1 (some .int) 0 := ⟨wd_651, wd_1, ⟨by decide, by decide⟩, by decide +kernel⟩
theorem si_M_falls : site0 y_M_falls prog_10_method_51_code 1 (some .int) 0 := ⟨wd_1248, wd_9, ⟨by decide, by decide⟩, by decide +kernel⟩
theorem si_Q_most : site0 y_Q_most prog_1_method_21_code 6 (some .int) 1 := ⟨wd_656, wd_1, ⟨by decide, by decide⟩, by decide +kernel⟩
theorem si_M_most : site0 y_M_most prog_10_method_52_code 6 (some .int) 1 := ⟨wd_1252, wd_9, ⟨by decide, by decide⟩, by decide +kernel⟩
theorem si_Q_rota : site0 y_Q_rota prog_1_method_22_code 5 (some .int) 1 := ⟨wd_660, wd_1, ⟨by decide, by decide⟩, by decide +kernel⟩
theorem si_M_rota : site0 y_M_rota prog_10_method_60_code 7 (some .int) 1 := ⟨wd_1256, wd_9, ⟨by decide, by decide⟩, by decide +kernel⟩
theorem si_Q_more : site0 y_Q_more prog_1_method_23_code 3 (some .int) 1 := ⟨wd_695, wd_1, ⟨by decide, by decide⟩, by decide +kernel⟩
theorem si_M_more : site0 y_M_more prog_10_method_61_code 5 (some .int) 1 := ⟨wd_1289, wd_9, ⟨by decide, by decide⟩, by decide +kernel⟩
theorem si_Q_together : site0 y_Q_together prog_1_method_24_code 5 (some .int) 1 := ⟨wd_718, wd_1, ⟨by decide, by decide⟩, by decide +kernel⟩
theorem si_M_together : site0 y_M_together prog_10_method_62_code 6 (some .int) 1 := ⟨wd_1293, wd_9, ⟨by decide, by decide⟩, by decide +kernel⟩
theorem si_Q_kill : site0 y_Q_kill prog_1_method_25_code 6 (some .int) 2 := ⟨wd_723, wd_1, ⟨by decide, by decide⟩, by decide +kernel⟩
theorem si_M_kill : site0 y_M_kill prog_10_method_64_code 8 (some .int) 2 := ⟨wd_1297, wd_9, ⟨by decide, by decide⟩, by decide +kernel⟩
theorem si_Q_selfish : site0 y_Q_selfish prog_1_method_26_code 3 (some .int) 1 := ⟨wd_731, wd_1, ⟨by decide, by decide⟩, by decide +kernel⟩
theorem si_M_selfish : site0 y_M_selfish prog_10_method_68_code 7 (some .int) 1 := ⟨wd_1305, wd_9, ⟨by decide, by decide⟩, by decide +kernel⟩
theorem si_Q_luck : site0 y_Q_luck prog_1_method_27_code 3 (some .long) 2 := ⟨wd_748, wd_1, ⟨by decide, by decide⟩, by decide +kernel⟩
theorem si_M_luck : site0 y_M_luck prog_10_method_70_code 10 (some .long) 2 := ⟨wd_1322, wd_9, ⟨by decide, by decide⟩, by decide +kernel⟩
theorem si_Q_see : site0 y_Q_see prog_1_method_28_code 5 (some .int) 3 := ⟨wd_771, wd_1, ⟨by decide, by decide⟩, by decide +kernel⟩
theorem si_M_see : site0 y_M_see prog_10_method_71_code 6 (some .int) 3 := ⟨wd_1331, wd_9, ⟨by decide, by decide⟩, by decide +kernel⟩
theorem si_Q_forget : site0 y_Q_forget prog_1_method_29_code 3 (some .int) 1 := ⟨wd_779, wd_1, ⟨by decide, by decide⟩, by decide +kernel⟩
theorem si_M_forget : site0 y_M_forget prog_10_method_72_code 2 (some .int) 1 := ⟨wd_1336, wd_9, ⟨by decide, by decide⟩, by decide +kernel⟩
theorem si_Q_books : site0 y_Q_books prog_1_method_30_code 1 (some .long) 0 := ⟨wd_783, wd_1, ⟨by decide, by decide⟩, by decide +kernel⟩
theorem si_M_books : site0 y_M_books prog_10_method_80_code 1 (some .long) 0 := ⟨wd_1340, wd_9, ⟨by decide, by decide⟩, by decide +kernel⟩
theorem si_Q_entry : site0 y_Q_entry prog_1_method_31_code 4 (some .int) 3 := ⟨wd_832, wd_1, ⟨by decide, by decide⟩, by decide +kernel⟩
theorem si_M_entry : site0 y_M_entry prog_10_method_81_code 8 (some .int) 3 := ⟨wd_1372, wd_9, ⟨by decide, by decide⟩, by decide +kernel⟩
theorem si_Q_wild : site0 y_Q_wild prog_1_method_32_code 5 (some .int) 3 := ⟨wd_841, wd_1, ⟨by decide, by decide⟩, by decide +kernel⟩
theorem si_M_wild : site0 y_M_wild prog_10_method_82_code 8 (some .int) 3 := ⟨wd_1376, wd_9, ⟨by decide, by decide⟩, by decide +kernel⟩
theorem si_Q_keep : site0 y_Q_keep prog_1_method_33_code 3 (some .int) 1 := ⟨wd_857, wd_1, ⟨by decide, by decide⟩, by decide +kernel⟩
theorem si_M_keep : site0 y_M_keep prog_10_method_84_code 3 (some .int) 1 := ⟨wd_1383, wd_9, ⟨by decide, by decide⟩, by decide +kernel⟩
theorem si_Q_back : site0 y_Q_back prog_1_method_34_code 2 (some .int) 1 := ⟨wd_861, wd_1, ⟨by decide, by decide⟩, by decide +kernel⟩
theorem si_M_back : site0 y_M_back prog_10_method_85_code 2 (some .int) 1 := ⟨wd_1391, wd_9, ⟨by decide, by decide⟩, by decide +kernel⟩
theorem si_Q_sheet : site0 y_Q_sheet prog_1_method_35_code 4 (some .int) 3 := ⟨wd_865, wd_1, ⟨by decide, by decide⟩, by decide +kernel⟩
theorem si_M_sheet : site0 y_M_sheet prog_10_method_87_code 5 (some .int) 3 := ⟨wd_1395, wd_9, ⟨by decide, by decide⟩, by decide +kernel⟩
theorem si_Q_lay : site0 y_Q_lay prog_1_method_36_code 5 (some .int) 3 := ⟨wd_874, wd_1, ⟨by decide, by decide⟩, by decide +kernel⟩
theorem si_M_lay : site0 y_M_lay prog_10_method_88_code 4 (some .int) 3 := ⟨wd_1402, wd_9, ⟨by decide, by decide⟩, by decide +kernel⟩
theorem si_Q_read : site0 y_Q_read prog_1_method_37_code 11 (some .int) 4 := ⟨wd_886, wd_1, ⟨by decide, by decide⟩, by decide +kernel⟩
theorem si_M_read : site0 y_M_read prog_10_method_89_code 11 (some .int) 4 := ⟨wd_1406, wd_9, ⟨by decide, by decide⟩, by decide +kernel⟩
theorem si_Q_torn : site0 y_Q_torn prog_1_method_38_code 1 (some .int) 0 := ⟨wd_903, wd_1, ⟨by decide, by decide⟩, by decide +kernel⟩
theorem si_M_torn : site0 y_M_torn prog_10_method_90_code 1 (some .int) 0 := ⟨wd_1410, wd_9, ⟨by decide, by decide⟩, by decide +kernel⟩
theorem si_Q_count : site0 y_Q_count prog_1_method_39_code 2 (some .int) 1 := ⟨wd_907, wd_1, ⟨by decide, by decide⟩, by decide +kernel⟩
theorem si_M_count : site0 y_M_count prog_10_method_91_code 6 (some .int) 1 := ⟨wd_1414, wd_9, ⟨by decide, by decide⟩, by decide +kernel⟩
theorem si_Q_want : site0 y_Q_want prog_1_method_15_code 5 (some .int) 3 := ⟨wd_605, wd_1, ⟨by decide, by decide⟩, by decide +kernel⟩
theorem si_M_want : site0 y_M_want prog_10_method_46_code 4 (some .int) 3 := ⟨wd_1220, wd_9, ⟨by decide, by decide⟩, by decide +kernel⟩
theorem si_Q_refuse : site0 y_Q_refuse prog_1_method_14_code 5 (some .int) 3 := ⟨wd_601, wd_1, ⟨by decide, by decide⟩, by decide +kernel⟩
theorem si_M_refuse : site0 y_M_refuse prog_10_method_45_code 4 (some .int) 3 := ⟨wd_1216, wd_9, ⟨by decide, by decide⟩, by decide +kernel⟩
theorem si_Q_watch : site0 y_Q_watch prog_1_method_12_code 4 (some .int) 2 := ⟨wd_587, wd_1, ⟨by decide, by decide⟩, by decide +kernel⟩
theorem si_M_watch : site0 y_M_watch prog_10_method_43_code 3 (some .int) 2 := ⟨wd_1203, wd_9, ⟨by decide, by decide⟩, by decide +kernel⟩
theorem si_String_coder : site0 y_String_coder prog_13_method_152_code 1 (some .byte) 0 := ⟨wd_393, wd_11, ⟨by decide, by decide⟩, by decide +kernel⟩
theorem si_String_isLatin1 : site0 y_String_isLatin1 prog_13_method_154_code 1 (some .boolean) 0 := ⟨wd_403, wd_11, ⟨by decide, by decide⟩, by decide +kernel⟩
theorem si_String_checkIndex : site0 y_String_checkIndex prog_13_method_155_code 2 none 2 := ⟨wd_409, wd_11, ⟨by decide, by decide⟩, by decide +kernel⟩
theorem si_StringLatin1_charAt : site0 y_StringLatin1_charAt prog_14_method_2_code 2 (some .char) 2 := ⟨wd_406, wd_12, ⟨by decide, by decide⟩, by decide +kernel⟩
theorem si_Preconditions_checkIndex : site0 y_Preconditions_checkIndex prog_18_method_11_code 3 (some .int) 3 := ⟨wd_414, wd_13, ⟨by decide, by decide⟩, by decide +kernel⟩
