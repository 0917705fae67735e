/-! names of the methods, and the words that their calls and fields need: printed by wip/gen/gen_all.py -/
def y_Q_new : MethodName := ⟨"QuotaLaws", "<init>", "()V"⟩
def y_Reader_new : MethodName := ⟨"QuotaLaws$Reader", "<init>", "()V"⟩
def y_Realm_new : MethodName := ⟨"QuotaLaws$Realm", "<init>", "()V"⟩
def y_Sightings_new : MethodName := ⟨"QuotaLaws$Sightings", "<init>", "()V"⟩
def y_Planner_new : MethodName := ⟨"QuotaLaws$Planner", "<init>", "()V"⟩
def y_Tables_new : MethodName := ⟨"QuotaLaws$Tables", "<init>", "()V"⟩
def y_Odds_new : MethodName := ⟨"QuotaLaws$Odds", "<init>", "()V"⟩
def y_Sheet_new : MethodName := ⟨"QuotaLaws$Sheet", "<init>", "()V"⟩
def y_Q_feed : MethodName := ⟨"QuotaLaws", "feed", "(I)I"⟩
def y_Q_isWithin : MethodName := ⟨"QuotaLaws", "isWithin", "(III)Z"⟩
def y_Reader_append : MethodName := ⟨"QuotaLaws$Reader", "append", "(I)Z"⟩
def y_Q_end : MethodName := ⟨"QuotaLaws", "end", "(I)I"⟩
def y_Q_text : MethodName := ⟨"QuotaLaws", "text", "()I"⟩
def y_Reader_readInto : MethodName := ⟨"QuotaLaws$Reader", "readInto", "(LQuotaLaws$Realm;)Z"⟩
def y_Realm_empty : MethodName := ⟨"QuotaLaws$Realm", "empty", "()V"⟩
def y_Arrays_fillI : MethodName := ⟨"java/util/Arrays", "fill", "([II)V"⟩
def y_Reader_takeToken : MethodName := ⟨"QuotaLaws$Reader", "takeToken", "()Z"⟩
def y_Reader_passRun : MethodName := ⟨"QuotaLaws$Reader", "passRun", "(II)V"⟩
def y_Reader_kindHere : MethodName := ⟨"QuotaLaws$Reader", "kindHere", "()I"⟩
def y_Reader_valueOfRun : MethodName := ⟨"QuotaLaws$Reader", "valueOfRun", "()I"⟩
def y_Reader_fail : MethodName := ⟨"QuotaLaws$Reader", "fail", "(II)Z"⟩
def y_Reader_takeLine : MethodName := ⟨"QuotaLaws$Reader", "takeLine", "(LQuotaLaws$Realm;)Z"⟩
def y_Reader_isWord : MethodName := ⟨"QuotaLaws$Reader", "isWord", "(Ljava/lang/String;)Z"⟩
def y_String_length : MethodName := ⟨"java/lang/String", "length", "()I"⟩
def y_String_coder : MethodName := ⟨"java/lang/String", "coder", "()B"⟩
def y_String_charAt : MethodName := ⟨"java/lang/String", "charAt", "(I)C"⟩
def y_String_isLatin1 : MethodName := ⟨"java/lang/String", "isLatin1", "()Z"⟩
def y_StringLatin1_charAt : MethodName := ⟨"java/lang/StringLatin1", "charAt", "([BI)C"⟩
def y_String_checkIndex : MethodName := ⟨"java/lang/String", "checkIndex", "(II)V"⟩
def y_Preconditions_checkIndex : MethodName := ⟨"jdk/internal/util/Preconditions", "checkIndex", "(IILjava/util/function/BiFunction;)I"⟩
def y_StringUTF16_charAt : MethodName := ⟨"java/lang/StringUTF16", "charAt", "([BI)C"⟩
def y_StringUTF16_checkIndex : MethodName := ⟨"java/lang/StringUTF16", "checkIndex", "(I[B)V"⟩
def y_StringUTF16_length : MethodName := ⟨"java/lang/StringUTF16", "length", "([B)I"⟩
def y_StringUTF16_getChar : MethodName := ⟨"java/lang/StringUTF16", "getChar", "([BI)C"⟩
def y_Reader_takeLaw : MethodName := ⟨"QuotaLaws$Reader", "takeLaw", "(LQuotaLaws$Realm;I)Z"⟩
def y_Reader_takeNumber : MethodName := ⟨"QuotaLaws$Reader", "takeNumber", "(II)Z"⟩
def y_Reader_isBounded : MethodName := ⟨"QuotaLaws$Reader", "isBounded", "(II)Z"⟩
def y_Reader_putInto : MethodName := ⟨"QuotaLaws$Reader", "putInto", "([II)Z"⟩
def y_Reader_takeCarried : MethodName := ⟨"QuotaLaws$Reader", "takeCarried", "(LQuotaLaws$Realm;I)Z"⟩
def y_Reader_isStop : MethodName := ⟨"QuotaLaws$Reader", "isStop", "()Z"⟩
def y_Reader_takeOne : MethodName := ⟨"QuotaLaws$Reader", "takeOne", "(LQuotaLaws$Realm;I)Z"⟩
def y_Reader_addLaw : MethodName := ⟨"QuotaLaws$Reader", "addLaw", "([II)Z"⟩
def y_Q_hasBit : MethodName := ⟨"QuotaLaws", "hasBit", "(II)Z"⟩
def y_Reader_takeWant : MethodName := ⟨"QuotaLaws$Reader", "takeWant", "(LQuotaLaws$Realm;)Z"⟩
def y_Reader_takeWatch : MethodName := ⟨"QuotaLaws$Reader", "takeWatch", "(LQuotaLaws$Realm;)Z"⟩
def y_Reader_allThere : MethodName := ⟨"QuotaLaws$Reader", "allThere", "(LQuotaLaws$Realm;)Z"⟩
def y_Q_isPart : MethodName := ⟨"QuotaLaws", "isPart", "(II)Z"⟩
def y_Realm_hasLaw : MethodName := ⟨"QuotaLaws$Realm", "hasLaw", "(I)Z"⟩
def y_Realm_hasOne : MethodName := ⟨"QuotaLaws$Realm", "hasOne", "(I)Z"⟩
def y_Realm_copyFrom : MethodName := ⟨"QuotaLaws$Realm", "copyFrom", "(LQuotaLaws$Realm;)V"⟩
def y_Sightings_copyFrom : MethodName := ⟨"QuotaLaws$Sightings", "copyFrom", "(LQuotaLaws$Sightings;)V"⟩
def y_Q_fault : MethodName := ⟨"QuotaLaws", "fault", "()I"⟩
def y_Q_rule : MethodName := ⟨"QuotaLaws", "rule", "(I)I"⟩
def y_Q_law : MethodName := ⟨"QuotaLaws", "law", "(II)I"⟩
def y_Realm_needOf : MethodName := ⟨"QuotaLaws$Realm", "needOf", "(I)I"⟩
def y_Realm_brokenBy : MethodName := ⟨"QuotaLaws$Realm", "brokenBy", "(II)I"⟩
def y_Realm_chainOf : MethodName := ⟨"QuotaLaws$Realm", "chainOf", "(I)I"⟩
def y_Q_one : MethodName := ⟨"QuotaLaws", "one", "(II)I"⟩
def y_Realm_brokenByOne : MethodName := ⟨"QuotaLaws$Realm", "brokenByOne", "(I)I"⟩
def y_Realm_breakable : MethodName := ⟨"QuotaLaws$Realm", "breakable", "(I)I"⟩
def y_Realm_ableAlone : MethodName := ⟨"QuotaLaws$Realm", "ableAlone", "(II)I"⟩
def y_Realm_roomOf : MethodName := ⟨"QuotaLaws$Realm", "roomOf", "(II)I"⟩
def y_Realm_timeLeft : MethodName := ⟨"QuotaLaws$Realm", "timeLeft", "(I)I"⟩
def y_Q_broken : MethodName := ⟨"QuotaLaws", "broken", "(II)I"⟩
def y_Realm_hasBoth : MethodName := ⟨"QuotaLaws$Realm", "hasBoth", "(II)Z"⟩
def y_Q_quota : MethodName := ⟨"QuotaLaws", "quota", "(II)I"⟩
def y_Q_carry : MethodName := ⟨"QuotaLaws", "carry", "(II)I"⟩
def y_Q_watch : MethodName := ⟨"QuotaLaws", "watch", "(IZ)I"⟩
def y_Q_bitOf : MethodName := ⟨"QuotaLaws", "bitOf", "(II)I"⟩
def y_Q_withBit : MethodName := ⟨"QuotaLaws", "withBit", "(IIZ)I"⟩
def y_Q_time : MethodName := ⟨"QuotaLaws", "time", "(II)I"⟩
def y_Q_refuse : MethodName := ⟨"QuotaLaws", "refuse", "(IIZ)I"⟩
def y_Q_want : MethodName := ⟨"QuotaLaws", "want", "(IIZ)I"⟩
def y_Q_fund : MethodName := ⟨"QuotaLaws", "fund", "(II)I"⟩
def y_Q_revive : MethodName := ⟨"QuotaLaws", "revive", "(I)I"⟩
def y_Integer_bitCount : MethodName := ⟨"java/lang/Integer", "bitCount", "(I)I"⟩
def y_Q_breaks : MethodName := ⟨"QuotaLaws", "breaks", "(II)I"⟩
def y_Realm_breakOnce : MethodName := ⟨"QuotaLaws$Realm", "breakOnce", "(II)I"⟩
def y_Realm_mark : MethodName := ⟨"QuotaLaws$Realm", "mark", "(II)I"⟩
def y_Q_year : MethodName := ⟨"QuotaLaws", "year", "()I"⟩
def y_Realm_endYear : MethodName := ⟨"QuotaLaws$Realm", "endYear", "()I"⟩
def y_Realm_lapsing : MethodName := ⟨"QuotaLaws$Realm", "lapsing", "()I"⟩
def y_Q_falls : MethodName := ⟨"QuotaLaws", "falls", "()I"⟩
def y_Q_most : MethodName := ⟨"QuotaLaws", "most", "(I)I"⟩
def y_Q_rota : MethodName := ⟨"QuotaLaws", "rota", "(I)I"⟩
def y_Planner_load : MethodName := ⟨"QuotaLaws$Planner", "load", "(LQuotaLaws$Realm;)V"⟩
def y_Planner_leastHarm : MethodName := ⟨"QuotaLaws$Planner", "leastHarm", "()I"⟩
def y_Planner_leftToLast : MethodName := ⟨"QuotaLaws$Planner", "leftToLast", "(III)I"⟩
def y_Planner_stateOf : MethodName := ⟨"QuotaLaws$Planner", "stateOf", "(III)I"⟩
def y_Planner_search : MethodName := ⟨"QuotaLaws$Planner", "search", "(III)I"⟩
def y_Planner_timesInFirst : MethodName := ⟨"QuotaLaws$Planner", "timesInFirst", "(II)I"⟩
def y_Q_more : MethodName := ⟨"QuotaLaws", "more", "(I)I"⟩
def y_Planner_grant : MethodName := ⟨"QuotaLaws$Planner", "grant", "(II)V"⟩
def y_Planner_canMeet : MethodName := ⟨"QuotaLaws$Planner", "canMeet", "(I)Z"⟩
def y_Planner_needOfAll : MethodName := ⟨"QuotaLaws$Planner", "needOfAll", "(I)I"⟩
def y_Planner_givenTo : MethodName := ⟨"QuotaLaws$Planner", "givenTo", "(I)I"⟩
def y_Q_together : MethodName := ⟨"QuotaLaws", "together", "(I)I"⟩
def y_Q_kill : MethodName := ⟨"QuotaLaws", "kill", "(II)I"⟩
def y_Realm_ableWithout : MethodName := ⟨"QuotaLaws$Realm", "ableWithout", "(II)I"⟩
def y_Q_selfish : MethodName := ⟨"QuotaLaws", "selfish", "(I)I"⟩
def y_Realm_eachForHimself : MethodName := ⟨"QuotaLaws$Realm", "eachForHimself", "()I"⟩
def y_Realm_mostNeeded : MethodName := ⟨"QuotaLaws$Realm", "mostNeeded", "(I)I"⟩
def y_Realm_met : MethodName := ⟨"QuotaLaws$Realm", "met", "()I"⟩
def y_Q_luck : MethodName := ⟨"QuotaLaws", "luck", "(II)J"⟩
def y_Odds_weigh : MethodName := ⟨"QuotaLaws$Odds", "weigh", "(LQuotaLaws$Realm;I)V"⟩
def y_Arrays_fillJ : MethodName := ⟨"java/util/Arrays", "fill", "([JJ)V"⟩
def y_Odds_addTry : MethodName := ⟨"QuotaLaws$Odds", "addTry", "(I)V"⟩
def y_Odds_reduce : MethodName := ⟨"QuotaLaws$Odds", "reduce", "()V"⟩
def y_Q_see : MethodName := ⟨"QuotaLaws", "see", "(III)I"⟩
def y_Sightings_append : MethodName := ⟨"QuotaLaws$Sightings", "append", "(III)Z"⟩
def y_Q_forget : MethodName := ⟨"QuotaLaws", "forget", "(I)I"⟩
def y_Q_books : MethodName := ⟨"QuotaLaws", "books", "()J"⟩
def y_Tables_load : MethodName := ⟨"QuotaLaws$Tables", "load", "(LQuotaLaws$Realm;)V"⟩
def y_Sightings_sumDue : MethodName := ⟨"QuotaLaws$Sightings", "sumDue", "(II)I"⟩
def y_Tables_fitting : MethodName := ⟨"QuotaLaws$Tables", "fitting", "()J"⟩
def y_Tables_spendAlone : MethodName := ⟨"QuotaLaws$Tables", "spendAlone", "(II)V"⟩
def y_Tables_joinAll : MethodName := ⟨"QuotaLaws$Tables", "joinAll", "()V"⟩
def y_Tables_stateOf : MethodName := ⟨"QuotaLaws$Tables", "stateOf", "(III)I"⟩
def y_Tables_spendTogether : MethodName := ⟨"QuotaLaws$Tables", "spendTogether", "(I)V"⟩
def y_Tables_waysTo : MethodName := ⟨"QuotaLaws$Tables", "waysTo", "(IIII)J"⟩
def y_Tables_sumOfDue : MethodName := ⟨"QuotaLaws$Tables", "sumOfDue", "()J"⟩
def y_Tables_isDueOf : MethodName := ⟨"QuotaLaws$Tables", "isDueOf", "(II)Z"⟩
def y_Q_entry : MethodName := ⟨"QuotaLaws", "entry", "(III)I"⟩
def y_Tables_firstThatFits : MethodName := ⟨"QuotaLaws$Tables", "firstThatFits", "(IIZ)I"⟩
def y_Q_wild : MethodName := ⟨"QuotaLaws", "wild", "(III)I"⟩
def y_Realm_breakBySeed : MethodName := ⟨"QuotaLaws$Realm", "breakBySeed", "(II)I"⟩
def y_Realm_nextSeed : MethodName := ⟨"QuotaLaws$Realm", "nextSeed", "(I)I"⟩
def y_Realm_drawn : MethodName := ⟨"QuotaLaws$Realm", "drawn", "(I)I"⟩
def y_Q_keep : MethodName := ⟨"QuotaLaws", "keep", "(I)I"⟩
def y_Q_back : MethodName := ⟨"QuotaLaws", "back", "(I)I"⟩
def y_Q_sheet : MethodName := ⟨"QuotaLaws", "sheet", "(III)I"⟩
def y_Sheet_renew : MethodName := ⟨"QuotaLaws$Sheet", "renew", "(II)V"⟩
def y_Q_lay : MethodName := ⟨"QuotaLaws", "lay", "(III)I"⟩
def y_Sheet_faultAt : MethodName := ⟨"QuotaLaws$Sheet", "faultAt", "(J)I"⟩
def y_Sheet_put : MethodName := ⟨"QuotaLaws$Sheet", "put", "(II)V"⟩
def y_Q_read : MethodName := ⟨"QuotaLaws", "read", "(IIII)I"⟩
def y_Sheet_faultAs : MethodName := ⟨"QuotaLaws$Sheet", "faultAs", "(I)I"⟩
def y_Sheet_faultOfPair : MethodName := ⟨"QuotaLaws$Sheet", "faultOfPair", "(J)I"⟩
def y_Sheet_cellAt : MethodName := ⟨"QuotaLaws$Sheet", "cellAt", "(J)I"⟩
def y_Q_torn : MethodName := ⟨"QuotaLaws", "torn", "()I"⟩
def y_Q_count : MethodName := ⟨"QuotaLaws", "count", "(I)I"⟩
def y_Realm_brokenInAll : MethodName := ⟨"QuotaLaws$Realm", "brokenInAll", "()I"⟩
def y_Q_countKept : MethodName := ⟨"QuotaLaws", "countKept", "()I"⟩
def y_Realm_allPurses : MethodName := ⟨"QuotaLaws$Realm", "allPurses", "()I"⟩
def y_Realm_allNeed : MethodName := ⟨"QuotaLaws$Realm", "allNeed", "()I"⟩
def y_M_new : MethodName := ⟨"QuotaLawsModel", "<init>", "()V"⟩
def y_M_firstDraft : MethodName := ⟨"QuotaLawsModel", "firstDraft", "()V"⟩
def y_M_keepDraft : MethodName := ⟨"QuotaLawsModel", "keepDraft", "()V"⟩
def y_M_feed : MethodName := ⟨"QuotaLawsModel", "feed", "(I)I"⟩
def y_M_in : MethodName := ⟨"QuotaLawsModel", "in", "(JJJ)Z"⟩
def y_M_end : MethodName := ⟨"QuotaLawsModel", "end", "(I)I"⟩
def y_M_text : MethodName := ⟨"QuotaLawsModel", "text", "()I"⟩
def y_M_next : MethodName := ⟨"QuotaLawsModel", "next", "()V"⟩
def y_M_look : MethodName := ⟨"QuotaLawsModel", "look", "(I)I"⟩
def y_M_needs : MethodName := ⟨"QuotaLawsModel", "needs", "(ZI)V"⟩
def y_M_readLine : MethodName := ⟨"QuotaLawsModel", "readLine", "()V"⟩
def y_M_lineNow : MethodName := ⟨"QuotaLawsModel", "lineNow", "()I"⟩
def y_M_is : MethodName := ⟨"QuotaLawsModel", "is", "(IIII)Z"⟩
def y_M_readLineOf : MethodName := ⟨"QuotaLawsModel", "readLineOf", "(I)V"⟩
def y_M_readLaw : MethodName := ⟨"QuotaLawsModel", "readLaw", "()V"⟩
def y_M_readNumber : MethodName := ⟨"QuotaLawsModel", "readNumber", "(II)I"⟩
def y_M_looked : MethodName := ⟨"QuotaLawsModel", "looked", "(II)I"⟩
def y_M_readLawOf : MethodName := ⟨"QuotaLawsModel", "readLawOf", "(I)I"⟩
def y_M_readOne : MethodName := ⟨"QuotaLawsModel", "readOne", "()V"⟩
def y_M_fault : MethodName := ⟨"QuotaLawsModel", "fault", "()I"⟩
def y_M_rule : MethodName := ⟨"QuotaLawsModel", "rule", "(I)I"⟩
def y_M_law : MethodName := ⟨"QuotaLawsModel", "law", "(II)I"⟩
def y_M_isLaw : MethodName := ⟨"QuotaLawsModel", "isLaw", "(I)Z"⟩
def y_M_needOf : MethodName := ⟨"QuotaLawsModel", "needOf", "(I)I"⟩
def y_M_doesStand : MethodName := ⟨"QuotaLawsModel", "doesStand", "(I)Z"⟩
def y_M_brokenBy : MethodName := ⟨"QuotaLawsModel", "brokenBy", "(II)I"⟩
def y_M_chainOf : MethodName := ⟨"QuotaLawsModel", "chainOf", "(I)I"⟩
def y_M_one : MethodName := ⟨"QuotaLawsModel", "one", "(II)I"⟩
def y_M_isOne : MethodName := ⟨"QuotaLawsModel", "isOne", "(I)Z"⟩
def y_M_canBreak : MethodName := ⟨"QuotaLawsModel", "canBreak", "(II)Z"⟩
def y_M_roomOf : MethodName := ⟨"QuotaLawsModel", "roomOf", "(II)I"⟩
def y_M_timeLeft : MethodName := ⟨"QuotaLawsModel", "timeLeft", "(I)I"⟩
def y_M_allBy : MethodName := ⟨"QuotaLawsModel", "allBy", "(I)I"⟩
def y_M_flag : MethodName := ⟨"QuotaLawsModel", "flag", "(Z)I"⟩
def y_M_broken : MethodName := ⟨"QuotaLawsModel", "broken", "(II)I"⟩
def y_M_quota : MethodName := ⟨"QuotaLawsModel", "quota", "(II)I"⟩
def y_M_becomes : MethodName := ⟨"QuotaLawsModel", "becomes", "(II)I"⟩
def y_M_carry : MethodName := ⟨"QuotaLawsModel", "carry", "(II)I"⟩
def y_M_watch : MethodName := ⟨"QuotaLawsModel", "watch", "(IZ)I"⟩
def y_M_becomesBit : MethodName := ⟨"QuotaLawsModel", "becomesBit", "(IIZ)I"⟩
def y_M_time : MethodName := ⟨"QuotaLawsModel", "time", "(II)I"⟩
def y_M_refuse : MethodName := ⟨"QuotaLawsModel", "refuse", "(IIZ)I"⟩
def y_M_want : MethodName := ⟨"QuotaLawsModel", "want", "(IIZ)I"⟩
def y_M_fund : MethodName := ⟨"QuotaLawsModel", "fund", "(II)I"⟩
def y_M_revive : MethodName := ⟨"QuotaLawsModel", "revive", "(I)I"⟩
def y_M_bitsOf : MethodName := ⟨"QuotaLawsModel", "bitsOf", "(I)I"⟩
def y_M_breaks : MethodName := ⟨"QuotaLawsModel", "breaks", "(II)I"⟩
def y_M_year : MethodName := ⟨"QuotaLawsModel", "year", "()I"⟩
def y_M_fallsNow : MethodName := ⟨"QuotaLawsModel", "fallsNow", "()I"⟩
def y_M_falls : MethodName := ⟨"QuotaLawsModel", "falls", "()I"⟩
def y_M_most : MethodName := ⟨"QuotaLawsModel", "most", "(I)I"⟩
def y_M_rota : MethodName := ⟨"QuotaLawsModel", "rota", "(I)I"⟩
def y_M_startsRota : MethodName := ⟨"QuotaLawsModel", "startsRota", "(I)V"⟩
def y_M_findRota : MethodName := ⟨"QuotaLawsModel", "findRota", "()I"⟩
def y_M_at : MethodName := ⟨"QuotaLawsModel", "at", "(IIII)I"⟩
def y_M_leastOf : MethodName := ⟨"QuotaLawsModel", "leastOf", "(IIII)I"⟩
def y_M_harmBy : MethodName := ⟨"QuotaLawsModel", "harmBy", "(IIIIIII)I"⟩
def y_M_roomAt : MethodName := ⟨"QuotaLawsModel", "roomAt", "(II)I"⟩
def y_M_sharesOf : MethodName := ⟨"QuotaLawsModel", "sharesOf", "(IIII)V"⟩
def y_M_more : MethodName := ⟨"QuotaLawsModel", "more", "(I)I"⟩
def y_M_together : MethodName := ⟨"QuotaLawsModel", "together", "(I)I"⟩
def y_M_kill : MethodName := ⟨"QuotaLawsModel", "kill", "(II)I"⟩
def y_M_triesOf : MethodName := ⟨"QuotaLawsModel", "triesOf", "(II)I"⟩
def y_M_selfish : MethodName := ⟨"QuotaLawsModel", "selfish", "(I)I"⟩
def y_M_saves : MethodName := ⟨"QuotaLawsModel", "saves", "()V"⟩
def y_M_wantedBy : MethodName := ⟨"QuotaLawsModel", "wantedBy", "(I)I"⟩
def y_M_returns : MethodName := ⟨"QuotaLawsModel", "returns", "()V"⟩
def y_M_luck : MethodName := ⟨"QuotaLawsModel", "luck", "(II)J"⟩
def y_M_common : MethodName := ⟨"QuotaLawsModel", "common", "(JJ)J"⟩
def y_M_see : MethodName := ⟨"QuotaLawsModel", "see", "(III)I"⟩
def y_M_forget : MethodName := ⟨"QuotaLawsModel", "forget", "(I)I"⟩
def y_M_books : MethodName := ⟨"QuotaLawsModel", "books", "()J"⟩
def y_M_tablesBy : MethodName := ⟨"QuotaLawsModel", "tablesBy", "(III)J"⟩
def y_M_addsLaw : MethodName := ⟨"QuotaLawsModel", "addsLaw", "(IIII)V"⟩
def y_M_mostOf : MethodName := ⟨"QuotaLawsModel", "mostOf", "(II)I"⟩
def y_M_isSo : MethodName := ⟨"QuotaLawsModel", "isSo", "(III)Z"⟩
def y_M_isAsked : MethodName := ⟨"QuotaLawsModel", "isAsked", "(IIIIII)Z"⟩
def y_M_addsTables : MethodName := ⟨"QuotaLawsModel", "addsTables", "(III)V"⟩
def y_M_isTime : MethodName := ⟨"QuotaLawsModel", "isTime", "(II)Z"⟩
def y_M_entry : MethodName := ⟨"QuotaLawsModel", "entry", "(III)I"⟩
def y_M_wild : MethodName := ⟨"QuotaLawsModel", "wild", "(III)I"⟩
def y_M_keep : MethodName := ⟨"QuotaLawsModel", "keep", "(I)I"⟩
def y_M_copies : MethodName := ⟨"QuotaLawsModel", "copies", "(II)V"⟩
def y_M_back : MethodName := ⟨"QuotaLawsModel", "back", "(I)I"⟩
def y_M_sheet : MethodName := ⟨"QuotaLawsModel", "sheet", "(III)I"⟩
def y_M_isSheet : MethodName := ⟨"QuotaLawsModel", "isSheet", "(II)Z"⟩
def y_M_lay : MethodName := ⟨"QuotaLawsModel", "lay", "(III)I"⟩
def y_M_read : MethodName := ⟨"QuotaLawsModel", "read", "(IIII)I"⟩
def y_M_torn : MethodName := ⟨"QuotaLawsModel", "torn", "()I"⟩
def y_M_count : MethodName := ⟨"QuotaLawsModel", "count", "(I)I"⟩
def y_QuotaLawsLaw_law : MethodName := ⟨"QuotaLawsLaw", "law", "([I)Z"⟩
theorem wd_1 : (.initialized "QuotaLaws" : Cond) ∈ tbg := tbg_c1 1 (by decide +kernel) rfl
theorem wd_2 : (.initialized "QuotaLaws$Reader" : Cond) ∈ tbg := tbg_c1 2 (by decide +kernel) rfl
theorem wd_3 : (.initialized "QuotaLaws$Realm" : Cond) ∈ tbg := tbg_c1 3 (by decide +kernel) rfl
theorem wd_4 : (.initialized "QuotaLaws$Sightings" : Cond) ∈ tbg := tbg_c1 4 (by decide +kernel) rfl
theorem wd_5 : (.initialized "QuotaLaws$Planner" : Cond) ∈ tbg := tbg_c1 5 (by decide +kernel) rfl
theorem wd_6 : (.initialized "QuotaLaws$Tables" : Cond) ∈ tbg := tbg_c1 6 (by decide +kernel) rfl
theorem wd_7 : (.initialized "QuotaLaws$Odds" : Cond) ∈ tbg := tbg_c1 7 (by decide +kernel) rfl
theorem wd_8 : (.initialized "QuotaLaws$Sheet" : Cond) ∈ tbg := tbg_c1 8 (by decide +kernel) rfl
theorem wd_9 : (.initialized "QuotaLawsModel" : Cond) ∈ tbg := tbg_c1 9 (by decide +kernel) rfl
theorem wd_10 : (.initialized "java/util/Arrays" : Cond) ∈ tbg := tbg_c1 10 (by decide +kernel) rfl
theorem wd_11 : (.initialized "java/lang/String" : Cond) ∈ tbg := tbg_c1 11 (by decide +kernel) rfl
theorem wd_12 : (.initialized "java/lang/StringLatin1" : Cond) ∈ tbg := tbg_c1 12 (by decide +kernel) rfl
theorem wd_13 : (.initialized "jdk/internal/util/Preconditions" : Cond) ∈ tbg := tbg_c1 13 (by decide +kernel) rfl
theorem wd_15 : (.initialized "java/lang/System" : Cond) ∈ tbg := tbg_c1 15 (by decide +kernel) rfl
theorem wd_16 : (.initialized "java/lang/Math" : Cond) ∈ tbg := tbg_c1 16 (by decide +kernel) rfl
theorem wd_17 : (.initialized "java/lang/Integer" : Cond) ∈ tbg := tbg_c1 17 (by decide +kernel) rfl
theorem wd_18 : (.classLink "QuotaLawsLaw" 7 "QuotaLaws" : Cond) ∈ tbg := tbg_c1 18 (by decide +kernel) rfl
theorem wd_19 : (.instantiable "QuotaLaws" 10 : Cond) ∈ tbg := tbg_c1 19 (by decide +kernel) rfl
theorem wd_20 : (.methodLink "QuotaLawsLaw" 9 y_Q_new : Cond) ∈ tbg := tbg_c1 20 (by decide +kernel) rfl
theorem wd_21 : (.instanceMethod y_Q_new : Cond) ∈ tbg := tbg_c1 21 (by decide +kernel) rfl
set_option maxRecDepth 100000 in
theorem wd_22 : (.code y_Q_new prog_1_method_1_code 2 none : Cond) ∈ tbg := tbg_c1 22 rfl rfl
theorem wd_23 : (.methodLink "QuotaLaws" 1 Lib.objectInit : Cond) ∈ tbg := tbg_c1 23 (by decide +kernel) rfl
theorem wd_24 : (.instanceMethod Lib.objectInit : Cond) ∈ tbg := tbg_c1 24 (by decide +kernel) rfl
set_option maxRecDepth 100000 in
theorem wd_25 : (.code Lib.objectInit ⟨#[0xb1]⟩ 1 none : Cond) ∈ tbg := tbg_c1 25 rfl rfl
theorem wd_26 : (.classLink "QuotaLaws" 7 "QuotaLaws$Reader" : Cond) ∈ tbg := tbg_c1 26 (by decide +kernel) rfl
theorem wd_27 : (.instantiable "QuotaLaws$Reader" 9 : Cond) ∈ tbg := tbg_c1 27 (by decide +kernel) rfl
theorem wd_28 : (.methodLinkNest "QuotaLaws" 9 y_Reader_new "QuotaLaws" : Cond) ∈ nests := nests_c1 28 (by decide +kernel) rfl
theorem wd_29 : (.instanceMethod y_Reader_new : Cond) ∈ tbg := tbg_c1 29 (by decide +kernel) rfl
set_option maxRecDepth 100000 in
theorem wd_30 : (.code y_Reader_new prog_4_method_1_code 1 none : Cond) ∈ tbg := tbg_c1 30 rfl rfl
theorem wd_31 : (.methodLink "QuotaLaws$Reader" 3 Lib.objectInit : Cond) ∈ tbg := tbg_c1 31 (by decide +kernel) rfl
theorem wd_32 : (.fieldLink "QuotaLaws$Reader" 9 "QuotaLaws$Reader" "tape" "[B" : Cond) ∈ tbg := tbg_c1 32 (by decide +kernel) rfl
theorem wd_33 : (.fieldLink "QuotaLaws$Reader" 15 "QuotaLaws$Reader" "length" "I" : Cond) ∈ tbg := tbg_c1 33 (by decide +kernel) rfl
theorem wd_34 : (.fieldLink "QuotaLaws" 70 "QuotaLaws$Reader" "length" "I" : Cond) ∈ tbg := tbg_c1 34 (by decide +kernel) rfl
theorem wd_35 : (.fieldLink "QuotaLaws$Reader" 24 "QuotaLaws$Reader" "fault" "I" : Cond) ∈ tbg := tbg_c1 35 (by decide +kernel) rfl
theorem wd_36 : (.fieldLink "QuotaLaws" 88 "QuotaLaws$Reader" "fault" "I" : Cond) ∈ tbg := tbg_c1 36 (by decide +kernel) rfl
theorem wd_37 : (.fieldLink "QuotaLaws$Reader" 27 "QuotaLaws$Reader" "faultPlace" "I" : Cond) ∈ tbg := tbg_c1 37 (by decide +kernel) rfl
theorem wd_38 : (.fieldLink "QuotaLaws" 78 "QuotaLaws$Reader" "faultPlace" "I" : Cond) ∈ tbg := tbg_c1 38 (by decide +kernel) rfl
theorem wd_39 : (.fieldLink "QuotaLaws$Reader" 30 "QuotaLaws$Reader" "lines" "I" : Cond) ∈ tbg := tbg_c1 39 (by decide +kernel) rfl
theorem wd_40 : (.fieldLink "QuotaLaws" 85 "QuotaLaws$Reader" "lines" "I" : Cond) ∈ tbg := tbg_c1 40 (by decide +kernel) rfl
theorem wd_41 : (.fieldLink "QuotaLaws$Reader" 33 "QuotaLaws$Reader" "place" "I" : Cond) ∈ tbg := tbg_c1 41 (by decide +kernel) rfl
theorem wd_42 : (.fieldLink "QuotaLaws$Reader" 40 "QuotaLaws$Reader" "kind" "I" : Cond) ∈ tbg := tbg_c1 42 (by decide +kernel) rfl
theorem wd_43 : (.fieldLink "QuotaLaws$Reader" 85 "QuotaLaws$Reader" "start" "I" : Cond) ∈ tbg := tbg_c1 43 (by decide +kernel) rfl
theorem wd_44 : (.fieldLink "QuotaLaws$Reader" 123 "QuotaLaws$Reader" "value" "I" : Cond) ∈ tbg := tbg_c1 44 (by decide +kernel) rfl
theorem wd_64 : (.arrayClass .byte : Cond) ∈ tbg := tbg_c1 64 (by decide +kernel) rfl
theorem wd_65 : (.classLink "QuotaLaws" 16 "QuotaLaws$Realm" : Cond) ∈ tbg := tbg_c1 65 (by decide +kernel) rfl
theorem wd_66 : (.instantiable "QuotaLaws$Realm" 19 : Cond) ∈ tbg := tbg_c1 66 (by decide +kernel) rfl
theorem wd_67 : (.methodLinkNest "QuotaLaws" 18 y_Realm_new "QuotaLaws" : Cond) ∈ nests := nests_c1 67 (by decide +kernel) rfl
theorem wd_68 : (.instanceMethod y_Realm_new : Cond) ∈ tbg := tbg_c1 68 (by decide +kernel) rfl
set_option maxRecDepth 100000 in
theorem wd_69 : (.code y_Realm_new prog_5_method_1_code 1 none : Cond) ∈ tbg := tbg_c1 69 rfl rfl
theorem wd_70 : (.methodLink "QuotaLaws$Realm" 3 Lib.objectInit : Cond) ∈ tbg := tbg_c1 70 (by decide +kernel) rfl
theorem wd_71 : (.classLink "QuotaLaws$Realm" 48 "QuotaLaws$Sightings" : Cond) ∈ tbg := tbg_c1 71 (by decide +kernel) rfl
theorem wd_72 : (.instantiable "QuotaLaws$Sightings" 4 : Cond) ∈ tbg := tbg_c1 72 (by decide +kernel) rfl
theorem wd_73 : (.methodLinkNest "QuotaLaws$Realm" 50 y_Sightings_new "QuotaLaws" : Cond) ∈ nests := nests_c1 73 (by decide +kernel) rfl
theorem wd_74 : (.instanceMethod y_Sightings_new : Cond) ∈ tbg := tbg_c1 74 (by decide +kernel) rfl
set_option maxRecDepth 100000 in
theorem wd_75 : (.code y_Sightings_new prog_7_method_1_code 1 none : Cond) ∈ tbg := tbg_c1 75 rfl rfl
theorem wd_76 : (.methodLink "QuotaLaws$Sightings" 3 Lib.objectInit : Cond) ∈ tbg := tbg_c1 76 (by decide +kernel) rfl
theorem wd_77 : (.fieldLink "QuotaLaws$Sightings" 21 "QuotaLaws$Sightings" "size" "I" : Cond) ∈ tbg := tbg_c1 77 (by decide +kernel) rfl
theorem wd_78 : (.fieldLink "QuotaLaws$Realm" 74 "QuotaLaws$Sightings" "size" "I" : Cond) ∈ tbg := tbg_c1 78 (by decide +kernel) rfl
theorem wd_79 : (.fieldLink "QuotaLaws" 244 "QuotaLaws$Sightings" "size" "I" : Cond) ∈ tbg := tbg_c1 79 (by decide +kernel) rfl
theorem wd_80 : (.fieldLink "QuotaLaws$Sightings" 9 "QuotaLaws$Sightings" "kinds" "[I" : Cond) ∈ tbg := tbg_c1 80 (by decide +kernel) rfl
theorem wd_81 : (.fieldLink "QuotaLaws$Sightings" 15 "QuotaLaws$Sightings" "whose" "[I" : Cond) ∈ tbg := tbg_c1 81 (by decide +kernel) rfl
theorem wd_82 : (.fieldLink "QuotaLaws$Sightings" 18 "QuotaLaws$Sightings" "times" "[I" : Cond) ∈ tbg := tbg_c1 82 (by decide +kernel) rfl
theorem wd_92 : (.arrayClass .int : Cond) ∈ tbg := tbg_c1 92 (by decide +kernel) rfl
theorem wd_93 : (.fieldLink "QuotaLaws$Realm" 55 "QuotaLaws$Realm" "laws" "I" : Cond) ∈ tbg := tbg_c1 93 (by decide +kernel) rfl
theorem wd_94 : (.fieldLink "QuotaLaws$Planner" 33 "QuotaLaws$Realm" "laws" "I" : Cond) ∈ tbg := tbg_c1 94 (by decide +kernel) rfl
theorem wd_95 : (.fieldLink "QuotaLaws$Tables" 34 "QuotaLaws$Realm" "laws" "I" : Cond) ∈ tbg := tbg_c1 95 (by decide +kernel) rfl
theorem wd_96 : (.fieldLink "QuotaLaws$Reader" 60 "QuotaLaws$Realm" "laws" "I" : Cond) ∈ tbg := tbg_c1 96 (by decide +kernel) rfl
theorem wd_97 : (.fieldLink "QuotaLaws" 91 "QuotaLaws$Realm" "laws" "I" : Cond) ∈ tbg := tbg_c1 97 (by decide +kernel) rfl
theorem wd_98 : (.fieldLink "QuotaLaws$Realm" 59 "QuotaLaws$Realm" "people" "I" : Cond) ∈ tbg := tbg_c1 98 (by decide +kernel) rfl
theorem wd_99 : (.fieldLink "QuotaLaws$Odds" 25 "QuotaLaws$Realm" "people" "I" : Cond) ∈ tbg := tbg_c1 99 (by decide +kernel) rfl
theorem wd_100 : (.fieldLink "QuotaLaws$Planner" 57 "QuotaLaws$Realm" "people" "I" : Cond) ∈ tbg := tbg_c1 100 (by decide +kernel) rfl
theorem wd_101 : (.fieldLink "QuotaLaws$Reader" 69 "QuotaLaws$Realm" "people" "I" : Cond) ∈ tbg := tbg_c1 101 (by decide +kernel) rfl
theorem wd_102 : (.fieldLink "QuotaLaws" 94 "QuotaLaws$Realm" "people" "I" : Cond) ∈ tbg := tbg_c1 102 (by decide +kernel) rfl
theorem wd_103 : (.fieldLink "QuotaLaws$Realm" 62 "QuotaLaws$Realm" "year" "I" : Cond) ∈ tbg := tbg_c1 103 (by decide +kernel) rfl
theorem wd_104 : (.fieldLink "QuotaLaws" 97 "QuotaLaws$Realm" "year" "I" : Cond) ∈ tbg := tbg_c1 104 (by decide +kernel) rfl
theorem wd_105 : (.fieldLink "QuotaLaws$Realm" 65 "QuotaLaws$Realm" "done" "I" : Cond) ∈ tbg := tbg_c1 105 (by decide +kernel) rfl
theorem wd_106 : (.fieldLink "QuotaLaws" 100 "QuotaLaws$Realm" "done" "I" : Cond) ∈ tbg := tbg_c1 106 (by decide +kernel) rfl
theorem wd_107 : (.fieldLink "QuotaLaws$Realm" 68 "QuotaLaws$Realm" "stands" "I" : Cond) ∈ tbg := tbg_c1 107 (by decide +kernel) rfl
theorem wd_108 : (.fieldLink "QuotaLaws$Reader" 92 "QuotaLaws$Realm" "stands" "I" : Cond) ∈ tbg := tbg_c1 108 (by decide +kernel) rfl
theorem wd_109 : (.fieldLink "QuotaLaws" 103 "QuotaLaws$Realm" "stands" "I" : Cond) ∈ tbg := tbg_c1 109 (by decide +kernel) rfl
theorem wd_110 : (.fieldLink "QuotaLaws$Realm" 71 "QuotaLaws$Realm" "watched" "I" : Cond) ∈ tbg := tbg_c1 110 (by decide +kernel) rfl
theorem wd_111 : (.fieldLink "QuotaLaws" 106 "QuotaLaws$Realm" "watched" "I" : Cond) ∈ tbg := tbg_c1 111 (by decide +kernel) rfl
theorem wd_112 : (.fieldLink "QuotaLaws$Reader" 147 "QuotaLaws$Realm" "watched" "I" : Cond) ∈ tbg := tbg_c1 112 (by decide +kernel) rfl
theorem wd_113 : (.fieldLink "QuotaLaws$Realm" 9 "QuotaLaws$Realm" "quota" "[I" : Cond) ∈ tbg := tbg_c1 113 (by decide +kernel) rfl
theorem wd_114 : (.fieldLink "QuotaLaws$Reader" 98 "QuotaLaws$Realm" "quota" "[I" : Cond) ∈ tbg := tbg_c1 114 (by decide +kernel) rfl
theorem wd_115 : (.fieldLink "QuotaLaws" 112 "QuotaLaws$Realm" "quota" "[I" : Cond) ∈ tbg := tbg_c1 115 (by decide +kernel) rfl
theorem wd_116 : (.fieldLink "QuotaLaws$Realm" 15 "QuotaLaws$Realm" "cap" "[I" : Cond) ∈ tbg := tbg_c1 116 (by decide +kernel) rfl
theorem wd_117 : (.fieldLink "QuotaLaws$Tables" 69 "QuotaLaws$Realm" "cap" "[I" : Cond) ∈ tbg := tbg_c1 117 (by decide +kernel) rfl
theorem wd_118 : (.fieldLink "QuotaLaws$Reader" 105 "QuotaLaws$Realm" "cap" "[I" : Cond) ∈ tbg := tbg_c1 118 (by decide +kernel) rfl
theorem wd_119 : (.fieldLink "QuotaLaws" 116 "QuotaLaws$Realm" "cap" "[I" : Cond) ∈ tbg := tbg_c1 119 (by decide +kernel) rfl
theorem wd_120 : (.fieldLink "QuotaLaws$Realm" 18 "QuotaLaws$Realm" "harm" "[I" : Cond) ∈ tbg := tbg_c1 120 (by decide +kernel) rfl
theorem wd_121 : (.fieldLink "QuotaLaws$Planner" 64 "QuotaLaws$Realm" "harm" "[I" : Cond) ∈ tbg := tbg_c1 121 (by decide +kernel) rfl
theorem wd_122 : (.fieldLink "QuotaLaws$Reader" 108 "QuotaLaws$Realm" "harm" "[I" : Cond) ∈ tbg := tbg_c1 122 (by decide +kernel) rfl
theorem wd_123 : (.fieldLink "QuotaLaws" 119 "QuotaLaws$Realm" "harm" "[I" : Cond) ∈ tbg := tbg_c1 123 (by decide +kernel) rfl
theorem wd_124 : (.fieldLink "QuotaLaws$Realm" 21 "QuotaLaws$Realm" "fine" "[I" : Cond) ∈ tbg := tbg_c1 124 (by decide +kernel) rfl
theorem wd_125 : (.fieldLink "QuotaLaws$Reader" 111 "QuotaLaws$Realm" "fine" "[I" : Cond) ∈ tbg := tbg_c1 125 (by decide +kernel) rfl
theorem wd_126 : (.fieldLink "QuotaLaws" 122 "QuotaLaws$Realm" "fine" "[I" : Cond) ∈ tbg := tbg_c1 126 (by decide +kernel) rfl
theorem wd_127 : (.fieldLink "QuotaLaws$Realm" 24 "QuotaLaws$Realm" "carries" "[I" : Cond) ∈ tbg := tbg_c1 127 (by decide +kernel) rfl
theorem wd_128 : (.fieldLink "QuotaLaws$Reader" 88 "QuotaLaws$Realm" "carries" "[I" : Cond) ∈ tbg := tbg_c1 128 (by decide +kernel) rfl
theorem wd_129 : (.fieldLink "QuotaLaws" 125 "QuotaLaws$Realm" "carries" "[I" : Cond) ∈ tbg := tbg_c1 129 (by decide +kernel) rfl
theorem wd_130 : (.fieldLink "QuotaLaws$Realm" 27 "QuotaLaws$Realm" "time" "[I" : Cond) ∈ tbg := tbg_c1 130 (by decide +kernel) rfl
theorem wd_131 : (.fieldLink "QuotaLaws$Tables" 61 "QuotaLaws$Realm" "time" "[I" : Cond) ∈ tbg := tbg_c1 131 (by decide +kernel) rfl
theorem wd_132 : (.fieldLink "QuotaLaws$Reader" 126 "QuotaLaws$Realm" "time" "[I" : Cond) ∈ tbg := tbg_c1 132 (by decide +kernel) rfl
theorem wd_133 : (.fieldLink "QuotaLaws" 138 "QuotaLaws$Realm" "time" "[I" : Cond) ∈ tbg := tbg_c1 133 (by decide +kernel) rfl
theorem wd_134 : (.fieldLink "QuotaLaws$Realm" 30 "QuotaLaws$Realm" "clumsy" "[I" : Cond) ∈ tbg := tbg_c1 134 (by decide +kernel) rfl
theorem wd_135 : (.fieldLink "QuotaLaws$Planner" 65 "QuotaLaws$Realm" "clumsy" "[I" : Cond) ∈ tbg := tbg_c1 135 (by decide +kernel) rfl
theorem wd_136 : (.fieldLink "QuotaLaws$Reader" 129 "QuotaLaws$Realm" "clumsy" "[I" : Cond) ∈ tbg := tbg_c1 136 (by decide +kernel) rfl
theorem wd_137 : (.fieldLink "QuotaLaws" 141 "QuotaLaws$Realm" "clumsy" "[I" : Cond) ∈ tbg := tbg_c1 137 (by decide +kernel) rfl
theorem wd_138 : (.fieldLink "QuotaLaws$Realm" 33 "QuotaLaws$Realm" "nerve" "[I" : Cond) ∈ tbg := tbg_c1 138 (by decide +kernel) rfl
theorem wd_139 : (.fieldLink "QuotaLaws$Odds" 35 "QuotaLaws$Realm" "nerve" "[I" : Cond) ∈ tbg := tbg_c1 139 (by decide +kernel) rfl
theorem wd_140 : (.fieldLink "QuotaLaws$Reader" 132 "QuotaLaws$Realm" "nerve" "[I" : Cond) ∈ tbg := tbg_c1 140 (by decide +kernel) rfl
theorem wd_141 : (.fieldLink "QuotaLaws" 144 "QuotaLaws$Realm" "nerve" "[I" : Cond) ∈ tbg := tbg_c1 141 (by decide +kernel) rfl
theorem wd_142 : (.fieldLink "QuotaLaws$Realm" 36 "QuotaLaws$Realm" "purse" "[I" : Cond) ∈ tbg := tbg_c1 142 (by decide +kernel) rfl
theorem wd_143 : (.fieldLink "QuotaLaws$Reader" 135 "QuotaLaws$Realm" "purse" "[I" : Cond) ∈ tbg := tbg_c1 143 (by decide +kernel) rfl
theorem wd_144 : (.fieldLink "QuotaLaws" 147 "QuotaLaws$Realm" "purse" "[I" : Cond) ∈ tbg := tbg_c1 144 (by decide +kernel) rfl
theorem wd_145 : (.fieldLink "QuotaLaws$Realm" 39 "QuotaLaws$Realm" "refused" "[I" : Cond) ∈ tbg := tbg_c1 145 (by decide +kernel) rfl
theorem wd_146 : (.fieldLink "QuotaLaws$Tables" 62 "QuotaLaws$Realm" "refused" "[I" : Cond) ∈ tbg := tbg_c1 146 (by decide +kernel) rfl
theorem wd_147 : (.fieldLink "QuotaLaws$Reader" 138 "QuotaLaws$Realm" "refused" "[I" : Cond) ∈ tbg := tbg_c1 147 (by decide +kernel) rfl
theorem wd_148 : (.fieldLink "QuotaLaws" 150 "QuotaLaws$Realm" "refused" "[I" : Cond) ∈ tbg := tbg_c1 148 (by decide +kernel) rfl
theorem wd_149 : (.fieldLink "QuotaLaws$Realm" 42 "QuotaLaws$Realm" "wanted" "[I" : Cond) ∈ tbg := tbg_c1 149 (by decide +kernel) rfl
theorem wd_150 : (.fieldLink "QuotaLaws$Reader" 144 "QuotaLaws$Realm" "wanted" "[I" : Cond) ∈ tbg := tbg_c1 150 (by decide +kernel) rfl
theorem wd_151 : (.fieldLink "QuotaLaws" 153 "QuotaLaws$Realm" "wanted" "[I" : Cond) ∈ tbg := tbg_c1 151 (by decide +kernel) rfl
theorem wd_152 : (.fieldLink "QuotaLaws$Realm" 45 "QuotaLaws$Realm" "breakings" "[I" : Cond) ∈ tbg := tbg_c1 152 (by decide +kernel) rfl
theorem wd_153 : (.fieldLink "QuotaLaws$Realm" 51 "QuotaLaws$Realm" "seen" "LQuotaLaws$Sightings;" : Cond) ∈ tbg := tbg_c1 153 (by decide +kernel) rfl
theorem wd_154 : (.fieldLink "QuotaLaws$Tables" 47 "QuotaLaws$Realm" "seen" "LQuotaLaws$Sightings;" : Cond) ∈ tbg := tbg_c1 154 (by decide +kernel) rfl
theorem wd_155 : (.fieldLink "QuotaLaws" 236 "QuotaLaws$Realm" "seen" "LQuotaLaws$Sightings;" : Cond) ∈ tbg := tbg_c1 155 (by decide +kernel) rfl
theorem wd_196 : (.classLink "QuotaLaws" 34 "QuotaLaws$Sheet" : Cond) ∈ tbg := tbg_c1 196 (by decide +kernel) rfl
theorem wd_198 : (.classLink "QuotaLaws" 40 "QuotaLaws$Planner" : Cond) ∈ tbg := tbg_c1 198 (by decide +kernel) rfl
theorem wd_199 : (.instantiable "QuotaLaws$Planner" 8 : Cond) ∈ tbg := tbg_c1 199 (by decide +kernel) rfl
theorem wd_200 : (.methodLinkNest "QuotaLaws" 42 y_Planner_new "QuotaLaws" : Cond) ∈ nests := nests_c1 200 (by decide +kernel) rfl
theorem wd_201 : (.instanceMethod y_Planner_new : Cond) ∈ tbg := tbg_c1 201 (by decide +kernel) rfl
set_option maxRecDepth 100000 in
theorem wd_202 : (.code y_Planner_new prog_3_method_1_code 1 none : Cond) ∈ tbg := tbg_c1 202 rfl rfl
theorem wd_203 : (.methodLink "QuotaLaws$Planner" 3 Lib.objectInit : Cond) ∈ tbg := tbg_c1 203 (by decide +kernel) rfl
theorem wd_204 : (.fieldLink "QuotaLaws$Planner" 39 "QuotaLaws$Planner" "laws" "I" : Cond) ∈ tbg := tbg_c1 204 (by decide +kernel) rfl
theorem wd_205 : (.fieldLink "QuotaLaws$Planner" 9 "QuotaLaws$Planner" "left" "[I" : Cond) ∈ tbg := tbg_c1 205 (by decide +kernel) rfl
theorem wd_206 : (.fieldLink "QuotaLaws$Planner" 15 "QuotaLaws$Planner" "need" "[I" : Cond) ∈ tbg := tbg_c1 206 (by decide +kernel) rfl
theorem wd_207 : (.fieldLink "QuotaLaws$Planner" 18 "QuotaLaws$Planner" "needAhead" "[I" : Cond) ∈ tbg := tbg_c1 207 (by decide +kernel) rfl
theorem wd_208 : (.fieldLink "QuotaLaws$Planner" 21 "QuotaLaws$Planner" "room" "[I" : Cond) ∈ tbg := tbg_c1 208 (by decide +kernel) rfl
theorem wd_209 : (.fieldLink "QuotaLaws$Planner" 24 "QuotaLaws$Planner" "harm" "[I" : Cond) ∈ tbg := tbg_c1 209 (by decide +kernel) rfl
theorem wd_210 : (.fieldLink "QuotaLaws$Planner" 27 "QuotaLaws$Planner" "first" "[I" : Cond) ∈ tbg := tbg_c1 210 (by decide +kernel) rfl
theorem wd_211 : (.fieldLink "QuotaLaws$Planner" 30 "QuotaLaws$Planner" "best" "[I" : Cond) ∈ tbg := tbg_c1 211 (by decide +kernel) rfl
theorem wd_229 : (.arrayClass .boolean : Cond) ∈ tbg := tbg_c1 229 (by decide +kernel) rfl
theorem wd_230 : (.classLink "QuotaLaws" 47 "QuotaLaws$Tables" : Cond) ∈ tbg := tbg_c1 230 (by decide +kernel) rfl
theorem wd_231 : (.instantiable "QuotaLaws$Tables" 8 : Cond) ∈ tbg := tbg_c1 231 (by decide +kernel) rfl
theorem wd_232 : (.methodLinkNest "QuotaLaws" 49 y_Tables_new "QuotaLaws" : Cond) ∈ nests := nests_c1 232 (by decide +kernel) rfl
theorem wd_233 : (.instanceMethod y_Tables_new : Cond) ∈ tbg := tbg_c1 233 (by decide +kernel) rfl
set_option maxRecDepth 100000 in
theorem wd_234 : (.code y_Tables_new prog_8_method_1_code 1 none : Cond) ∈ tbg := tbg_c1 234 rfl rfl
theorem wd_235 : (.methodLink "QuotaLaws$Tables" 3 Lib.objectInit : Cond) ∈ tbg := tbg_c1 235 (by decide +kernel) rfl
theorem wd_236 : (.fieldLink "QuotaLaws$Tables" 40 "QuotaLaws$Tables" "laws" "I" : Cond) ∈ tbg := tbg_c1 236 (by decide +kernel) rfl
theorem wd_237 : (.fieldLink "QuotaLaws$Tables" 9 "QuotaLaws$Tables" "low" "[I" : Cond) ∈ tbg := tbg_c1 237 (by decide +kernel) rfl
theorem wd_238 : (.fieldLink "QuotaLaws$Tables" 15 "QuotaLaws$Tables" "high" "[I" : Cond) ∈ tbg := tbg_c1 238 (by decide +kernel) rfl
theorem wd_239 : (.fieldLink "QuotaLaws$Tables" 18 "QuotaLaws$Tables" "lawDue" "[I" : Cond) ∈ tbg := tbg_c1 239 (by decide +kernel) rfl
theorem wd_240 : (.fieldLink "QuotaLaws$Tables" 21 "QuotaLaws$Tables" "oneDue" "[I" : Cond) ∈ tbg := tbg_c2 0 (by decide +kernel) rfl
theorem wd_241 : (.fieldLink "QuotaLaws$Tables" 24 "QuotaLaws$Tables" "time" "[I" : Cond) ∈ tbg := tbg_c2 1 (by decide +kernel) rfl
theorem wd_242 : (.fieldLink "QuotaLaws$Tables" 27 "QuotaLaws$Tables" "alone" "[J" : Cond) ∈ tbg := tbg_c2 2 (by decide +kernel) rfl
theorem wd_243 : (.fieldLink "QuotaLaws$Tables" 31 "QuotaLaws$Tables" "ways" "[J" : Cond) ∈ tbg := tbg_c2 3 (by decide +kernel) rfl
theorem wd_261 : (.arrayClass .long : Cond) ∈ tbg := tbg_c2 21 (by decide +kernel) rfl
theorem wd_262 : (.classLink "QuotaLaws" 54 "QuotaLaws$Odds" : Cond) ∈ tbg := tbg_c2 22 (by decide +kernel) rfl
theorem wd_263 : (.instantiable "QuotaLaws$Odds" 3 : Cond) ∈ tbg := tbg_c2 23 (by decide +kernel) rfl
theorem wd_264 : (.methodLinkNest "QuotaLaws" 56 y_Odds_new "QuotaLaws" : Cond) ∈ nests := nests_c2 24 (by decide +kernel) rfl
theorem wd_265 : (.instanceMethod y_Odds_new : Cond) ∈ tbg := tbg_c2 25 (by decide +kernel) rfl
set_option maxRecDepth 100000 in
theorem wd_266 : (.code y_Odds_new prog_2_method_1_code 1 none : Cond) ∈ tbg := tbg_c2 26 rfl rfl
theorem wd_267 : (.methodLink "QuotaLaws$Odds" 3 Lib.objectInit : Cond) ∈ tbg := tbg_c2 27 (by decide +kernel) rfl
theorem wd_268 : (.fieldLink "QuotaLaws$Odds" 43 "QuotaLaws$Odds" "over" "J" : Cond) ∈ tbg := tbg_c2 28 (by decide +kernel) rfl
theorem wd_269 : (.fieldLink "QuotaLaws" 229 "QuotaLaws$Odds" "over" "J" : Cond) ∈ tbg := tbg_c2 29 (by decide +kernel) rfl
theorem wd_270 : (.fieldLink "QuotaLaws$Odds" 21 "QuotaLaws$Odds" "under" "J" : Cond) ∈ tbg := tbg_c2 30 (by decide +kernel) rfl
theorem wd_271 : (.fieldLink "QuotaLaws" 233 "QuotaLaws$Odds" "under" "J" : Cond) ∈ tbg := tbg_c2 31 (by decide +kernel) rfl
theorem wd_272 : (.fieldLink "QuotaLaws$Odds" 11 "QuotaLaws$Odds" "weights" "[J" : Cond) ∈ tbg := tbg_c2 32 (by decide +kernel) rfl
theorem wd_280 : (.instantiable "QuotaLaws$Sheet" 3 : Cond) ∈ tbg := tbg_c2 40 (by decide +kernel) rfl
theorem wd_281 : (.methodLinkNest "QuotaLaws" 61 y_Sheet_new "QuotaLaws" : Cond) ∈ nests := nests_c2 41 (by decide +kernel) rfl
theorem wd_282 : (.instanceMethod y_Sheet_new : Cond) ∈ tbg := tbg_c2 42 (by decide +kernel) rfl
set_option maxRecDepth 100000 in
theorem wd_283 : (.code y_Sheet_new prog_6_method_1_code 1 none : Cond) ∈ tbg := tbg_c2 43 rfl rfl
theorem wd_284 : (.methodLink "QuotaLaws$Sheet" 3 Lib.objectInit : Cond) ∈ tbg := tbg_c2 44 (by decide +kernel) rfl
theorem wd_285 : (.fieldLink "QuotaLaws$Sheet" 9 "QuotaLaws$Sheet" "size" "I" : Cond) ∈ tbg := tbg_c2 45 (by decide +kernel) rfl
theorem wd_286 : (.fieldLink "QuotaLaws" 286 "QuotaLaws$Sheet" "size" "I" : Cond) ∈ tbg := tbg_c2 46 (by decide +kernel) rfl
theorem wd_287 : (.fieldLink "QuotaLaws$Sheet" 19 "QuotaLaws$Sheet" "lane" "I" : Cond) ∈ tbg := tbg_c2 47 (by decide +kernel) rfl
theorem wd_288 : (.fieldLink "QuotaLaws$Sheet" 15 "QuotaLaws$Sheet" "cells" "[I" : Cond) ∈ tbg := tbg_c2 48 (by decide +kernel) rfl
theorem wd_296 : (.fieldLink "QuotaLaws" 10 "QuotaLaws" "reader" "LQuotaLaws$Reader;" : Cond) ∈ tbg := tbg_c2 56 (by decide +kernel) rfl
theorem wd_297 : (.fieldLink "QuotaLaws" 19 "QuotaLaws" "now" "LQuotaLaws$Realm;" : Cond) ∈ tbg := tbg_c2 57 (by decide +kernel) rfl
theorem wd_298 : (.fieldLink "QuotaLaws" 23 "QuotaLaws" "trial" "LQuotaLaws$Realm;" : Cond) ∈ tbg := tbg_c2 58 (by decide +kernel) rfl
theorem wd_299 : (.fieldLink "QuotaLaws" 26 "QuotaLaws" "images" "[LQuotaLaws$Realm;" : Cond) ∈ tbg := tbg_c2 59 (by decide +kernel) rfl
theorem wd_300 : (.fieldLink "QuotaLaws" 30 "QuotaLaws" "kept" "[Z" : Cond) ∈ tbg := tbg_c2 60 (by decide +kernel) rfl
theorem wd_301 : (.fieldLink "QuotaLaws" 36 "QuotaLaws" "sheets" "[LQuotaLaws$Sheet;" : Cond) ∈ tbg := tbg_c2 61 (by decide +kernel) rfl
theorem wd_302 : (.fieldLink "QuotaLaws" 43 "QuotaLaws" "planner" "LQuotaLaws$Planner;" : Cond) ∈ tbg := tbg_c2 62 (by decide +kernel) rfl
theorem wd_303 : (.fieldLink "QuotaLaws" 50 "QuotaLaws" "tables" "LQuotaLaws$Tables;" : Cond) ∈ tbg := tbg_c2 63 (by decide +kernel) rfl
theorem wd_304 : (.fieldLink "QuotaLaws" 57 "QuotaLaws" "odds" "LQuotaLaws$Odds;" : Cond) ∈ tbg := tbg_c2 64 (by decide +kernel) rfl
theorem wd_305 : (.fieldLink "QuotaLaws" 277 "QuotaLaws" "tornFault" "I" : Cond) ∈ tbg := tbg_c2 65 (by decide +kernel) rfl
theorem wd_327 : (.methodLink "QuotaLawsLaw" 13 y_Q_feed : Cond) ∈ tbg := tbg_c2 87 (by decide +kernel) rfl
theorem wd_328 : (.instanceMethod y_Q_feed : Cond) ∈ tbg := tbg_c2 88 (by decide +kernel) rfl
theorem wd_329 : (.selects "QuotaLaws" y_Q_feed y_Q_feed : Cond) ∈ tbg := tbg_c2 89 (by decide +kernel) rfl
set_option maxRecDepth 100000 in
theorem wd_330 : (.code y_Q_feed prog_1_method_2_code 2 (some .int) : Cond) ∈ tbg := tbg_c2 90 rfl rfl
theorem wd_331 : (.methodLink "QuotaLaws" 62 y_Q_isWithin : Cond) ∈ tbg := tbg_c2 91 (by decide +kernel) rfl
theorem wd_332 : (.static y_Q_isWithin : Cond) ∈ tbg := tbg_c2 92 (by decide +kernel) rfl
set_option maxRecDepth 100000 in
theorem wd_333 : (.code y_Q_isWithin prog_1_method_41_code 3 (some .boolean) : Cond) ∈ tbg := tbg_c2 93 rfl rfl
theorem wd_334 : (.methodLink "QuotaLaws" 66 y_Reader_append : Cond) ∈ tbg := tbg_c2 94 (by decide +kernel) rfl
theorem wd_335 : (.instanceMethod y_Reader_append : Cond) ∈ tbg := tbg_c2 95 (by decide +kernel) rfl
theorem wd_336 : (.selects "QuotaLaws$Reader" y_Reader_append y_Reader_append : Cond) ∈ tbg := tbg_c2 96 (by decide +kernel) rfl
set_option maxRecDepth 100000 in
theorem wd_337 : (.code y_Reader_append prog_4_method_2_code 2 (some .boolean) : Cond) ∈ tbg := tbg_c2 97 rfl rfl
theorem wd_338 : (.methodLink "QuotaLawsLaw" 18 y_Q_end : Cond) ∈ tbg := tbg_c2 98 (by decide +kernel) rfl
theorem wd_339 : (.instanceMethod y_Q_end : Cond) ∈ tbg := tbg_c2 99 (by decide +kernel) rfl
theorem wd_340 : (.selects "QuotaLaws" y_Q_end y_Q_end : Cond) ∈ tbg := tbg_c2 100 (by decide +kernel) rfl
set_option maxRecDepth 100000 in
theorem wd_341 : (.code y_Q_end prog_1_method_3_code 3 (some .int) : Cond) ∈ tbg := tbg_c2 101 rfl rfl
theorem wd_342 : (.methodLink "QuotaLawsLaw" 22 y_Q_text : Cond) ∈ tbg := tbg_c2 102 (by decide +kernel) rfl
theorem wd_343 : (.instanceMethod y_Q_text : Cond) ∈ tbg := tbg_c2 103 (by decide +kernel) rfl
theorem wd_344 : (.selects "QuotaLaws" y_Q_text y_Q_text : Cond) ∈ tbg := tbg_c2 104 (by decide +kernel) rfl
set_option maxRecDepth 100000 in
theorem wd_345 : (.code y_Q_text prog_1_method_4_code 3 (some .int) : Cond) ∈ tbg := tbg_c2 105 rfl rfl
theorem wd_346 : (.methodLink "QuotaLaws" 74 y_Reader_readInto : Cond) ∈ tbg := tbg_c2 106 (by decide +kernel) rfl
theorem wd_347 : (.instanceMethod y_Reader_readInto : Cond) ∈ tbg := tbg_c2 107 (by decide +kernel) rfl
theorem wd_348 : (.selects "QuotaLaws$Reader" y_Reader_readInto y_Reader_readInto : Cond) ∈ tbg := tbg_c2 108 (by decide +kernel) rfl
set_option maxRecDepth 100000 in
theorem wd_349 : (.code y_Reader_readInto prog_4_method_3_code 4 (some .boolean) : Cond) ∈ tbg := tbg_c2 109 rfl rfl
theorem wd_350 : (.methodLink "QuotaLaws$Reader" 19 y_Realm_empty : Cond) ∈ tbg := tbg_c2 110 (by decide +kernel) rfl
theorem wd_351 : (.instanceMethod y_Realm_empty : Cond) ∈ tbg := tbg_c2 111 (by decide +kernel) rfl
theorem wd_352 : (.selects "QuotaLaws$Realm" y_Realm_empty y_Realm_empty : Cond) ∈ tbg := tbg_c2 112 (by decide +kernel) rfl
set_option maxRecDepth 100000 in
theorem wd_353 : (.code y_Realm_empty prog_5_method_2_code 1 none : Cond) ∈ tbg := tbg_c2 113 rfl rfl
theorem wd_354 : (.methodLink "QuotaLaws$Realm" 77 y_Arrays_fillI : Cond) ∈ tbg := tbg_c2 114 (by decide +kernel) rfl
theorem wd_355 : (.static y_Arrays_fillI : Cond) ∈ tbg := tbg_c2 115 (by decide +kernel) rfl
set_option maxRecDepth 100000 in
theorem wd_356 : (.code y_Arrays_fillI prog_17_method_103_code 4 none : Cond) ∈ tbg := tbg_c2 116 rfl rfl
theorem wd_357 : (.methodLink "QuotaLaws$Reader" 36 y_Reader_takeToken : Cond) ∈ tbg := tbg_c2 117 (by decide +kernel) rfl
theorem wd_359 : (.instanceMethod y_Reader_takeToken : Cond) ∈ tbg := tbg_c2 119 (by decide +kernel) rfl
set_option maxRecDepth 100000 in
theorem wd_360 : (.code y_Reader_takeToken prog_4_method_17_code 1 (some .boolean) : Cond) ∈ tbg := tbg_c2 120 rfl rfl
theorem wd_361 : (.methodLink "QuotaLaws$Reader" 176 y_Reader_passRun : Cond) ∈ tbg := tbg_c2 121 (by decide +kernel) rfl
theorem wd_363 : (.instanceMethod y_Reader_passRun : Cond) ∈ tbg := tbg_c2 123 (by decide +kernel) rfl
set_option maxRecDepth 100000 in
theorem wd_364 : (.code y_Reader_passRun prog_4_method_19_code 3 none : Cond) ∈ tbg := tbg_c2 124 rfl rfl
theorem wd_365 : (.methodLink "QuotaLaws$Reader" 180 y_Reader_kindHere : Cond) ∈ tbg := tbg_c2 125 (by decide +kernel) rfl
theorem wd_367 : (.instanceMethod y_Reader_kindHere : Cond) ∈ tbg := tbg_c2 127 (by decide +kernel) rfl
set_option maxRecDepth 100000 in
theorem wd_368 : (.code y_Reader_kindHere prog_4_method_18_code 2 (some .int) : Cond) ∈ tbg := tbg_c2 128 rfl rfl
theorem wd_369 : (.methodLink "QuotaLaws$Reader" 183 y_Reader_valueOfRun : Cond) ∈ tbg := tbg_c2 129 (by decide +kernel) rfl
theorem wd_371 : (.instanceMethod y_Reader_valueOfRun : Cond) ∈ tbg := tbg_c2 131 (by decide +kernel) rfl
set_option maxRecDepth 100000 in
theorem wd_372 : (.code y_Reader_valueOfRun prog_4_method_20_code 3 (some .int) : Cond) ∈ tbg := tbg_c2 132 rfl rfl
theorem wd_373 : (.methodLink "QuotaLaws$Reader" 50 y_Reader_fail : Cond) ∈ tbg := tbg_c2 133 (by decide +kernel) rfl
theorem wd_375 : (.instanceMethod y_Reader_fail : Cond) ∈ tbg := tbg_c2 135 (by decide +kernel) rfl
set_option maxRecDepth 100000 in
theorem wd_376 : (.code y_Reader_fail prog_4_method_21_code 3 (some .boolean) : Cond) ∈ tbg := tbg_c2 136 rfl rfl
theorem wd_377 : (.methodLink "QuotaLaws$Reader" 43 y_Reader_takeLine : Cond) ∈ tbg := tbg_c2 137 (by decide +kernel) rfl
theorem wd_379 : (.instanceMethod y_Reader_takeLine : Cond) ∈ tbg := tbg_c2 139 (by decide +kernel) rfl
set_option maxRecDepth 100000 in
theorem wd_380 : (.code y_Reader_takeLine prog_4_method_4_code 2 (some .boolean) : Cond) ∈ tbg := tbg_c2 140 rfl rfl
theorem wd_382 : (.methodLink "QuotaLaws$Reader" 56 y_Reader_isWord : Cond) ∈ tbg := tbg_c2 142 (by decide +kernel) rfl
theorem wd_384 : (.instanceMethod y_Reader_isWord : Cond) ∈ tbg := tbg_c2 144 (by decide +kernel) rfl
set_option maxRecDepth 100000 in
theorem wd_385 : (.code y_Reader_isWord prog_4_method_16_code 3 (some .boolean) : Cond) ∈ tbg := tbg_c2 145 rfl rfl
theorem wd_386 : (.methodLink "QuotaLaws$Reader" 167 y_String_length : Cond) ∈ tbg := tbg_c2 146 (by decide +kernel) rfl
theorem wd_387 : (.instanceMethod y_String_length : Cond) ∈ tbg := tbg_c2 147 (by decide +kernel) rfl
theorem wd_388 : (.selects "java/lang/String" y_String_length y_String_length : Cond) ∈ tbg := tbg_c2 148 (by decide +kernel) rfl
set_option maxRecDepth 100000 in
theorem wd_389 : (.code y_String_length prog_13_method_54_code 1 (some .int) : Cond) ∈ tbg := tbg_c2 149 rfl rfl
theorem wd_390 : (.methodLink "java/lang/String" 335 y_String_coder : Cond) ∈ tbg := tbg_c2 150 (by decide +kernel) rfl
theorem wd_391 : (.instanceMethod y_String_coder : Cond) ∈ tbg := tbg_c2 151 (by decide +kernel) rfl
theorem wd_392 : (.selects "java/lang/String" y_String_coder y_String_coder : Cond) ∈ tbg := tbg_c2 152 (by decide +kernel) rfl
set_option maxRecDepth 100000 in
theorem wd_393 : (.code y_String_coder prog_13_method_152_code 1 (some .byte) : Cond) ∈ tbg := tbg_c2 153 rfl rfl
theorem wd_394 : (.fieldLink "java/lang/String" 38 "java/lang/String" "COMPACT_STRINGS" "Z" : Cond) ∈ tbg := tbg_c2 154 (by decide +kernel) rfl
theorem wd_396 : (.methodLink "QuotaLaws$Reader" 172 y_String_charAt : Cond) ∈ tbg := tbg_c2 156 (by decide +kernel) rfl
theorem wd_397 : (.instanceMethod y_String_charAt : Cond) ∈ tbg := tbg_c2 157 (by decide +kernel) rfl
theorem wd_398 : (.selects "java/lang/String" y_String_charAt y_String_charAt : Cond) ∈ tbg := tbg_c2 158 (by decide +kernel) rfl
set_option maxRecDepth 100000 in
theorem wd_399 : (.code y_String_charAt prog_13_method_56_code 2 (some .char) : Cond) ∈ tbg := tbg_c2 159 rfl rfl
theorem wd_400 : (.methodLink "java/lang/String" 492 y_String_isLatin1 : Cond) ∈ tbg := tbg_c2 160 (by decide +kernel) rfl
theorem wd_401 : (.instanceMethod y_String_isLatin1 : Cond) ∈ tbg := tbg_c2 161 (by decide +kernel) rfl
theorem wd_402 : (.selects "java/lang/String" y_String_isLatin1 y_String_isLatin1 : Cond) ∈ tbg := tbg_c2 162 (by decide +kernel) rfl
set_option maxRecDepth 100000 in
theorem wd_403 : (.code y_String_isLatin1 prog_13_method_154_code 1 (some .boolean) : Cond) ∈ tbg := tbg_c2 163 rfl rfl
theorem wd_404 : (.methodLink "java/lang/String" 495 y_StringLatin1_charAt : Cond) ∈ tbg := tbg_c2 164 (by decide +kernel) rfl
theorem wd_405 : (.static y_StringLatin1_charAt : Cond) ∈ tbg := tbg_c2 165 (by decide +kernel) rfl
set_option maxRecDepth 100000 in
theorem wd_406 : (.code y_StringLatin1_charAt prog_14_method_2_code 2 (some .char) : Cond) ∈ tbg := tbg_c2 166 rfl rfl
theorem wd_407 : (.methodLink "java/lang/StringLatin1" 9 y_String_checkIndex : Cond) ∈ tbg := tbg_c2 167 (by decide +kernel) rfl
theorem wd_408 : (.static y_String_checkIndex : Cond) ∈ tbg := tbg_c2 168 (by decide +kernel) rfl
set_option maxRecDepth 100000 in
theorem wd_409 : (.code y_String_checkIndex prog_13_method_155_code 2 none : Cond) ∈ tbg := tbg_c2 169 rfl rfl
theorem wd_410 : (.fieldLink "java/lang/String" 1053 "jdk/internal/util/Preconditions" "SIOOBE_FORMATTER" "Ljava/util/function/BiFunction;" : Cond) ∈ tbg := tbg_c2 170 (by decide +kernel) rfl
theorem wd_412 : (.methodLink "java/lang/String" 1059 y_Preconditions_checkIndex : Cond) ∈ tbg := tbg_c2 172 (by decide +kernel) rfl
theorem wd_413 : (.static y_Preconditions_checkIndex : Cond) ∈ tbg := tbg_c2 173 (by decide +kernel) rfl
set_option maxRecDepth 100000 in
theorem wd_414 : (.code y_Preconditions_checkIndex prog_18_method_11_code 3 (some .int) : Cond) ∈ tbg := tbg_c2 174 rfl rfl
theorem wd_415 : (.methodLink "java/lang/String" 498 y_StringUTF16_charAt : Cond) ∈ tbg := tbg_c2 175 (by decide +kernel) rfl
theorem wd_434 : (.methodLink "QuotaLaws$Reader" 63 y_Reader_takeLaw : Cond) ∈ tbg := tbg_c2 194 (by decide +kernel) rfl
theorem wd_436 : (.instanceMethod y_Reader_takeLaw : Cond) ∈ tbg := tbg_c2 196 (by decide +kernel) rfl
set_option maxRecDepth 100000 in
theorem wd_437 : (.code y_Reader_takeLaw prog_4_method_5_code 3 (some .boolean) : Cond) ∈ tbg := tbg_c2 197 rfl rfl
theorem wd_438 : (.methodLink "QuotaLaws$Reader" 95 y_Reader_takeNumber : Cond) ∈ tbg := tbg_c2 198 (by decide +kernel) rfl
theorem wd_440 : (.instanceMethod y_Reader_takeNumber : Cond) ∈ tbg := tbg_c2 200 (by decide +kernel) rfl
set_option maxRecDepth 100000 in
theorem wd_441 : (.code y_Reader_takeNumber prog_4_method_13_code 3 (some .boolean) : Cond) ∈ tbg := tbg_c2 201 rfl rfl
theorem wd_442 : (.methodLink "QuotaLaws$Reader" 120 y_Reader_isBounded : Cond) ∈ tbg := tbg_c2 202 (by decide +kernel) rfl
theorem wd_444 : (.instanceMethod y_Reader_isBounded : Cond) ∈ tbg := tbg_c2 204 (by decide +kernel) rfl
set_option maxRecDepth 100000 in
theorem wd_445 : (.code y_Reader_isBounded prog_4_method_14_code 3 (some .boolean) : Cond) ∈ tbg := tbg_c2 205 rfl rfl
theorem wd_446 : (.methodLinkNest "QuotaLaws$Reader" 163 y_Q_isWithin "QuotaLaws" : Cond) ∈ nests := nests_c2 206 (by decide +kernel) rfl
theorem wd_447 : (.methodLink "QuotaLaws$Reader" 101 y_Reader_putInto : Cond) ∈ tbg := tbg_c2 207 (by decide +kernel) rfl
theorem wd_449 : (.instanceMethod y_Reader_putInto : Cond) ∈ tbg := tbg_c2 209 (by decide +kernel) rfl
set_option maxRecDepth 100000 in
theorem wd_450 : (.code y_Reader_putInto prog_4_method_12_code 3 (some .boolean) : Cond) ∈ tbg := tbg_c2 210 rfl rfl
theorem wd_451 : (.methodLink "QuotaLaws$Reader" 114 y_Reader_takeCarried : Cond) ∈ tbg := tbg_c2 211 (by decide +kernel) rfl
theorem wd_453 : (.instanceMethod y_Reader_takeCarried : Cond) ∈ tbg := tbg_c2 213 (by decide +kernel) rfl
set_option maxRecDepth 100000 in
theorem wd_454 : (.code y_Reader_takeCarried prog_4_method_6_code 3 (some .boolean) : Cond) ∈ tbg := tbg_c2 214 rfl rfl
theorem wd_455 : (.methodLink "QuotaLaws$Reader" 117 y_Reader_isStop : Cond) ∈ tbg := tbg_c2 215 (by decide +kernel) rfl
theorem wd_457 : (.instanceMethod y_Reader_isStop : Cond) ∈ tbg := tbg_c2 217 (by decide +kernel) rfl
set_option maxRecDepth 100000 in
theorem wd_458 : (.code y_Reader_isStop prog_4_method_15_code 1 (some .boolean) : Cond) ∈ tbg := tbg_c2 218 rfl rfl
theorem wd_460 : (.methodLink "QuotaLaws$Reader" 72 y_Reader_takeOne : Cond) ∈ tbg := tbg_c2 220 (by decide +kernel) rfl
theorem wd_462 : (.instanceMethod y_Reader_takeOne : Cond) ∈ tbg := tbg_c2 222 (by decide +kernel) rfl
set_option maxRecDepth 100000 in
theorem wd_463 : (.code y_Reader_takeOne prog_4_method_7_code 5 (some .boolean) : Cond) ∈ tbg := tbg_c2 223 rfl rfl
theorem wd_464 : (.methodLink "QuotaLaws$Reader" 141 y_Reader_addLaw : Cond) ∈ tbg := tbg_c2 224 (by decide +kernel) rfl
theorem wd_466 : (.instanceMethod y_Reader_addLaw : Cond) ∈ tbg := tbg_c2 226 (by decide +kernel) rfl
set_option maxRecDepth 100000 in
theorem wd_467 : (.code y_Reader_addLaw prog_4_method_10_code 3 (some .boolean) : Cond) ∈ tbg := tbg_c2 227 rfl rfl
theorem wd_468 : (.methodLinkNest "QuotaLaws$Reader" 150 y_Q_hasBit "QuotaLaws" : Cond) ∈ nests := nests_c2 228 (by decide +kernel) rfl
theorem wd_469 : (.static y_Q_hasBit : Cond) ∈ tbg := tbg_c2 229 (by decide +kernel) rfl
set_option maxRecDepth 100000 in
theorem wd_470 : (.code y_Q_hasBit prog_1_method_42_code 2 (some .boolean) : Cond) ∈ tbg := tbg_c2 230 rfl rfl
theorem wd_472 : (.methodLink "QuotaLaws$Reader" 77 y_Reader_takeWant : Cond) ∈ tbg := tbg_c2 232 (by decide +kernel) rfl
theorem wd_474 : (.instanceMethod y_Reader_takeWant : Cond) ∈ tbg := tbg_c2 234 (by decide +kernel) rfl
set_option maxRecDepth 100000 in
theorem wd_475 : (.code y_Reader_takeWant prog_4_method_8_code 3 (some .boolean) : Cond) ∈ tbg := tbg_c2 235 rfl rfl
theorem wd_477 : (.methodLink "QuotaLaws$Reader" 82 y_Reader_takeWatch : Cond) ∈ tbg := tbg_c2 237 (by decide +kernel) rfl
theorem wd_479 : (.instanceMethod y_Reader_takeWatch : Cond) ∈ tbg := tbg_c2 239 (by decide +kernel) rfl
set_option maxRecDepth 100000 in
theorem wd_480 : (.code y_Reader_takeWatch prog_4_method_9_code 2 (some .boolean) : Cond) ∈ tbg := tbg_c3 0 rfl rfl
theorem wd_481 : (.methodLink "QuotaLaws$Reader" 47 y_Reader_allThere : Cond) ∈ tbg := tbg_c3 1 (by decide +kernel) rfl
theorem wd_482 : (.static y_Reader_allThere : Cond) ∈ tbg := tbg_c3 2 (by decide +kernel) rfl
set_option maxRecDepth 100000 in
theorem wd_483 : (.code y_Reader_allThere prog_4_method_11_code 4 (some .boolean) : Cond) ∈ tbg := tbg_c3 3 rfl rfl
theorem wd_484 : (.methodLinkNest "QuotaLaws$Reader" 153 y_Q_isPart "QuotaLaws" : Cond) ∈ nests := nests_c3 4 (by decide +kernel) rfl
theorem wd_485 : (.static y_Q_isPart : Cond) ∈ tbg := tbg_c3 5 (by decide +kernel) rfl
set_option maxRecDepth 100000 in
theorem wd_486 : (.code y_Q_isPart prog_1_method_45_code 2 (some .boolean) : Cond) ∈ tbg := tbg_c3 6 rfl rfl
theorem wd_487 : (.methodLink "QuotaLaws$Reader" 156 y_Realm_hasLaw : Cond) ∈ tbg := tbg_c3 7 (by decide +kernel) rfl
theorem wd_488 : (.instanceMethod y_Realm_hasLaw : Cond) ∈ tbg := tbg_c3 8 (by decide +kernel) rfl
theorem wd_489 : (.selects "QuotaLaws$Realm" y_Realm_hasLaw y_Realm_hasLaw : Cond) ∈ tbg := tbg_c3 9 (by decide +kernel) rfl
set_option maxRecDepth 100000 in
theorem wd_490 : (.code y_Realm_hasLaw prog_5_method_4_code 2 (some .boolean) : Cond) ∈ tbg := tbg_c3 10 rfl rfl
theorem wd_491 : (.methodLink "QuotaLaws$Reader" 160 y_Realm_hasOne : Cond) ∈ tbg := tbg_c3 11 (by decide +kernel) rfl
theorem wd_492 : (.instanceMethod y_Realm_hasOne : Cond) ∈ tbg := tbg_c3 12 (by decide +kernel) rfl
theorem wd_493 : (.selects "QuotaLaws$Realm" y_Realm_hasOne y_Realm_hasOne : Cond) ∈ tbg := tbg_c3 13 (by decide +kernel) rfl
set_option maxRecDepth 100000 in
theorem wd_494 : (.code y_Realm_hasOne prog_5_method_5_code 2 (some .boolean) : Cond) ∈ tbg := tbg_c3 14 rfl rfl
theorem wd_495 : (.methodLink "QuotaLaws" 81 y_Realm_copyFrom : Cond) ∈ tbg := tbg_c3 15 (by decide +kernel) rfl
theorem wd_496 : (.instanceMethod y_Realm_copyFrom : Cond) ∈ tbg := tbg_c3 16 (by decide +kernel) rfl
theorem wd_497 : (.selects "QuotaLaws$Realm" y_Realm_copyFrom y_Realm_copyFrom : Cond) ∈ tbg := tbg_c3 17 (by decide +kernel) rfl
set_option maxRecDepth 100000 in
theorem wd_498 : (.code y_Realm_copyFrom prog_5_method_3_code 2 none : Cond) ∈ tbg := tbg_c3 18 rfl rfl
theorem wd_499 : (.methodLink "QuotaLaws$Realm" 83 arraycopyName : Cond) ∈ tbg := tbg_c3 19 (by decide +kernel) rfl
theorem wd_500 : (.static arraycopyName : Cond) ∈ tbg := tbg_c3 20 (by decide +kernel) rfl
theorem wd_501 : (.native arraycopyName : Cond) ∈ tbg := tbg_c3 21 (by decide +kernel) rfl
theorem wd_502 : (.methodLink "QuotaLaws$Realm" 89 y_Sightings_copyFrom : Cond) ∈ tbg := tbg_c3 22 (by decide +kernel) rfl
theorem wd_503 : (.instanceMethod y_Sightings_copyFrom : Cond) ∈ tbg := tbg_c3 23 (by decide +kernel) rfl
theorem wd_504 : (.selects "QuotaLaws$Sightings" y_Sightings_copyFrom y_Sightings_copyFrom : Cond) ∈ tbg := tbg_c3 24 (by decide +kernel) rfl
set_option maxRecDepth 100000 in
theorem wd_505 : (.code y_Sightings_copyFrom prog_7_method_4_code 2 none : Cond) ∈ tbg := tbg_c3 25 rfl rfl
theorem wd_506 : (.methodLink "QuotaLaws$Sightings" 25 arraycopyName : Cond) ∈ tbg := tbg_c3 26 (by decide +kernel) rfl
theorem wd_507 : (.methodLink "QuotaLawsLaw" 27 y_Q_fault : Cond) ∈ tbg := tbg_c3 27 (by decide +kernel) rfl
theorem wd_508 : (.instanceMethod y_Q_fault : Cond) ∈ tbg := tbg_c3 28 (by decide +kernel) rfl
theorem wd_509 : (.selects "QuotaLaws" y_Q_fault y_Q_fault : Cond) ∈ tbg := tbg_c3 29 (by decide +kernel) rfl
set_option maxRecDepth 100000 in
theorem wd_510 : (.code y_Q_fault prog_1_method_5_code 1 (some .int) : Cond) ∈ tbg := tbg_c3 30 rfl rfl
theorem wd_511 : (.methodLink "QuotaLawsLaw" 31 y_Q_rule : Cond) ∈ tbg := tbg_c3 31 (by decide +kernel) rfl
theorem wd_512 : (.instanceMethod y_Q_rule : Cond) ∈ tbg := tbg_c3 32 (by decide +kernel) rfl
theorem wd_513 : (.selects "QuotaLaws" y_Q_rule y_Q_rule : Cond) ∈ tbg := tbg_c3 33 (by decide +kernel) rfl
set_option maxRecDepth 100000 in
theorem wd_514 : (.code y_Q_rule prog_1_method_6_code 2 (some .int) : Cond) ∈ tbg := tbg_c3 34 rfl rfl
theorem wd_515 : (.methodLink "QuotaLawsLaw" 35 y_Q_law : Cond) ∈ tbg := tbg_c3 35 (by decide +kernel) rfl
theorem wd_516 : (.instanceMethod y_Q_law : Cond) ∈ tbg := tbg_c3 36 (by decide +kernel) rfl
theorem wd_517 : (.selects "QuotaLaws" y_Q_law y_Q_law : Cond) ∈ tbg := tbg_c3 37 (by decide +kernel) rfl
set_option maxRecDepth 100000 in
theorem wd_518 : (.code y_Q_law prog_1_method_7_code 3 (some .int) : Cond) ∈ tbg := tbg_c3 38 rfl rfl
theorem wd_519 : (.methodLink "QuotaLaws" 109 y_Realm_hasLaw : Cond) ∈ tbg := tbg_c3 39 (by decide +kernel) rfl
theorem wd_520 : (.methodLink "QuotaLaws" 128 y_Realm_needOf : Cond) ∈ tbg := tbg_c3 40 (by decide +kernel) rfl
theorem wd_521 : (.instanceMethod y_Realm_needOf : Cond) ∈ tbg := tbg_c3 41 (by decide +kernel) rfl
theorem wd_522 : (.selects "QuotaLaws$Realm" y_Realm_needOf y_Realm_needOf : Cond) ∈ tbg := tbg_c3 42 (by decide +kernel) rfl
set_option maxRecDepth 100000 in
theorem wd_523 : (.code y_Realm_needOf prog_5_method_10_code 4 (some .int) : Cond) ∈ tbg := tbg_c3 43 rfl rfl
theorem wd_524 : (.methodLinkNest "QuotaLaws$Realm" 104 y_Q_hasBit "QuotaLaws" : Cond) ∈ nests := nests_c3 44 (by decide +kernel) rfl
theorem wd_525 : (.methodLink "QuotaLaws$Realm" 108 y_Realm_brokenBy : Cond) ∈ tbg := tbg_c3 45 (by decide +kernel) rfl
theorem wd_526 : (.instanceMethod y_Realm_brokenBy : Cond) ∈ tbg := tbg_c3 46 (by decide +kernel) rfl
theorem wd_527 : (.selects "QuotaLaws$Realm" y_Realm_brokenBy y_Realm_brokenBy : Cond) ∈ tbg := tbg_c3 47 (by decide +kernel) rfl
set_option maxRecDepth 100000 in
theorem wd_528 : (.code y_Realm_brokenBy prog_5_method_7_code 3 (some .int) : Cond) ∈ tbg := tbg_c3 48 rfl rfl
theorem wd_529 : (.methodLink "QuotaLaws$Realm" 112 Lib.Math.max.name : Cond) ∈ tbg := tbg_c3 49 (by decide +kernel) rfl
theorem wd_530 : (.static Lib.Math.max.name : Cond) ∈ tbg := tbg_c3 50 (by decide +kernel) rfl
set_option maxRecDepth 100000 in
theorem wd_531 : (.code Lib.Math.max.name Lib.Math.max.code 2 (some .int) : Cond) ∈ tbg := tbg_c3 51 rfl rfl
theorem wd_532 : (.methodLink "QuotaLaws" 132 y_Realm_chainOf : Cond) ∈ tbg := tbg_c3 52 (by decide +kernel) rfl
theorem wd_533 : (.instanceMethod y_Realm_chainOf : Cond) ∈ tbg := tbg_c3 53 (by decide +kernel) rfl
theorem wd_534 : (.selects "QuotaLaws$Realm" y_Realm_chainOf y_Realm_chainOf : Cond) ∈ tbg := tbg_c3 54 (by decide +kernel) rfl
set_option maxRecDepth 100000 in
theorem wd_535 : (.code y_Realm_chainOf prog_5_method_13_code 5 (some .int) : Cond) ∈ tbg := tbg_c3 55 rfl rfl
theorem wd_536 : (.methodLink "QuotaLaws$Realm" 97 y_Realm_hasLaw : Cond) ∈ tbg := tbg_c3 56 (by decide +kernel) rfl
theorem wd_537 : (.methodLink "QuotaLawsLaw" 40 y_Q_one : Cond) ∈ tbg := tbg_c3 57 (by decide +kernel) rfl
theorem wd_538 : (.instanceMethod y_Q_one : Cond) ∈ tbg := tbg_c3 58 (by decide +kernel) rfl
theorem wd_539 : (.selects "QuotaLaws" y_Q_one y_Q_one : Cond) ∈ tbg := tbg_c3 59 (by decide +kernel) rfl
set_option maxRecDepth 100000 in
theorem wd_540 : (.code y_Q_one prog_1_method_8_code 3 (some .int) : Cond) ∈ tbg := tbg_c3 60 rfl rfl
theorem wd_541 : (.methodLink "QuotaLaws" 135 y_Realm_hasOne : Cond) ∈ tbg := tbg_c3 61 (by decide +kernel) rfl
theorem wd_542 : (.methodLink "QuotaLaws" 156 y_Realm_brokenByOne : Cond) ∈ tbg := tbg_c3 62 (by decide +kernel) rfl
theorem wd_543 : (.instanceMethod y_Realm_brokenByOne : Cond) ∈ tbg := tbg_c3 63 (by decide +kernel) rfl
theorem wd_544 : (.selects "QuotaLaws$Realm" y_Realm_brokenByOne y_Realm_brokenByOne : Cond) ∈ tbg := tbg_c3 64 (by decide +kernel) rfl
set_option maxRecDepth 100000 in
theorem wd_545 : (.code y_Realm_brokenByOne prog_5_method_8_code 4 (some .int) : Cond) ∈ tbg := tbg_c3 65 rfl rfl
theorem wd_546 : (.methodLink "QuotaLaws" 159 y_Realm_breakable : Cond) ∈ tbg := tbg_c3 66 (by decide +kernel) rfl
theorem wd_547 : (.instanceMethod y_Realm_breakable : Cond) ∈ tbg := tbg_c3 67 (by decide +kernel) rfl
theorem wd_548 : (.selects "QuotaLaws$Realm" y_Realm_breakable y_Realm_breakable : Cond) ∈ tbg := tbg_c3 68 (by decide +kernel) rfl
set_option maxRecDepth 100000 in
theorem wd_549 : (.code y_Realm_breakable prog_5_method_18_code 4 (some .int) : Cond) ∈ tbg := tbg_c3 69 rfl rfl
theorem wd_550 : (.methodLink "QuotaLaws$Realm" 129 y_Realm_ableAlone : Cond) ∈ tbg := tbg_c3 70 (by decide +kernel) rfl
theorem wd_551 : (.instanceMethod y_Realm_ableAlone : Cond) ∈ tbg := tbg_c3 71 (by decide +kernel) rfl
theorem wd_552 : (.selects "QuotaLaws$Realm" y_Realm_ableAlone y_Realm_ableAlone : Cond) ∈ tbg := tbg_c3 72 (by decide +kernel) rfl
set_option maxRecDepth 100000 in
theorem wd_553 : (.code y_Realm_ableAlone prog_5_method_16_code 3 (some .int) : Cond) ∈ tbg := tbg_c3 73 rfl rfl
theorem wd_554 : (.methodLink "QuotaLaws$Realm" 120 y_Realm_roomOf : Cond) ∈ tbg := tbg_c3 74 (by decide +kernel) rfl
theorem wd_555 : (.instanceMethod y_Realm_roomOf : Cond) ∈ tbg := tbg_c3 75 (by decide +kernel) rfl
theorem wd_556 : (.selects "QuotaLaws$Realm" y_Realm_roomOf y_Realm_roomOf : Cond) ∈ tbg := tbg_c3 76 (by decide +kernel) rfl
set_option maxRecDepth 100000 in
theorem wd_557 : (.code y_Realm_roomOf prog_5_method_14_code 4 (some .int) : Cond) ∈ tbg := tbg_c3 77 rfl rfl
theorem wd_558 : (.methodLink "QuotaLaws$Realm" 123 y_Realm_timeLeft : Cond) ∈ tbg := tbg_c3 78 (by decide +kernel) rfl
theorem wd_559 : (.instanceMethod y_Realm_timeLeft : Cond) ∈ tbg := tbg_c3 79 (by decide +kernel) rfl
theorem wd_560 : (.selects "QuotaLaws$Realm" y_Realm_timeLeft y_Realm_timeLeft : Cond) ∈ tbg := tbg_c3 80 (by decide +kernel) rfl
set_option maxRecDepth 100000 in
theorem wd_561 : (.code y_Realm_timeLeft prog_5_method_15_code 2 (some .int) : Cond) ∈ tbg := tbg_c3 81 rfl rfl
theorem wd_562 : (.methodLink "QuotaLaws$Realm" 100 y_Realm_brokenByOne : Cond) ∈ tbg := tbg_c3 82 (by decide +kernel) rfl
theorem wd_563 : (.methodLink "QuotaLaws$Realm" 126 Lib.Math.min.name : Cond) ∈ tbg := tbg_c3 83 (by decide +kernel) rfl
theorem wd_564 : (.static Lib.Math.min.name : Cond) ∈ tbg := tbg_c3 84 (by decide +kernel) rfl
set_option maxRecDepth 100000 in
theorem wd_565 : (.code Lib.Math.min.name Lib.Math.min.code 2 (some .int) : Cond) ∈ tbg := tbg_c3 85 rfl rfl
theorem wd_566 : (.methodLink "QuotaLawsLaw" 44 y_Q_broken : Cond) ∈ tbg := tbg_c3 86 (by decide +kernel) rfl
theorem wd_567 : (.instanceMethod y_Q_broken : Cond) ∈ tbg := tbg_c3 87 (by decide +kernel) rfl
theorem wd_568 : (.selects "QuotaLaws" y_Q_broken y_Q_broken : Cond) ∈ tbg := tbg_c3 88 (by decide +kernel) rfl
set_option maxRecDepth 100000 in
theorem wd_569 : (.code y_Q_broken prog_1_method_9_code 3 (some .int) : Cond) ∈ tbg := tbg_c3 89 rfl rfl
theorem wd_570 : (.methodLink "QuotaLaws" 162 y_Realm_hasBoth : Cond) ∈ tbg := tbg_c3 90 (by decide +kernel) rfl
theorem wd_571 : (.instanceMethod y_Realm_hasBoth : Cond) ∈ tbg := tbg_c3 91 (by decide +kernel) rfl
theorem wd_572 : (.selects "QuotaLaws$Realm" y_Realm_hasBoth y_Realm_hasBoth : Cond) ∈ tbg := tbg_c3 92 (by decide +kernel) rfl
set_option maxRecDepth 100000 in
theorem wd_573 : (.code y_Realm_hasBoth prog_5_method_6_code 3 (some .boolean) : Cond) ∈ tbg := tbg_c3 93 rfl rfl
theorem wd_574 : (.methodLink "QuotaLaws$Realm" 93 y_Realm_hasOne : Cond) ∈ tbg := tbg_c3 94 (by decide +kernel) rfl
theorem wd_575 : (.methodLink "QuotaLaws" 166 y_Realm_brokenBy : Cond) ∈ tbg := tbg_c3 95 (by decide +kernel) rfl
theorem wd_576 : (.methodLink "QuotaLawsLaw" 48 y_Q_quota : Cond) ∈ tbg := tbg_c3 96 (by decide +kernel) rfl
theorem wd_577 : (.instanceMethod y_Q_quota : Cond) ∈ tbg := tbg_c3 97 (by decide +kernel) rfl
theorem wd_578 : (.selects "QuotaLaws" y_Q_quota y_Q_quota : Cond) ∈ tbg := tbg_c3 98 (by decide +kernel) rfl
set_option maxRecDepth 100000 in
theorem wd_579 : (.code y_Q_quota prog_1_method_10_code 4 (some .int) : Cond) ∈ tbg := tbg_c3 99 rfl rfl
theorem wd_580 : (.methodLink "QuotaLawsLaw" 52 y_Q_carry : Cond) ∈ tbg := tbg_c3 100 (by decide +kernel) rfl
theorem wd_581 : (.instanceMethod y_Q_carry : Cond) ∈ tbg := tbg_c3 101 (by decide +kernel) rfl
theorem wd_582 : (.selects "QuotaLaws" y_Q_carry y_Q_carry : Cond) ∈ tbg := tbg_c3 102 (by decide +kernel) rfl
set_option maxRecDepth 100000 in
theorem wd_583 : (.code y_Q_carry prog_1_method_11_code 4 (some .int) : Cond) ∈ tbg := tbg_c3 103 rfl rfl
theorem wd_584 : (.methodLink "QuotaLawsLaw" 56 y_Q_watch : Cond) ∈ tbg := tbg_c3 104 (by decide +kernel) rfl
theorem wd_585 : (.instanceMethod y_Q_watch : Cond) ∈ tbg := tbg_c3 105 (by decide +kernel) rfl
theorem wd_586 : (.selects "QuotaLaws" y_Q_watch y_Q_watch : Cond) ∈ tbg := tbg_c3 106 (by decide +kernel) rfl
set_option maxRecDepth 100000 in
theorem wd_587 : (.code y_Q_watch prog_1_method_12_code 4 (some .int) : Cond) ∈ tbg := tbg_c3 107 rfl rfl
theorem wd_588 : (.methodLink "QuotaLaws" 170 y_Q_bitOf : Cond) ∈ tbg := tbg_c3 108 (by decide +kernel) rfl
theorem wd_589 : (.static y_Q_bitOf : Cond) ∈ tbg := tbg_c3 109 (by decide +kernel) rfl
set_option maxRecDepth 100000 in
theorem wd_590 : (.code y_Q_bitOf prog_1_method_43_code 2 (some .int) : Cond) ∈ tbg := tbg_c3 110 rfl rfl
theorem wd_591 : (.methodLink "QuotaLaws" 173 y_Q_withBit : Cond) ∈ tbg := tbg_c3 111 (by decide +kernel) rfl
theorem wd_592 : (.static y_Q_withBit : Cond) ∈ tbg := tbg_c3 112 (by decide +kernel) rfl
set_option maxRecDepth 100000 in
theorem wd_593 : (.code y_Q_withBit prog_1_method_44_code 3 (some .int) : Cond) ∈ tbg := tbg_c3 113 rfl rfl
theorem wd_594 : (.methodLink "QuotaLawsLaw" 61 y_Q_time : Cond) ∈ tbg := tbg_c3 114 (by decide +kernel) rfl
theorem wd_595 : (.instanceMethod y_Q_time : Cond) ∈ tbg := tbg_c3 115 (by decide +kernel) rfl
theorem wd_596 : (.selects "QuotaLaws" y_Q_time y_Q_time : Cond) ∈ tbg := tbg_c3 116 (by decide +kernel) rfl
set_option maxRecDepth 100000 in
theorem wd_597 : (.code y_Q_time prog_1_method_13_code 4 (some .int) : Cond) ∈ tbg := tbg_c3 117 rfl rfl
theorem wd_598 : (.methodLink "QuotaLawsLaw" 65 y_Q_refuse : Cond) ∈ tbg := tbg_c3 118 (by decide +kernel) rfl
theorem wd_599 : (.instanceMethod y_Q_refuse : Cond) ∈ tbg := tbg_c3 119 (by decide +kernel) rfl
theorem wd_600 : (.selects "QuotaLaws" y_Q_refuse y_Q_refuse : Cond) ∈ tbg := tbg_c3 120 (by decide +kernel) rfl
set_option maxRecDepth 100000 in
theorem wd_601 : (.code y_Q_refuse prog_1_method_14_code 5 (some .int) : Cond) ∈ tbg := tbg_c3 121 rfl rfl
theorem wd_602 : (.methodLink "QuotaLawsLaw" 70 y_Q_want : Cond) ∈ tbg := tbg_c3 122 (by decide +kernel) rfl
theorem wd_603 : (.instanceMethod y_Q_want : Cond) ∈ tbg := tbg_c3 123 (by decide +kernel) rfl
theorem wd_604 : (.selects "QuotaLaws" y_Q_want y_Q_want : Cond) ∈ tbg := tbg_c3 124 (by decide +kernel) rfl
set_option maxRecDepth 100000 in
theorem wd_605 : (.code y_Q_want prog_1_method_15_code 5 (some .int) : Cond) ∈ tbg := tbg_c3 125 rfl rfl
theorem wd_606 : (.methodLink "QuotaLawsLaw" 74 y_Q_fund : Cond) ∈ tbg := tbg_c3 126 (by decide +kernel) rfl
theorem wd_607 : (.instanceMethod y_Q_fund : Cond) ∈ tbg := tbg_c3 127 (by decide +kernel) rfl
theorem wd_608 : (.selects "QuotaLaws" y_Q_fund y_Q_fund : Cond) ∈ tbg := tbg_c3 128 (by decide +kernel) rfl
set_option maxRecDepth 100000 in
theorem wd_609 : (.code y_Q_fund prog_1_method_16_code 4 (some .int) : Cond) ∈ tbg := tbg_c3 129 rfl rfl
theorem wd_610 : (.methodLink "QuotaLawsLaw" 78 y_Q_revive : Cond) ∈ tbg := tbg_c3 130 (by decide +kernel) rfl
theorem wd_611 : (.instanceMethod y_Q_revive : Cond) ∈ tbg := tbg_c3 131 (by decide +kernel) rfl
theorem wd_612 : (.selects "QuotaLaws" y_Q_revive y_Q_revive : Cond) ∈ tbg := tbg_c3 132 (by decide +kernel) rfl
set_option maxRecDepth 100000 in
theorem wd_613 : (.code y_Q_revive prog_1_method_17_code 2 (some .int) : Cond) ∈ tbg := tbg_c3 133 rfl rfl
theorem wd_614 : (.methodLink "QuotaLaws" 177 y_Q_hasBit : Cond) ∈ tbg := tbg_c3 134 (by decide +kernel) rfl
theorem wd_615 : (.methodLink "QuotaLaws" 180 y_Integer_bitCount : Cond) ∈ tbg := tbg_c3 135 (by decide +kernel) rfl
theorem wd_616 : (.static y_Integer_bitCount : Cond) ∈ tbg := tbg_c3 136 (by decide +kernel) rfl
set_option maxRecDepth 100000 in
theorem wd_617 : (.code y_Integer_bitCount prog_11_method_49_code 1 (some .int) : Cond) ∈ tbg := tbg_c3 137 rfl rfl
theorem wd_618 : (.constant "java/lang/Integer" 265 (1431655765) : Cond) ∈ tbg := tbg_c3 138 (by decide +kernel) rfl
theorem wd_619 : (.constant "java/lang/Integer" 266 (858993459) : Cond) ∈ tbg := tbg_c3 139 (by decide +kernel) rfl
theorem wd_620 : (.constant "java/lang/Integer" 267 (252645135) : Cond) ∈ tbg := tbg_c3 140 (by decide +kernel) rfl
theorem wd_621 : (.methodLink "QuotaLawsLaw" 82 y_Q_breaks : Cond) ∈ tbg := tbg_c3 141 (by decide +kernel) rfl
theorem wd_622 : (.instanceMethod y_Q_breaks : Cond) ∈ tbg := tbg_c3 142 (by decide +kernel) rfl
theorem wd_623 : (.selects "QuotaLaws" y_Q_breaks y_Q_breaks : Cond) ∈ tbg := tbg_c3 143 (by decide +kernel) rfl
set_option maxRecDepth 100000 in
theorem wd_624 : (.code y_Q_breaks prog_1_method_18_code 3 (some .int) : Cond) ∈ tbg := tbg_c3 144 rfl rfl
theorem wd_625 : (.methodLink "QuotaLaws" 185 y_Realm_breakOnce : Cond) ∈ tbg := tbg_c3 145 (by decide +kernel) rfl
theorem wd_626 : (.instanceMethod y_Realm_breakOnce : Cond) ∈ tbg := tbg_c3 146 (by decide +kernel) rfl
theorem wd_627 : (.selects "QuotaLaws$Realm" y_Realm_breakOnce y_Realm_breakOnce : Cond) ∈ tbg := tbg_c3 147 (by decide +kernel) rfl
set_option maxRecDepth 100000 in
theorem wd_628 : (.code y_Realm_breakOnce prog_5_method_19_code 4 (some .int) : Cond) ∈ tbg := tbg_c3 148 rfl rfl
theorem wd_629 : (.methodLink "QuotaLaws$Realm" 132 y_Realm_hasBoth : Cond) ∈ tbg := tbg_c3 149 (by decide +kernel) rfl
theorem wd_630 : (.methodLink "QuotaLaws$Realm" 135 y_Realm_mark : Cond) ∈ tbg := tbg_c3 150 (by decide +kernel) rfl
theorem wd_631 : (.instanceMethod y_Realm_mark : Cond) ∈ tbg := tbg_c3 151 (by decide +kernel) rfl
theorem wd_632 : (.selects "QuotaLaws$Realm" y_Realm_mark y_Realm_mark : Cond) ∈ tbg := tbg_c3 152 (by decide +kernel) rfl
set_option maxRecDepth 100000 in
theorem wd_633 : (.code y_Realm_mark prog_5_method_20_code 4 (some .int) : Cond) ∈ tbg := tbg_c3 153 rfl rfl
theorem wd_634 : (.methodLink "QuotaLawsLaw" 86 y_Q_year : Cond) ∈ tbg := tbg_c3 154 (by decide +kernel) rfl
theorem wd_635 : (.instanceMethod y_Q_year : Cond) ∈ tbg := tbg_c3 155 (by decide +kernel) rfl
theorem wd_636 : (.selects "QuotaLaws" y_Q_year y_Q_year : Cond) ∈ tbg := tbg_c3 156 (by decide +kernel) rfl
set_option maxRecDepth 100000 in
theorem wd_637 : (.code y_Q_year prog_1_method_19_code 1 (some .int) : Cond) ∈ tbg := tbg_c3 157 rfl rfl
theorem wd_638 : (.methodLink "QuotaLaws" 188 y_Realm_endYear : Cond) ∈ tbg := tbg_c3 158 (by decide +kernel) rfl
theorem wd_639 : (.instanceMethod y_Realm_endYear : Cond) ∈ tbg := tbg_c3 159 (by decide +kernel) rfl
theorem wd_640 : (.selects "QuotaLaws$Realm" y_Realm_endYear y_Realm_endYear : Cond) ∈ tbg := tbg_c3 160 (by decide +kernel) rfl
set_option maxRecDepth 100000 in
theorem wd_641 : (.code y_Realm_endYear prog_5_method_22_code 2 (some .int) : Cond) ∈ tbg := tbg_c3 161 rfl rfl
theorem wd_642 : (.methodLink "QuotaLaws$Realm" 141 y_Realm_lapsing : Cond) ∈ tbg := tbg_c3 162 (by decide +kernel) rfl
theorem wd_643 : (.instanceMethod y_Realm_lapsing : Cond) ∈ tbg := tbg_c3 163 (by decide +kernel) rfl
theorem wd_644 : (.selects "QuotaLaws$Realm" y_Realm_lapsing y_Realm_lapsing : Cond) ∈ tbg := tbg_c3 164 (by decide +kernel) rfl
set_option maxRecDepth 100000 in
theorem wd_645 : (.code y_Realm_lapsing prog_5_method_21_code 3 (some .int) : Cond) ∈ tbg := tbg_c3 165 rfl rfl
theorem wd_646 : (.methodLink "QuotaLaws$Realm" 117 y_Realm_needOf : Cond) ∈ tbg := tbg_c3 166 (by decide +kernel) rfl
theorem wd_647 : (.methodLink "QuotaLaws$Realm" 138 y_Realm_chainOf : Cond) ∈ tbg := tbg_c3 167 (by decide +kernel) rfl
theorem wd_648 : (.methodLink "QuotaLawsLaw" 90 y_Q_falls : Cond) ∈ tbg := tbg_c3 168 (by decide +kernel) rfl
theorem wd_649 : (.instanceMethod y_Q_falls : Cond) ∈ tbg := tbg_c3 169 (by decide +kernel) rfl
theorem wd_650 : (.selects "QuotaLaws" y_Q_falls y_Q_falls : Cond) ∈ tbg := tbg_c3 170 (by decide +kernel) rfl
set_option maxRecDepth 100000 in
theorem wd_651 : (.code y_Q_falls prog_1_method_20_code 1 (some .int) : Cond) ∈ tbg := tbg_c3 171 rfl rfl
theorem wd_652 : (.methodLink "QuotaLaws" 192 y_Realm_lapsing : Cond) ∈ tbg := tbg_c3 172 (by decide +kernel) rfl
theorem wd_653 : (.methodLink "QuotaLawsLaw" 94 y_Q_most : Cond) ∈ tbg := tbg_c3 173 (by decide +kernel) rfl
theorem wd_654 : (.instanceMethod y_Q_most : Cond) ∈ tbg := tbg_c3 174 (by decide +kernel) rfl
theorem wd_655 : (.selects "QuotaLaws" y_Q_most y_Q_most : Cond) ∈ tbg := tbg_c3 175 (by decide +kernel) rfl
set_option maxRecDepth 100000 in
theorem wd_656 : (.code y_Q_most prog_1_method_21_code 6 (some .int) : Cond) ∈ tbg := tbg_c3 176 rfl rfl
theorem wd_657 : (.methodLink "QuotaLawsLaw" 98 y_Q_rota : Cond) ∈ tbg := tbg_c3 177 (by decide +kernel) rfl
theorem wd_658 : (.instanceMethod y_Q_rota : Cond) ∈ tbg := tbg_c3 178 (by decide +kernel) rfl
theorem wd_659 : (.selects "QuotaLaws" y_Q_rota y_Q_rota : Cond) ∈ tbg := tbg_c3 179 (by decide +kernel) rfl
set_option maxRecDepth 100000 in
theorem wd_660 : (.code y_Q_rota prog_1_method_22_code 5 (some .int) : Cond) ∈ tbg := tbg_c3 180 rfl rfl
theorem wd_661 : (.methodLink "QuotaLaws" 195 y_Planner_load : Cond) ∈ tbg := tbg_c3 181 (by decide +kernel) rfl
theorem wd_662 : (.instanceMethod y_Planner_load : Cond) ∈ tbg := tbg_c3 182 (by decide +kernel) rfl
theorem wd_663 : (.selects "QuotaLaws$Planner" y_Planner_load y_Planner_load : Cond) ∈ tbg := tbg_c3 183 (by decide +kernel) rfl
set_option maxRecDepth 100000 in
theorem wd_664 : (.code y_Planner_load prog_3_method_2_code 4 none : Cond) ∈ tbg := tbg_c3 184 rfl rfl
theorem wd_665 : (.methodLink "QuotaLaws$Planner" 40 y_Arrays_fillI : Cond) ∈ tbg := tbg_c3 185 (by decide +kernel) rfl
theorem wd_666 : (.methodLink "QuotaLaws$Planner" 46 y_Realm_hasOne : Cond) ∈ tbg := tbg_c3 186 (by decide +kernel) rfl
theorem wd_667 : (.methodLink "QuotaLaws$Planner" 50 y_Realm_timeLeft : Cond) ∈ tbg := tbg_c3 187 (by decide +kernel) rfl
theorem wd_668 : (.methodLink "QuotaLaws$Planner" 54 y_Realm_needOf : Cond) ∈ tbg := tbg_c3 188 (by decide +kernel) rfl
theorem wd_669 : (.methodLink "QuotaLaws$Planner" 60 y_Realm_roomOf : Cond) ∈ tbg := tbg_c3 189 (by decide +kernel) rfl
theorem wd_670 : (.methodLink "QuotaLaws" 198 y_Planner_leastHarm : Cond) ∈ tbg := tbg_c3 190 (by decide +kernel) rfl
theorem wd_671 : (.instanceMethod y_Planner_leastHarm : Cond) ∈ tbg := tbg_c3 191 (by decide +kernel) rfl
theorem wd_672 : (.selects "QuotaLaws$Planner" y_Planner_leastHarm y_Planner_leastHarm : Cond) ∈ tbg := tbg_c3 192 (by decide +kernel) rfl
set_option maxRecDepth 100000 in
theorem wd_673 : (.code y_Planner_leastHarm prog_3_method_7_code 4 (some .int) : Cond) ∈ tbg := tbg_c3 193 rfl rfl
theorem wd_674 : (.constant "QuotaLaws$Planner" 89 (1000000) : Cond) ∈ tbg := tbg_c3 194 (by decide +kernel) rfl
theorem wd_675 : (.methodLink "QuotaLaws$Planner" 90 y_Planner_leftToLast : Cond) ∈ tbg := tbg_c3 195 (by decide +kernel) rfl
theorem wd_677 : (.instanceMethod y_Planner_leftToLast : Cond) ∈ tbg := tbg_c3 197 (by decide +kernel) rfl
set_option maxRecDepth 100000 in
theorem wd_678 : (.code y_Planner_leftToLast prog_3_method_9_code 4 (some .int) : Cond) ∈ tbg := tbg_c3 198 rfl rfl
theorem wd_679 : (.methodLink "QuotaLaws$Planner" 94 y_Planner_stateOf : Cond) ∈ tbg := tbg_c3 199 (by decide +kernel) rfl
theorem wd_680 : (.static y_Planner_stateOf : Cond) ∈ tbg := tbg_c3 200 (by decide +kernel) rfl
set_option maxRecDepth 100000 in
theorem wd_681 : (.code y_Planner_stateOf prog_3_method_10_code 3 (some .int) : Cond) ∈ tbg := tbg_c3 201 rfl rfl
theorem wd_682 : (.methodLink "QuotaLaws$Planner" 97 y_Planner_search : Cond) ∈ tbg := tbg_c3 202 (by decide +kernel) rfl
theorem wd_684 : (.instanceMethod y_Planner_search : Cond) ∈ tbg := tbg_c3 204 (by decide +kernel) rfl
set_option maxRecDepth 100000 in
theorem wd_685 : (.code y_Planner_search prog_3_method_11_code 12 (some .int) : Cond) ∈ tbg := tbg_c3 205 rfl rfl
theorem wd_686 : (.methodLink "QuotaLaws$Planner" 86 Lib.Math.min.name : Cond) ∈ tbg := tbg_c3 206 (by decide +kernel) rfl
theorem wd_687 : (.methodLinkNest "QuotaLaws$Planner" 100 y_Q_isWithin "QuotaLaws" : Cond) ∈ nests := nests_c3 207 (by decide +kernel) rfl
theorem wd_688 : (.methodLink "QuotaLaws" 201 y_Planner_timesInFirst : Cond) ∈ tbg := tbg_c3 208 (by decide +kernel) rfl
theorem wd_689 : (.instanceMethod y_Planner_timesInFirst : Cond) ∈ tbg := tbg_c3 209 (by decide +kernel) rfl
theorem wd_690 : (.selects "QuotaLaws$Planner" y_Planner_timesInFirst y_Planner_timesInFirst : Cond) ∈ tbg := tbg_c3 210 (by decide +kernel) rfl
set_option maxRecDepth 100000 in
theorem wd_691 : (.code y_Planner_timesInFirst prog_3_method_8_code 6 (some .int) : Cond) ∈ tbg := tbg_c3 211 rfl rfl
theorem wd_692 : (.methodLink "QuotaLawsLaw" 102 y_Q_more : Cond) ∈ tbg := tbg_c3 212 (by decide +kernel) rfl
theorem wd_693 : (.instanceMethod y_Q_more : Cond) ∈ tbg := tbg_c3 213 (by decide +kernel) rfl
theorem wd_694 : (.selects "QuotaLaws" y_Q_more y_Q_more : Cond) ∈ tbg := tbg_c3 214 (by decide +kernel) rfl
set_option maxRecDepth 100000 in
theorem wd_695 : (.code y_Q_more prog_1_method_23_code 3 (some .int) : Cond) ∈ tbg := tbg_c3 215 rfl rfl
theorem wd_696 : (.methodLink "QuotaLaws" 204 y_Planner_grant : Cond) ∈ tbg := tbg_c3 216 (by decide +kernel) rfl
theorem wd_697 : (.instanceMethod y_Planner_grant : Cond) ∈ tbg := tbg_c3 217 (by decide +kernel) rfl
theorem wd_698 : (.selects "QuotaLaws$Planner" y_Planner_grant y_Planner_grant : Cond) ∈ tbg := tbg_c3 218 (by decide +kernel) rfl
set_option maxRecDepth 100000 in
theorem wd_699 : (.code y_Planner_grant prog_3_method_3_code 3 none : Cond) ∈ tbg := tbg_c3 219 rfl rfl
theorem wd_700 : (.methodLink "QuotaLaws$Planner" 68 Lib.Math.max.name : Cond) ∈ tbg := tbg_c3 220 (by decide +kernel) rfl
theorem wd_701 : (.methodLink "QuotaLaws" 208 y_Planner_canMeet : Cond) ∈ tbg := tbg_c3 221 (by decide +kernel) rfl
theorem wd_702 : (.instanceMethod y_Planner_canMeet : Cond) ∈ tbg := tbg_c3 222 (by decide +kernel) rfl
theorem wd_703 : (.selects "QuotaLaws$Planner" y_Planner_canMeet y_Planner_canMeet : Cond) ∈ tbg := tbg_c3 223 (by decide +kernel) rfl
set_option maxRecDepth 100000 in
theorem wd_704 : (.code y_Planner_canMeet prog_3_method_4_code 3 (some .boolean) : Cond) ∈ tbg := tbg_c3 224 rfl rfl
theorem wd_705 : (.methodLinkNest "QuotaLaws$Planner" 73 y_Q_isPart "QuotaLaws" : Cond) ∈ nests := nests_c3 225 (by decide +kernel) rfl
theorem wd_706 : (.methodLink "QuotaLaws$Planner" 77 y_Planner_needOfAll : Cond) ∈ tbg := tbg_c3 226 (by decide +kernel) rfl
theorem wd_708 : (.instanceMethod y_Planner_needOfAll : Cond) ∈ tbg := tbg_c3 228 (by decide +kernel) rfl
set_option maxRecDepth 100000 in
theorem wd_709 : (.code y_Planner_needOfAll prog_3_method_5_code 4 (some .int) : Cond) ∈ tbg := tbg_c3 229 rfl rfl
theorem wd_710 : (.methodLinkNest "QuotaLaws$Planner" 83 y_Q_hasBit "QuotaLaws" : Cond) ∈ nests := nests_c3 230 (by decide +kernel) rfl
theorem wd_711 : (.methodLink "QuotaLaws$Planner" 80 y_Planner_givenTo : Cond) ∈ tbg := tbg_c3 231 (by decide +kernel) rfl
theorem wd_713 : (.instanceMethod y_Planner_givenTo : Cond) ∈ tbg := tbg_c3 233 (by decide +kernel) rfl
set_option maxRecDepth 100000 in
theorem wd_714 : (.code y_Planner_givenTo prog_3_method_6_code 6 (some .int) : Cond) ∈ tbg := tbg_c3 234 rfl rfl
theorem wd_715 : (.methodLink "QuotaLawsLaw" 106 y_Q_together : Cond) ∈ tbg := tbg_c3 235 (by decide +kernel) rfl
theorem wd_716 : (.instanceMethod y_Q_together : Cond) ∈ tbg := tbg_c3 236 (by decide +kernel) rfl
theorem wd_717 : (.selects "QuotaLaws" y_Q_together y_Q_together : Cond) ∈ tbg := tbg_c3 237 (by decide +kernel) rfl
set_option maxRecDepth 100000 in
theorem wd_718 : (.code y_Q_together prog_1_method_24_code 5 (some .int) : Cond) ∈ tbg := tbg_c3 238 rfl rfl
theorem wd_719 : (.methodLink "QuotaLaws" 211 y_Q_isPart : Cond) ∈ tbg := tbg_c3 239 (by decide +kernel) rfl
theorem wd_720 : (.methodLink "QuotaLawsLaw" 110 y_Q_kill : Cond) ∈ tbg := tbg_c4 0 (by decide +kernel) rfl
theorem wd_721 : (.instanceMethod y_Q_kill : Cond) ∈ tbg := tbg_c4 1 (by decide +kernel) rfl
theorem wd_722 : (.selects "QuotaLaws" y_Q_kill y_Q_kill : Cond) ∈ tbg := tbg_c4 2 (by decide +kernel) rfl
set_option maxRecDepth 100000 in
theorem wd_723 : (.code y_Q_kill prog_1_method_25_code 6 (some .int) : Cond) ∈ tbg := tbg_c4 3 rfl rfl
theorem wd_724 : (.methodLink "QuotaLaws" 214 y_Realm_ableWithout : Cond) ∈ tbg := tbg_c4 4 (by decide +kernel) rfl
theorem wd_725 : (.instanceMethod y_Realm_ableWithout : Cond) ∈ tbg := tbg_c4 5 (by decide +kernel) rfl
theorem wd_726 : (.selects "QuotaLaws$Realm" y_Realm_ableWithout y_Realm_ableWithout : Cond) ∈ tbg := tbg_c4 6 (by decide +kernel) rfl
set_option maxRecDepth 100000 in
theorem wd_727 : (.code y_Realm_ableWithout prog_5_method_17_code 5 (some .int) : Cond) ∈ tbg := tbg_c4 7 rfl rfl
theorem wd_728 : (.methodLink "QuotaLawsLaw" 114 y_Q_selfish : Cond) ∈ tbg := tbg_c4 8 (by decide +kernel) rfl
theorem wd_729 : (.instanceMethod y_Q_selfish : Cond) ∈ tbg := tbg_c4 9 (by decide +kernel) rfl
theorem wd_730 : (.selects "QuotaLaws" y_Q_selfish y_Q_selfish : Cond) ∈ tbg := tbg_c4 10 (by decide +kernel) rfl
set_option maxRecDepth 100000 in
theorem wd_731 : (.code y_Q_selfish prog_1_method_26_code 3 (some .int) : Cond) ∈ tbg := tbg_c4 11 rfl rfl
theorem wd_732 : (.methodLink "QuotaLaws" 217 y_Realm_eachForHimself : Cond) ∈ tbg := tbg_c4 12 (by decide +kernel) rfl
theorem wd_733 : (.instanceMethod y_Realm_eachForHimself : Cond) ∈ tbg := tbg_c4 13 (by decide +kernel) rfl
theorem wd_734 : (.selects "QuotaLaws$Realm" y_Realm_eachForHimself y_Realm_eachForHimself : Cond) ∈ tbg := tbg_c4 14 (by decide +kernel) rfl
set_option maxRecDepth 100000 in
theorem wd_735 : (.code y_Realm_eachForHimself prog_5_method_24_code 6 (some .int) : Cond) ∈ tbg := tbg_c4 15 rfl rfl
theorem wd_736 : (.methodLink "QuotaLaws$Realm" 145 y_Realm_mostNeeded : Cond) ∈ tbg := tbg_c4 16 (by decide +kernel) rfl
theorem wd_737 : (.instanceMethod y_Realm_mostNeeded : Cond) ∈ tbg := tbg_c4 17 (by decide +kernel) rfl
theorem wd_738 : (.selects "QuotaLaws$Realm" y_Realm_mostNeeded y_Realm_mostNeeded : Cond) ∈ tbg := tbg_c4 18 (by decide +kernel) rfl
set_option maxRecDepth 100000 in
theorem wd_739 : (.code y_Realm_mostNeeded prog_5_method_25_code 6 (some .int) : Cond) ∈ tbg := tbg_c4 19 rfl rfl
theorem wd_740 : (.methodLink "QuotaLaws$Realm" 148 y_Realm_breakable : Cond) ∈ tbg := tbg_c4 20 (by decide +kernel) rfl
theorem wd_741 : (.methodLink "QuotaLaws" 220 y_Realm_met : Cond) ∈ tbg := tbg_c4 21 (by decide +kernel) rfl
theorem wd_742 : (.instanceMethod y_Realm_met : Cond) ∈ tbg := tbg_c4 22 (by decide +kernel) rfl
theorem wd_743 : (.selects "QuotaLaws$Realm" y_Realm_met y_Realm_met : Cond) ∈ tbg := tbg_c4 23 (by decide +kernel) rfl
set_option maxRecDepth 100000 in
theorem wd_744 : (.code y_Realm_met prog_5_method_23_code 3 (some .int) : Cond) ∈ tbg := tbg_c4 24 rfl rfl
theorem wd_745 : (.methodLink "QuotaLawsLaw" 118 y_Q_luck : Cond) ∈ tbg := tbg_c4 25 (by decide +kernel) rfl
theorem wd_746 : (.instanceMethod y_Q_luck : Cond) ∈ tbg := tbg_c4 26 (by decide +kernel) rfl
theorem wd_747 : (.selects "QuotaLaws" y_Q_luck y_Q_luck : Cond) ∈ tbg := tbg_c4 27 (by decide +kernel) rfl
set_option maxRecDepth 100000 in
theorem wd_748 : (.code y_Q_luck prog_1_method_27_code 3 (some .long) : Cond) ∈ tbg := tbg_c4 28 rfl rfl
theorem wd_749 : (.constantLong "QuotaLaws" 223 (-1) : Cond) ∈ tbg := tbg_c4 29 (by decide +kernel) rfl
theorem wd_750 : (.methodLink "QuotaLaws" 225 y_Odds_weigh : Cond) ∈ tbg := tbg_c4 30 (by decide +kernel) rfl
theorem wd_751 : (.instanceMethod y_Odds_weigh : Cond) ∈ tbg := tbg_c4 31 (by decide +kernel) rfl
theorem wd_752 : (.selects "QuotaLaws$Odds" y_Odds_weigh y_Odds_weigh : Cond) ∈ tbg := tbg_c4 32 (by decide +kernel) rfl
set_option maxRecDepth 100000 in
theorem wd_753 : (.code y_Odds_weigh prog_2_method_2_code 6 none : Cond) ∈ tbg := tbg_c4 33 rfl rfl
theorem wd_754 : (.methodLink "QuotaLaws$Odds" 15 y_Arrays_fillJ : Cond) ∈ tbg := tbg_c4 34 (by decide +kernel) rfl
theorem wd_755 : (.static y_Arrays_fillJ : Cond) ∈ tbg := tbg_c4 35 (by decide +kernel) rfl
set_option maxRecDepth 100000 in
theorem wd_756 : (.code y_Arrays_fillJ prog_17_method_101_code 5 none : Cond) ∈ tbg := tbg_c4 36 rfl rfl
theorem wd_757 : (.methodLink "QuotaLaws$Odds" 31 y_Realm_ableAlone : Cond) ∈ tbg := tbg_c4 37 (by decide +kernel) rfl
theorem wd_758 : (.methodLink "QuotaLaws$Odds" 39 y_Odds_addTry : Cond) ∈ tbg := tbg_c4 38 (by decide +kernel) rfl
theorem wd_760 : (.instanceMethod y_Odds_addTry : Cond) ∈ tbg := tbg_c4 40 (by decide +kernel) rfl
set_option maxRecDepth 100000 in
theorem wd_761 : (.code y_Odds_addTry prog_2_method_3_code 3 none : Cond) ∈ tbg := tbg_c4 41 rfl rfl
theorem wd_762 : (.constantLong "QuotaLaws$Odds" 53 (10) : Cond) ∈ tbg := tbg_c4 42 (by decide +kernel) rfl
theorem wd_763 : (.methodLink "QuotaLaws$Odds" 46 y_Realm_needOf : Cond) ∈ tbg := tbg_c4 43 (by decide +kernel) rfl
theorem wd_764 : (.methodLink "QuotaLaws$Odds" 50 y_Odds_reduce : Cond) ∈ tbg := tbg_c4 44 (by decide +kernel) rfl
theorem wd_766 : (.instanceMethod y_Odds_reduce : Cond) ∈ tbg := tbg_c4 46 (by decide +kernel) rfl
set_option maxRecDepth 100000 in
theorem wd_767 : (.code y_Odds_reduce prog_2_method_4_code 8 none : Cond) ∈ tbg := tbg_c4 47 rfl rfl
theorem wd_768 : (.methodLink "QuotaLawsLaw" 123 y_Q_see : Cond) ∈ tbg := tbg_c4 48 (by decide +kernel) rfl
theorem wd_769 : (.instanceMethod y_Q_see : Cond) ∈ tbg := tbg_c4 49 (by decide +kernel) rfl
theorem wd_770 : (.selects "QuotaLaws" y_Q_see y_Q_see : Cond) ∈ tbg := tbg_c4 50 (by decide +kernel) rfl
set_option maxRecDepth 100000 in
theorem wd_771 : (.code y_Q_see prog_1_method_28_code 5 (some .int) : Cond) ∈ tbg := tbg_c4 51 rfl rfl
theorem wd_772 : (.methodLink "QuotaLaws" 240 y_Sightings_append : Cond) ∈ tbg := tbg_c4 52 (by decide +kernel) rfl
theorem wd_773 : (.instanceMethod y_Sightings_append : Cond) ∈ tbg := tbg_c4 53 (by decide +kernel) rfl
theorem wd_774 : (.selects "QuotaLaws$Sightings" y_Sightings_append y_Sightings_append : Cond) ∈ tbg := tbg_c4 54 (by decide +kernel) rfl
set_option maxRecDepth 100000 in
theorem wd_775 : (.code y_Sightings_append prog_7_method_2_code 4 (some .boolean) : Cond) ∈ tbg := tbg_c4 55 rfl rfl
theorem wd_776 : (.methodLink "QuotaLawsLaw" 128 y_Q_forget : Cond) ∈ tbg := tbg_c4 56 (by decide +kernel) rfl
theorem wd_777 : (.instanceMethod y_Q_forget : Cond) ∈ tbg := tbg_c4 57 (by decide +kernel) rfl
theorem wd_778 : (.selects "QuotaLaws" y_Q_forget y_Q_forget : Cond) ∈ tbg := tbg_c4 58 (by decide +kernel) rfl
set_option maxRecDepth 100000 in
theorem wd_779 : (.code y_Q_forget prog_1_method_29_code 3 (some .int) : Cond) ∈ tbg := tbg_c4 59 rfl rfl
theorem wd_780 : (.methodLink "QuotaLawsLaw" 132 y_Q_books : Cond) ∈ tbg := tbg_c4 60 (by decide +kernel) rfl
theorem wd_781 : (.instanceMethod y_Q_books : Cond) ∈ tbg := tbg_c4 61 (by decide +kernel) rfl
theorem wd_782 : (.selects "QuotaLaws" y_Q_books y_Q_books : Cond) ∈ tbg := tbg_c4 62 (by decide +kernel) rfl
set_option maxRecDepth 100000 in
theorem wd_783 : (.code y_Q_books prog_1_method_30_code 1 (some .long) : Cond) ∈ tbg := tbg_c4 63 rfl rfl
theorem wd_784 : (.methodLink "QuotaLaws" 247 y_Tables_load : Cond) ∈ tbg := tbg_c4 64 (by decide +kernel) rfl
theorem wd_785 : (.instanceMethod y_Tables_load : Cond) ∈ tbg := tbg_c4 65 (by decide +kernel) rfl
theorem wd_786 : (.selects "QuotaLaws$Tables" y_Tables_load y_Tables_load : Cond) ∈ tbg := tbg_c4 66 (by decide +kernel) rfl
set_option maxRecDepth 100000 in
theorem wd_787 : (.code y_Tables_load prog_8_method_2_code 6 none : Cond) ∈ tbg := tbg_c4 67 rfl rfl
theorem wd_788 : (.methodLink "QuotaLaws$Tables" 41 y_Arrays_fillI : Cond) ∈ tbg := tbg_c4 68 (by decide +kernel) rfl
theorem wd_789 : (.methodLink "QuotaLaws$Tables" 53 y_Sightings_sumDue : Cond) ∈ tbg := tbg_c4 69 (by decide +kernel) rfl
theorem wd_790 : (.instanceMethod y_Sightings_sumDue : Cond) ∈ tbg := tbg_c4 70 (by decide +kernel) rfl
theorem wd_791 : (.selects "QuotaLaws$Sightings" y_Sightings_sumDue y_Sightings_sumDue : Cond) ∈ tbg := tbg_c4 71 (by decide +kernel) rfl
set_option maxRecDepth 100000 in
theorem wd_792 : (.code y_Sightings_sumDue prog_7_method_3_code 5 (some .int) : Cond) ∈ tbg := tbg_c4 72 rfl rfl
theorem wd_793 : (.methodLink "QuotaLaws$Tables" 57 y_Realm_hasOne : Cond) ∈ tbg := tbg_c4 73 (by decide +kernel) rfl
theorem wd_794 : (.methodLinkNest "QuotaLaws$Tables" 65 y_Q_hasBit "QuotaLaws" : Cond) ∈ nests := nests_c4 74 (by decide +kernel) rfl
theorem wd_795 : (.methodLink "QuotaLaws" 248 y_Tables_fitting : Cond) ∈ tbg := tbg_c4 75 (by decide +kernel) rfl
theorem wd_796 : (.instanceMethod y_Tables_fitting : Cond) ∈ tbg := tbg_c4 76 (by decide +kernel) rfl
theorem wd_797 : (.selects "QuotaLaws$Tables" y_Tables_fitting y_Tables_fitting : Cond) ∈ tbg := tbg_c4 77 (by decide +kernel) rfl
set_option maxRecDepth 100000 in
theorem wd_798 : (.code y_Tables_fitting prog_8_method_4_code 3 (some .long) : Cond) ∈ tbg := tbg_c4 78 rfl rfl
theorem wd_799 : (.methodLink "QuotaLaws$Tables" 76 y_Arrays_fillJ : Cond) ∈ tbg := tbg_c4 79 (by decide +kernel) rfl
theorem wd_800 : (.methodLink "QuotaLaws$Tables" 79 y_Tables_spendAlone : Cond) ∈ tbg := tbg_c4 80 (by decide +kernel) rfl
theorem wd_802 : (.instanceMethod y_Tables_spendAlone : Cond) ∈ tbg := tbg_c4 82 (by decide +kernel) rfl
set_option maxRecDepth 100000 in
theorem wd_803 : (.code y_Tables_spendAlone prog_8_method_5_code 9 none : Cond) ∈ tbg := tbg_c4 83 rfl rfl
theorem wd_804 : (.methodLink "QuotaLaws$Tables" 83 y_Tables_joinAll : Cond) ∈ tbg := tbg_c4 84 (by decide +kernel) rfl
theorem wd_806 : (.instanceMethod y_Tables_joinAll : Cond) ∈ tbg := tbg_c4 86 (by decide +kernel) rfl
set_option maxRecDepth 100000 in
theorem wd_807 : (.code y_Tables_joinAll prog_8_method_6_code 4 none : Cond) ∈ tbg := tbg_c4 87 rfl rfl
theorem wd_808 : (.methodLink "QuotaLaws$Tables" 93 y_Tables_stateOf : Cond) ∈ tbg := tbg_c4 88 (by decide +kernel) rfl
theorem wd_809 : (.static y_Tables_stateOf : Cond) ∈ tbg := tbg_c4 89 (by decide +kernel) rfl
set_option maxRecDepth 100000 in
theorem wd_810 : (.code y_Tables_stateOf prog_8_method_11_code 3 (some .int) : Cond) ∈ tbg := tbg_c4 90 rfl rfl
theorem wd_811 : (.methodLink "QuotaLaws$Tables" 86 y_Tables_spendTogether : Cond) ∈ tbg := tbg_c4 91 (by decide +kernel) rfl
theorem wd_813 : (.instanceMethod y_Tables_spendTogether : Cond) ∈ tbg := tbg_c4 93 (by decide +kernel) rfl
set_option maxRecDepth 100000 in
theorem wd_814 : (.code y_Tables_spendTogether prog_8_method_7_code 5 none : Cond) ∈ tbg := tbg_c4 94 rfl rfl
theorem wd_815 : (.methodLink "QuotaLaws$Tables" 97 y_Tables_waysTo : Cond) ∈ tbg := tbg_c4 95 (by decide +kernel) rfl
theorem wd_817 : (.instanceMethod y_Tables_waysTo : Cond) ∈ tbg := tbg_c4 97 (by decide +kernel) rfl
set_option maxRecDepth 100000 in
theorem wd_818 : (.code y_Tables_waysTo prog_8_method_8_code 13 (some .long) : Cond) ∈ tbg := tbg_c4 98 rfl rfl
theorem wd_819 : (.methodLink "QuotaLaws$Tables" 101 Lib.Math.min.name : Cond) ∈ tbg := tbg_c4 99 (by decide +kernel) rfl
theorem wd_820 : (.methodLinkNest "QuotaLaws$Tables" 106 y_Q_isWithin "QuotaLaws" : Cond) ∈ nests := nests_c4 100 (by decide +kernel) rfl
theorem wd_821 : (.methodLink "QuotaLaws$Tables" 90 y_Tables_sumOfDue : Cond) ∈ tbg := tbg_c4 101 (by decide +kernel) rfl
theorem wd_823 : (.instanceMethod y_Tables_sumOfDue : Cond) ∈ tbg := tbg_c4 103 (by decide +kernel) rfl
set_option maxRecDepth 100000 in
theorem wd_824 : (.code y_Tables_sumOfDue prog_8_method_9_code 6 (some .long) : Cond) ∈ tbg := tbg_c4 104 rfl rfl
theorem wd_825 : (.methodLink "QuotaLaws$Tables" 110 y_Tables_isDueOf : Cond) ∈ tbg := tbg_c4 105 (by decide +kernel) rfl
theorem wd_827 : (.instanceMethod y_Tables_isDueOf : Cond) ∈ tbg := tbg_c4 107 (by decide +kernel) rfl
set_option maxRecDepth 100000 in
theorem wd_828 : (.code y_Tables_isDueOf prog_8_method_10_code 3 (some .boolean) : Cond) ∈ tbg := tbg_c4 108 rfl rfl
theorem wd_829 : (.methodLink "QuotaLawsLaw" 137 y_Q_entry : Cond) ∈ tbg := tbg_c4 109 (by decide +kernel) rfl
theorem wd_830 : (.instanceMethod y_Q_entry : Cond) ∈ tbg := tbg_c4 110 (by decide +kernel) rfl
theorem wd_831 : (.selects "QuotaLaws" y_Q_entry y_Q_entry : Cond) ∈ tbg := tbg_c4 111 (by decide +kernel) rfl
set_option maxRecDepth 100000 in
theorem wd_832 : (.code y_Q_entry prog_1_method_31_code 4 (some .int) : Cond) ∈ tbg := tbg_c4 112 rfl rfl
theorem wd_833 : (.methodLink "QuotaLaws" 252 y_Tables_firstThatFits : Cond) ∈ tbg := tbg_c4 113 (by decide +kernel) rfl
theorem wd_834 : (.instanceMethod y_Tables_firstThatFits : Cond) ∈ tbg := tbg_c4 114 (by decide +kernel) rfl
theorem wd_835 : (.selects "QuotaLaws$Tables" y_Tables_firstThatFits y_Tables_firstThatFits : Cond) ∈ tbg := tbg_c4 115 (by decide +kernel) rfl
set_option maxRecDepth 100000 in
theorem wd_836 : (.code y_Tables_firstThatFits prog_8_method_3_code 8 (some .int) : Cond) ∈ tbg := tbg_c4 116 rfl rfl
theorem wd_837 : (.methodLink "QuotaLaws$Tables" 72 y_Tables_fitting : Cond) ∈ tbg := tbg_c4 117 (by decide +kernel) rfl
theorem wd_838 : (.methodLink "QuotaLawsLaw" 141 y_Q_wild : Cond) ∈ tbg := tbg_c4 118 (by decide +kernel) rfl
theorem wd_839 : (.instanceMethod y_Q_wild : Cond) ∈ tbg := tbg_c4 119 (by decide +kernel) rfl
theorem wd_840 : (.selects "QuotaLaws" y_Q_wild y_Q_wild : Cond) ∈ tbg := tbg_c4 120 (by decide +kernel) rfl
set_option maxRecDepth 100000 in
theorem wd_841 : (.code y_Q_wild prog_1_method_32_code 5 (some .int) : Cond) ∈ tbg := tbg_c4 121 rfl rfl
theorem wd_842 : (.methodLink "QuotaLaws" 255 y_Realm_breakBySeed : Cond) ∈ tbg := tbg_c4 122 (by decide +kernel) rfl
theorem wd_843 : (.instanceMethod y_Realm_breakBySeed : Cond) ∈ tbg := tbg_c4 123 (by decide +kernel) rfl
theorem wd_844 : (.selects "QuotaLaws$Realm" y_Realm_breakBySeed y_Realm_breakBySeed : Cond) ∈ tbg := tbg_c4 124 (by decide +kernel) rfl
set_option maxRecDepth 100000 in
theorem wd_845 : (.code y_Realm_breakBySeed prog_5_method_26_code 8 (some .int) : Cond) ∈ tbg := tbg_c4 125 rfl rfl
theorem wd_846 : (.methodLink "QuotaLaws$Realm" 151 y_Realm_nextSeed : Cond) ∈ tbg := tbg_c4 126 (by decide +kernel) rfl
theorem wd_847 : (.static y_Realm_nextSeed : Cond) ∈ tbg := tbg_c4 127 (by decide +kernel) rfl
set_option maxRecDepth 100000 in
theorem wd_848 : (.code y_Realm_nextSeed prog_5_method_27_code 1 (some .int) : Cond) ∈ tbg := tbg_c4 128 rfl rfl
theorem wd_849 : (.constant "QuotaLaws$Realm" 160 (1103515245) : Cond) ∈ tbg := tbg_c4 129 (by decide +kernel) rfl
theorem wd_850 : (.methodLink "QuotaLaws$Realm" 154 y_Realm_drawn : Cond) ∈ tbg := tbg_c4 130 (by decide +kernel) rfl
theorem wd_851 : (.static y_Realm_drawn : Cond) ∈ tbg := tbg_c4 131 (by decide +kernel) rfl
set_option maxRecDepth 100000 in
theorem wd_852 : (.code y_Realm_drawn prog_5_method_28_code 1 (some .int) : Cond) ∈ tbg := tbg_c4 132 rfl rfl
theorem wd_853 : (.methodLink "QuotaLaws$Realm" 157 y_Realm_breakOnce : Cond) ∈ tbg := tbg_c4 133 (by decide +kernel) rfl
theorem wd_854 : (.methodLink "QuotaLawsLaw" 145 y_Q_keep : Cond) ∈ tbg := tbg_c4 134 (by decide +kernel) rfl
theorem wd_855 : (.instanceMethod y_Q_keep : Cond) ∈ tbg := tbg_c4 135 (by decide +kernel) rfl
theorem wd_856 : (.selects "QuotaLaws" y_Q_keep y_Q_keep : Cond) ∈ tbg := tbg_c4 136 (by decide +kernel) rfl
set_option maxRecDepth 100000 in
theorem wd_857 : (.code y_Q_keep prog_1_method_33_code 3 (some .int) : Cond) ∈ tbg := tbg_c4 137 rfl rfl
theorem wd_858 : (.methodLink "QuotaLawsLaw" 149 y_Q_back : Cond) ∈ tbg := tbg_c4 138 (by decide +kernel) rfl
theorem wd_859 : (.instanceMethod y_Q_back : Cond) ∈ tbg := tbg_c4 139 (by decide +kernel) rfl
theorem wd_860 : (.selects "QuotaLaws" y_Q_back y_Q_back : Cond) ∈ tbg := tbg_c4 140 (by decide +kernel) rfl
set_option maxRecDepth 100000 in
theorem wd_861 : (.code y_Q_back prog_1_method_34_code 2 (some .int) : Cond) ∈ tbg := tbg_c4 141 rfl rfl
theorem wd_862 : (.methodLink "QuotaLawsLaw" 153 y_Q_sheet : Cond) ∈ tbg := tbg_c4 142 (by decide +kernel) rfl
theorem wd_863 : (.instanceMethod y_Q_sheet : Cond) ∈ tbg := tbg_c4 143 (by decide +kernel) rfl
theorem wd_864 : (.selects "QuotaLaws" y_Q_sheet y_Q_sheet : Cond) ∈ tbg := tbg_c4 144 (by decide +kernel) rfl
set_option maxRecDepth 100000 in
theorem wd_865 : (.code y_Q_sheet prog_1_method_35_code 4 (some .int) : Cond) ∈ tbg := tbg_c4 145 rfl rfl
theorem wd_866 : (.methodLink "QuotaLaws" 258 y_Sheet_renew : Cond) ∈ tbg := tbg_c4 146 (by decide +kernel) rfl
theorem wd_867 : (.instanceMethod y_Sheet_renew : Cond) ∈ tbg := tbg_c4 147 (by decide +kernel) rfl
theorem wd_868 : (.selects "QuotaLaws$Sheet" y_Sheet_renew y_Sheet_renew : Cond) ∈ tbg := tbg_c4 148 (by decide +kernel) rfl
set_option maxRecDepth 100000 in
theorem wd_869 : (.code y_Sheet_renew prog_6_method_2_code 3 none : Cond) ∈ tbg := tbg_c4 149 rfl rfl
theorem wd_870 : (.methodLink "QuotaLaws$Sheet" 22 y_Arrays_fillI : Cond) ∈ tbg := tbg_c4 150 (by decide +kernel) rfl
theorem wd_871 : (.methodLink "QuotaLawsLaw" 157 y_Q_lay : Cond) ∈ tbg := tbg_c4 151 (by decide +kernel) rfl
theorem wd_872 : (.instanceMethod y_Q_lay : Cond) ∈ tbg := tbg_c4 152 (by decide +kernel) rfl
theorem wd_873 : (.selects "QuotaLaws" y_Q_lay y_Q_lay : Cond) ∈ tbg := tbg_c4 153 (by decide +kernel) rfl
set_option maxRecDepth 100000 in
theorem wd_874 : (.code y_Q_lay prog_1_method_36_code 5 (some .int) : Cond) ∈ tbg := tbg_c4 154 rfl rfl
theorem wd_875 : (.methodLink "QuotaLaws" 261 y_Sheet_faultAt : Cond) ∈ tbg := tbg_c4 155 (by decide +kernel) rfl
theorem wd_876 : (.instanceMethod y_Sheet_faultAt : Cond) ∈ tbg := tbg_c4 156 (by decide +kernel) rfl
theorem wd_877 : (.selects "QuotaLaws$Sheet" y_Sheet_faultAt y_Sheet_faultAt : Cond) ∈ tbg := tbg_c4 157 (by decide +kernel) rfl
set_option maxRecDepth 100000 in
theorem wd_878 : (.code y_Sheet_faultAt prog_6_method_5_code 3 (some .int) : Cond) ∈ tbg := tbg_c4 158 rfl rfl
theorem wd_879 : (.methodLink "QuotaLaws" 265 y_Sheet_put : Cond) ∈ tbg := tbg_c4 159 (by decide +kernel) rfl
theorem wd_880 : (.instanceMethod y_Sheet_put : Cond) ∈ tbg := tbg_c4 160 (by decide +kernel) rfl
theorem wd_881 : (.selects "QuotaLaws$Sheet" y_Sheet_put y_Sheet_put : Cond) ∈ tbg := tbg_c4 161 (by decide +kernel) rfl
set_option maxRecDepth 100000 in
theorem wd_882 : (.code y_Sheet_put prog_6_method_3_code 3 none : Cond) ∈ tbg := tbg_c4 162 rfl rfl
theorem wd_883 : (.methodLink "QuotaLawsLaw" 161 y_Q_read : Cond) ∈ tbg := tbg_c4 163 (by decide +kernel) rfl
theorem wd_884 : (.instanceMethod y_Q_read : Cond) ∈ tbg := tbg_c4 164 (by decide +kernel) rfl
theorem wd_885 : (.selects "QuotaLaws" y_Q_read y_Q_read : Cond) ∈ tbg := tbg_c4 165 (by decide +kernel) rfl
set_option maxRecDepth 100000 in
theorem wd_886 : (.code y_Q_read prog_1_method_37_code 11 (some .int) : Cond) ∈ tbg := tbg_c4 166 rfl rfl
theorem wd_887 : (.methodLink "QuotaLaws" 268 y_Sheet_faultAs : Cond) ∈ tbg := tbg_c4 167 (by decide +kernel) rfl
theorem wd_888 : (.instanceMethod y_Sheet_faultAs : Cond) ∈ tbg := tbg_c4 168 (by decide +kernel) rfl
theorem wd_889 : (.selects "QuotaLaws$Sheet" y_Sheet_faultAs y_Sheet_faultAs : Cond) ∈ tbg := tbg_c4 169 (by decide +kernel) rfl
set_option maxRecDepth 100000 in
theorem wd_890 : (.code y_Sheet_faultAs prog_6_method_7_code 2 (some .int) : Cond) ∈ tbg := tbg_c4 170 rfl rfl
theorem wd_891 : (.methodLink "QuotaLaws" 271 y_Sheet_faultOfPair : Cond) ∈ tbg := tbg_c4 171 (by decide +kernel) rfl
theorem wd_892 : (.instanceMethod y_Sheet_faultOfPair : Cond) ∈ tbg := tbg_c4 172 (by decide +kernel) rfl
theorem wd_893 : (.selects "QuotaLaws$Sheet" y_Sheet_faultOfPair y_Sheet_faultOfPair : Cond) ∈ tbg := tbg_c4 173 (by decide +kernel) rfl
set_option maxRecDepth 100000 in
theorem wd_894 : (.code y_Sheet_faultOfPair prog_6_method_6_code 4 (some .int) : Cond) ∈ tbg := tbg_c4 174 rfl rfl
theorem wd_895 : (.methodLink "QuotaLaws$Sheet" 28 y_Sheet_faultAt : Cond) ∈ tbg := tbg_c4 175 (by decide +kernel) rfl
theorem wd_896 : (.methodLink "QuotaLaws" 274 y_Sheet_cellAt : Cond) ∈ tbg := tbg_c4 176 (by decide +kernel) rfl
theorem wd_897 : (.instanceMethod y_Sheet_cellAt : Cond) ∈ tbg := tbg_c4 177 (by decide +kernel) rfl
theorem wd_898 : (.selects "QuotaLaws$Sheet" y_Sheet_cellAt y_Sheet_cellAt : Cond) ∈ tbg := tbg_c4 178 (by decide +kernel) rfl
set_option maxRecDepth 100000 in
theorem wd_899 : (.code y_Sheet_cellAt prog_6_method_4_code 3 (some .int) : Cond) ∈ tbg := tbg_c4 179 rfl rfl
theorem wd_900 : (.methodLink "QuotaLawsLaw" 166 y_Q_torn : Cond) ∈ tbg := tbg_c4 180 (by decide +kernel) rfl
theorem wd_901 : (.instanceMethod y_Q_torn : Cond) ∈ tbg := tbg_c4 181 (by decide +kernel) rfl
theorem wd_902 : (.selects "QuotaLaws" y_Q_torn y_Q_torn : Cond) ∈ tbg := tbg_c4 182 (by decide +kernel) rfl
set_option maxRecDepth 100000 in
theorem wd_903 : (.code y_Q_torn prog_1_method_38_code 1 (some .int) : Cond) ∈ tbg := tbg_c4 183 rfl rfl
theorem wd_904 : (.methodLink "QuotaLawsLaw" 170 y_Q_count : Cond) ∈ tbg := tbg_c4 184 (by decide +kernel) rfl
theorem wd_905 : (.instanceMethod y_Q_count : Cond) ∈ tbg := tbg_c4 185 (by decide +kernel) rfl
theorem wd_906 : (.selects "QuotaLaws" y_Q_count y_Q_count : Cond) ∈ tbg := tbg_c4 186 (by decide +kernel) rfl
set_option maxRecDepth 100000 in
theorem wd_907 : (.code y_Q_count prog_1_method_39_code 2 (some .int) : Cond) ∈ tbg := tbg_c4 187 rfl rfl
theorem wd_908 : (.methodLink "QuotaLaws" 280 y_Realm_brokenInAll : Cond) ∈ tbg := tbg_c4 188 (by decide +kernel) rfl
theorem wd_909 : (.instanceMethod y_Realm_brokenInAll : Cond) ∈ tbg := tbg_c4 189 (by decide +kernel) rfl
theorem wd_910 : (.selects "QuotaLaws$Realm" y_Realm_brokenInAll y_Realm_brokenInAll : Cond) ∈ tbg := tbg_c4 190 (by decide +kernel) rfl
set_option maxRecDepth 100000 in
theorem wd_911 : (.code y_Realm_brokenInAll prog_5_method_9_code 3 (some .int) : Cond) ∈ tbg := tbg_c4 191 rfl rfl
theorem wd_912 : (.methodLink "QuotaLaws" 283 y_Q_countKept : Cond) ∈ tbg := tbg_c4 192 (by decide +kernel) rfl
theorem wd_914 : (.instanceMethod y_Q_countKept : Cond) ∈ tbg := tbg_c4 194 (by decide +kernel) rfl
set_option maxRecDepth 100000 in
theorem wd_915 : (.code y_Q_countKept prog_1_method_40_code 3 (some .int) : Cond) ∈ tbg := tbg_c4 195 rfl rfl
theorem wd_916 : (.methodLink "QuotaLaws" 287 y_Realm_allPurses : Cond) ∈ tbg := tbg_c4 196 (by decide +kernel) rfl
theorem wd_917 : (.instanceMethod y_Realm_allPurses : Cond) ∈ tbg := tbg_c4 197 (by decide +kernel) rfl
theorem wd_918 : (.selects "QuotaLaws$Realm" y_Realm_allPurses y_Realm_allPurses : Cond) ∈ tbg := tbg_c4 198 (by decide +kernel) rfl
set_option maxRecDepth 100000 in
theorem wd_919 : (.code y_Realm_allPurses prog_5_method_12_code 3 (some .int) : Cond) ∈ tbg := tbg_c4 199 rfl rfl
theorem wd_920 : (.methodLink "QuotaLaws" 290 y_Realm_allNeed : Cond) ∈ tbg := tbg_c4 200 (by decide +kernel) rfl
theorem wd_921 : (.instanceMethod y_Realm_allNeed : Cond) ∈ tbg := tbg_c4 201 (by decide +kernel) rfl
theorem wd_922 : (.selects "QuotaLaws$Realm" y_Realm_allNeed y_Realm_allNeed : Cond) ∈ tbg := tbg_c4 202 (by decide +kernel) rfl
set_option maxRecDepth 100000 in
theorem wd_923 : (.code y_Realm_allNeed prog_5_method_11_code 3 (some .int) : Cond) ∈ tbg := tbg_c4 203 rfl rfl
theorem wd_924 : (.classLink "QuotaLawsLaw" 10 "QuotaLawsModel" : Cond) ∈ tbg := tbg_c4 204 (by decide +kernel) rfl
theorem wd_925 : (.instantiable "QuotaLawsModel" 39 : Cond) ∈ tbg := tbg_c4 205 (by decide +kernel) rfl
theorem wd_926 : (.methodLink "QuotaLawsLaw" 12 y_M_new : Cond) ∈ tbg := tbg_c4 206 (by decide +kernel) rfl
theorem wd_927 : (.instanceMethod y_M_new : Cond) ∈ tbg := tbg_c4 207 (by decide +kernel) rfl
set_option maxRecDepth 100000 in
theorem wd_928 : (.code y_M_new prog_10_method_1_code 2 none : Cond) ∈ tbg := tbg_c4 208 rfl rfl
theorem wd_929 : (.methodLink "QuotaLawsModel" 1 Lib.objectInit : Cond) ∈ tbg := tbg_c4 209 (by decide +kernel) rfl
theorem wd_930 : (.methodLink "QuotaLawsModel" 87 y_M_firstDraft : Cond) ∈ tbg := tbg_c4 210 (by decide +kernel) rfl
theorem wd_932 : (.instanceMethod y_M_firstDraft : Cond) ∈ tbg := tbg_c4 212 (by decide +kernel) rfl
set_option maxRecDepth 100000 in
theorem wd_933 : (.code y_M_firstDraft prog_10_method_5_code 2 none : Cond) ∈ tbg := tbg_c4 213 rfl rfl
theorem wd_934 : (.methodLink "QuotaLawsModel" 90 y_M_keepDraft : Cond) ∈ tbg := tbg_c4 214 (by decide +kernel) rfl
theorem wd_936 : (.instanceMethod y_M_keepDraft : Cond) ∈ tbg := tbg_c4 216 (by decide +kernel) rfl
set_option maxRecDepth 100000 in
theorem wd_937 : (.code y_M_keepDraft prog_10_method_6_code 2 none : Cond) ∈ tbg := tbg_c4 217 rfl rfl
theorem wd_938 : (.fieldLink "QuotaLawsModel" 7 "QuotaLawsModel" "st" "[I" : Cond) ∈ tbg := tbg_c4 218 (by decide +kernel) rfl
theorem wd_939 : (.fieldLink "QuotaLawsModel" 13 "QuotaLawsModel" "isKept" "[Z" : Cond) ∈ tbg := tbg_c4 219 (by decide +kernel) rfl
theorem wd_940 : (.fieldLink "QuotaLawsModel" 106 "QuotaLawsModel" "laws" "I" : Cond) ∈ tbg := tbg_c4 220 (by decide +kernel) rfl
theorem wd_941 : (.fieldLink "QuotaLawsModel" 109 "QuotaLawsModel" "people" "I" : Cond) ∈ tbg := tbg_c4 221 (by decide +kernel) rfl
theorem wd_942 : (.fieldLink "QuotaLawsModel" 17 "QuotaLawsModel" "cap" "[I" : Cond) ∈ tbg := tbg_c4 222 (by decide +kernel) rfl
theorem wd_943 : (.fieldLink "QuotaLawsModel" 20 "QuotaLawsModel" "harm" "[I" : Cond) ∈ tbg := tbg_c4 223 (by decide +kernel) rfl
theorem wd_944 : (.fieldLink "QuotaLawsModel" 23 "QuotaLawsModel" "fine" "[I" : Cond) ∈ tbg := tbg_c4 224 (by decide +kernel) rfl
theorem wd_945 : (.fieldLink "QuotaLawsModel" 26 "QuotaLawsModel" "clumsy" "[I" : Cond) ∈ tbg := tbg_c4 225 (by decide +kernel) rfl
theorem wd_946 : (.fieldLink "QuotaLawsModel" 29 "QuotaLawsModel" "nerve" "[I" : Cond) ∈ tbg := tbg_c4 226 (by decide +kernel) rfl
theorem wd_947 : (.fieldLink "QuotaLawsModel" 32 "QuotaLawsModel" "draft" "[I" : Cond) ∈ tbg := tbg_c4 227 (by decide +kernel) rfl
theorem wd_948 : (.fieldLink "QuotaLawsModel" 93 "QuotaLawsModel" "dLaws" "I" : Cond) ∈ tbg := tbg_c4 228 (by decide +kernel) rfl
theorem wd_949 : (.fieldLink "QuotaLawsModel" 97 "QuotaLawsModel" "dPeople" "I" : Cond) ∈ tbg := tbg_c4 229 (by decide +kernel) rfl
theorem wd_950 : (.fieldLink "QuotaLawsModel" 35 "QuotaLawsModel" "dCap" "[I" : Cond) ∈ tbg := tbg_c4 230 (by decide +kernel) rfl
theorem wd_951 : (.fieldLink "QuotaLawsModel" 38 "QuotaLawsModel" "dHarm" "[I" : Cond) ∈ tbg := tbg_c4 231 (by decide +kernel) rfl
theorem wd_952 : (.fieldLink "QuotaLawsModel" 41 "QuotaLawsModel" "dFine" "[I" : Cond) ∈ tbg := tbg_c4 232 (by decide +kernel) rfl
theorem wd_953 : (.fieldLink "QuotaLawsModel" 44 "QuotaLawsModel" "dClumsy" "[I" : Cond) ∈ tbg := tbg_c4 233 (by decide +kernel) rfl
theorem wd_954 : (.fieldLink "QuotaLawsModel" 47 "QuotaLawsModel" "dNerve" "[I" : Cond) ∈ tbg := tbg_c4 234 (by decide +kernel) rfl
theorem wd_955 : (.fieldLink "QuotaLawsModel" 100 "QuotaLawsModel" "highestLaw" "I" : Cond) ∈ tbg := tbg_c4 235 (by decide +kernel) rfl
theorem wd_956 : (.fieldLink "QuotaLawsModel" 103 "QuotaLawsModel" "highestOne" "I" : Cond) ∈ tbg := tbg_c4 236 (by decide +kernel) rfl
theorem wd_957 : (.fieldLink "QuotaLawsModel" 50 "QuotaLawsModel" "tape" "[I" : Cond) ∈ tbg := tbg_c4 237 (by decide +kernel) rfl
theorem wd_958 : (.fieldLink "QuotaLawsModel" 118 "QuotaLawsModel" "taped" "I" : Cond) ∈ tbg := tbg_c4 238 (by decide +kernel) rfl
theorem wd_959 : (.fieldLink "QuotaLawsModel" 130 "QuotaLawsModel" "pos" "I" : Cond) ∈ tbg := tbg_c4 239 (by decide +kernel) rfl
theorem wd_960 : (.fieldLink "QuotaLawsModel" 124 "QuotaLawsModel" "from" "I" : Cond) ∈ tbg := tbg_c5 0 (by decide +kernel) rfl
theorem wd_961 : (.fieldLink "QuotaLawsModel" 141 "QuotaLawsModel" "sort" "I" : Cond) ∈ tbg := tbg_c5 1 (by decide +kernel) rfl
theorem wd_962 : (.fieldLink "QuotaLawsModel" 152 "QuotaLawsModel" "value" "I" : Cond) ∈ tbg := tbg_c5 2 (by decide +kernel) rfl
theorem wd_963 : (.fieldLink "QuotaLawsModel" 121 "QuotaLawsModel" "fault" "I" : Cond) ∈ tbg := tbg_c5 3 (by decide +kernel) rfl
theorem wd_964 : (.fieldLink "QuotaLawsModel" 127 "QuotaLawsModel" "wrongAt" "I" : Cond) ∈ tbg := tbg_c5 4 (by decide +kernel) rfl
theorem wd_965 : (.fieldLink "QuotaLawsModel" 53 "QuotaLawsModel" "least" "[I" : Cond) ∈ tbg := tbg_c5 5 (by decide +kernel) rfl
theorem wd_966 : (.fieldLink "QuotaLawsModel" 56 "QuotaLawsModel" "needs" "[I" : Cond) ∈ tbg := tbg_c5 6 (by decide +kernel) rfl
theorem wd_967 : (.fieldLink "QuotaLawsModel" 59 "QuotaLawsModel" "lefts" "[I" : Cond) ∈ tbg := tbg_c5 7 (by decide +kernel) rfl
theorem wd_968 : (.fieldLink "QuotaLawsModel" 62 "QuotaLawsModel" "shares" "[I" : Cond) ∈ tbg := tbg_c5 8 (by decide +kernel) rfl
theorem wd_969 : (.fieldLink "QuotaLawsModel" 65 "QuotaLawsModel" "saved" "[I" : Cond) ∈ tbg := tbg_c5 9 (by decide +kernel) rfl
theorem wd_970 : (.fieldLink "QuotaLawsModel" 68 "QuotaLawsModel" "ways" "[J" : Cond) ∈ tbg := tbg_c5 10 (by decide +kernel) rfl
theorem wd_971 : (.fieldLink "QuotaLawsModel" 72 "QuotaLawsModel" "tables" "[J" : Cond) ∈ tbg := tbg_c5 11 (by decide +kernel) rfl
theorem wd_972 : (.fieldLink "QuotaLawsModel" 75 "QuotaLawsModel" "then" "[J" : Cond) ∈ tbg := tbg_c5 12 (by decide +kernel) rfl
theorem wd_973 : (.fieldLink "QuotaLawsModel" 78 "QuotaLawsModel" "lanes" "[I" : Cond) ∈ tbg := tbg_c5 13 (by decide +kernel) rfl
theorem wd_974 : (.fieldLink "QuotaLawsModel" 81 "QuotaLawsModel" "sizes" "[I" : Cond) ∈ tbg := tbg_c5 14 (by decide +kernel) rfl
theorem wd_975 : (.fieldLink "QuotaLawsModel" 84 "QuotaLawsModel" "cells" "[I" : Cond) ∈ tbg := tbg_c5 15 (by decide +kernel) rfl
theorem wd_976 : (.fieldLink "QuotaLawsModel" 332 "QuotaLawsModel" "torn" "I" : Cond) ∈ tbg := tbg_c5 16 (by decide +kernel) rfl
theorem wd_1056 : (.methodLink "QuotaLawsLaw" 17 y_M_feed : Cond) ∈ tbg := tbg_c5 96 (by decide +kernel) rfl
theorem wd_1057 : (.instanceMethod y_M_feed : Cond) ∈ tbg := tbg_c5 97 (by decide +kernel) rfl
theorem wd_1058 : (.selects "QuotaLawsModel" y_M_feed y_M_feed : Cond) ∈ tbg := tbg_c5 98 (by decide +kernel) rfl
set_option maxRecDepth 100000 in
theorem wd_1059 : (.code y_M_feed prog_10_method_7_code 2 (some .int) : Cond) ∈ tbg := tbg_c5 99 rfl rfl
theorem wd_1060 : (.constantLong "QuotaLawsModel" 112 (127) : Cond) ∈ tbg := tbg_c5 100 (by decide +kernel) rfl
theorem wd_1061 : (.methodLink "QuotaLawsModel" 114 y_M_in : Cond) ∈ tbg := tbg_c5 101 (by decide +kernel) rfl
theorem wd_1062 : (.static y_M_in : Cond) ∈ tbg := tbg_c5 102 (by decide +kernel) rfl
set_option maxRecDepth 100000 in
theorem wd_1063 : (.code y_M_in prog_10_method_3_code 6 (some .boolean) : Cond) ∈ tbg := tbg_c5 103 rfl rfl
theorem wd_1064 : (.methodLink "QuotaLawsLaw" 21 y_M_end : Cond) ∈ tbg := tbg_c5 104 (by decide +kernel) rfl
theorem wd_1065 : (.instanceMethod y_M_end : Cond) ∈ tbg := tbg_c5 105 (by decide +kernel) rfl
theorem wd_1066 : (.selects "QuotaLawsModel" y_M_end y_M_end : Cond) ∈ tbg := tbg_c5 106 (by decide +kernel) rfl
set_option maxRecDepth 100000 in
theorem wd_1067 : (.code y_M_end prog_10_method_8_code 3 (some .int) : Cond) ∈ tbg := tbg_c5 107 rfl rfl
theorem wd_1068 : (.methodLink "QuotaLawsLaw" 26 y_M_text : Cond) ∈ tbg := tbg_c5 108 (by decide +kernel) rfl
theorem wd_1069 : (.instanceMethod y_M_text : Cond) ∈ tbg := tbg_c5 109 (by decide +kernel) rfl
theorem wd_1070 : (.selects "QuotaLawsModel" y_M_text y_M_text : Cond) ∈ tbg := tbg_c5 110 (by decide +kernel) rfl
set_option maxRecDepth 100000 in
theorem wd_1071 : (.code y_M_text prog_10_method_21_code 2 (some .int) : Cond) ∈ tbg := tbg_c5 111 rfl rfl
theorem wd_1072 : (.methodLink "QuotaLawsModel" 162 y_M_next : Cond) ∈ tbg := tbg_c5 112 (by decide +kernel) rfl
theorem wd_1074 : (.instanceMethod y_M_next : Cond) ∈ tbg := tbg_c5 114 (by decide +kernel) rfl
set_option maxRecDepth 100000 in
theorem wd_1075 : (.code y_M_next prog_10_method_13_code 2 none : Cond) ∈ tbg := tbg_c5 115 rfl rfl
theorem wd_1076 : (.methodLink "QuotaLawsModel" 133 y_M_look : Cond) ∈ tbg := tbg_c5 116 (by decide +kernel) rfl
theorem wd_1078 : (.instanceMethod y_M_look : Cond) ∈ tbg := tbg_c5 118 (by decide +kernel) rfl
set_option maxRecDepth 100000 in
theorem wd_1079 : (.code y_M_look prog_10_method_10_code 2 (some .int) : Cond) ∈ tbg := tbg_c5 119 rfl rfl
theorem wd_1080 : (.constantLong "QuotaLawsModel" 144 (97) : Cond) ∈ tbg := tbg_c5 120 (by decide +kernel) rfl
theorem wd_1081 : (.constantLong "QuotaLawsModel" 146 (122) : Cond) ∈ tbg := tbg_c5 121 (by decide +kernel) rfl
theorem wd_1082 : (.constantLong "QuotaLawsModel" 148 (48) : Cond) ∈ tbg := tbg_c5 122 (by decide +kernel) rfl
theorem wd_1083 : (.constantLong "QuotaLawsModel" 150 (57) : Cond) ∈ tbg := tbg_c5 123 (by decide +kernel) rfl
theorem wd_1084 : (.methodLink "QuotaLawsModel" 155 y_M_needs : Cond) ∈ tbg := tbg_c5 124 (by decide +kernel) rfl
theorem wd_1086 : (.instanceMethod y_M_needs : Cond) ∈ tbg := tbg_c5 126 (by decide +kernel) rfl
set_option maxRecDepth 100000 in
theorem wd_1087 : (.code y_M_needs prog_10_method_9_code 3 none : Cond) ∈ tbg := tbg_c5 127 rfl rfl
theorem wd_1088 : (.methodLink "QuotaLawsModel" 185 y_M_readLine : Cond) ∈ tbg := tbg_c5 128 (by decide +kernel) rfl
theorem wd_1090 : (.instanceMethod y_M_readLine : Cond) ∈ tbg := tbg_c5 130 (by decide +kernel) rfl
set_option maxRecDepth 100000 in
theorem wd_1091 : (.code y_M_readLine prog_10_method_20_code 2 none : Cond) ∈ tbg := tbg_c5 131 rfl rfl
theorem wd_1092 : (.methodLink "QuotaLawsModel" 177 y_M_lineNow : Cond) ∈ tbg := tbg_c5 132 (by decide +kernel) rfl
theorem wd_1094 : (.instanceMethod y_M_lineNow : Cond) ∈ tbg := tbg_c5 134 (by decide +kernel) rfl
set_option maxRecDepth 100000 in
theorem wd_1095 : (.code y_M_lineNow prog_10_method_12_code 1 (some .int) : Cond) ∈ tbg := tbg_c5 135 rfl rfl
theorem wd_1096 : (.methodLink "QuotaLawsModel" 137 y_M_is : Cond) ∈ tbg := tbg_c5 136 (by decide +kernel) rfl
theorem wd_1098 : (.instanceMethod y_M_is : Cond) ∈ tbg := tbg_c5 138 (by decide +kernel) rfl
set_option maxRecDepth 100000 in
theorem wd_1099 : (.code y_M_is prog_10_method_11_code 5 (some .boolean) : Cond) ∈ tbg := tbg_c5 139 rfl rfl
theorem wd_1100 : (.methodLink "QuotaLawsModel" 181 y_M_readLineOf : Cond) ∈ tbg := tbg_c5 140 (by decide +kernel) rfl
theorem wd_1102 : (.instanceMethod y_M_readLineOf : Cond) ∈ tbg := tbg_c5 142 (by decide +kernel) rfl
set_option maxRecDepth 100000 in
theorem wd_1103 : (.code y_M_readLineOf prog_10_method_19_code 3 none : Cond) ∈ tbg := tbg_c5 143 rfl rfl
theorem wd_1104 : (.methodLink "QuotaLawsModel" 171 y_M_readLaw : Cond) ∈ tbg := tbg_c5 144 (by decide +kernel) rfl
theorem wd_1106 : (.instanceMethod y_M_readLaw : Cond) ∈ tbg := tbg_c5 146 (by decide +kernel) rfl
set_option maxRecDepth 100000 in
theorem wd_1107 : (.code y_M_readLaw prog_10_method_17_code 4 none : Cond) ∈ tbg := tbg_c5 147 rfl rfl
theorem wd_1108 : (.methodLink "QuotaLawsModel" 165 y_M_readNumber : Cond) ∈ tbg := tbg_c5 148 (by decide +kernel) rfl
theorem wd_1110 : (.instanceMethod y_M_readNumber : Cond) ∈ tbg := tbg_c5 150 (by decide +kernel) rfl
set_option maxRecDepth 100000 in
theorem wd_1111 : (.code y_M_readNumber prog_10_method_15_code 4 (some .int) : Cond) ∈ tbg := tbg_c5 151 rfl rfl
theorem wd_1112 : (.methodLink "QuotaLawsModel" 158 y_M_looked : Cond) ∈ tbg := tbg_c5 152 (by decide +kernel) rfl
theorem wd_1114 : (.instanceMethod y_M_looked : Cond) ∈ tbg := tbg_c5 154 (by decide +kernel) rfl
set_option maxRecDepth 100000 in
theorem wd_1115 : (.code y_M_looked prog_10_method_14_code 3 (some .int) : Cond) ∈ tbg := tbg_c5 155 rfl rfl
theorem wd_1116 : (.methodLink "QuotaLawsModel" 168 y_M_readLawOf : Cond) ∈ tbg := tbg_c5 156 (by decide +kernel) rfl
theorem wd_1118 : (.instanceMethod y_M_readLawOf : Cond) ∈ tbg := tbg_c5 158 (by decide +kernel) rfl
set_option maxRecDepth 100000 in
theorem wd_1119 : (.code y_M_readLawOf prog_10_method_16_code 3 (some .int) : Cond) ∈ tbg := tbg_c5 159 rfl rfl
theorem wd_1120 : (.methodLink "QuotaLawsModel" 174 y_M_readOne : Cond) ∈ tbg := tbg_c5 160 (by decide +kernel) rfl
theorem wd_1122 : (.instanceMethod y_M_readOne : Cond) ∈ tbg := tbg_c5 162 (by decide +kernel) rfl
set_option maxRecDepth 100000 in
theorem wd_1123 : (.code y_M_readOne prog_10_method_18_code 2 none : Cond) ∈ tbg := tbg_c5 163 rfl rfl
theorem wd_1124 : (.methodLink "QuotaLawsLaw" 30 y_M_fault : Cond) ∈ tbg := tbg_c5 164 (by decide +kernel) rfl
theorem wd_1125 : (.instanceMethod y_M_fault : Cond) ∈ tbg := tbg_c5 165 (by decide +kernel) rfl
theorem wd_1126 : (.selects "QuotaLawsModel" y_M_fault y_M_fault : Cond) ∈ tbg := tbg_c5 166 (by decide +kernel) rfl
set_option maxRecDepth 100000 in
theorem wd_1127 : (.code y_M_fault prog_10_method_22_code 1 (some .int) : Cond) ∈ tbg := tbg_c5 167 rfl rfl
theorem wd_1128 : (.methodLink "QuotaLawsLaw" 34 y_M_rule : Cond) ∈ tbg := tbg_c5 168 (by decide +kernel) rfl
theorem wd_1129 : (.instanceMethod y_M_rule : Cond) ∈ tbg := tbg_c5 169 (by decide +kernel) rfl
theorem wd_1130 : (.selects "QuotaLawsModel" y_M_rule y_M_rule : Cond) ∈ tbg := tbg_c5 170 (by decide +kernel) rfl
set_option maxRecDepth 100000 in
theorem wd_1131 : (.code y_M_rule prog_10_method_35_code 2 (some .int) : Cond) ∈ tbg := tbg_c5 171 rfl rfl
theorem wd_1132 : (.methodLink "QuotaLawsLaw" 39 y_M_law : Cond) ∈ tbg := tbg_c5 172 (by decide +kernel) rfl
theorem wd_1133 : (.instanceMethod y_M_law : Cond) ∈ tbg := tbg_c5 173 (by decide +kernel) rfl
theorem wd_1134 : (.selects "QuotaLawsModel" y_M_law y_M_law : Cond) ∈ tbg := tbg_c5 174 (by decide +kernel) rfl
set_option maxRecDepth 100000 in
theorem wd_1135 : (.code y_M_law prog_10_method_36_code 3 (some .int) : Cond) ∈ tbg := tbg_c5 175 rfl rfl
theorem wd_1136 : (.methodLink "QuotaLawsModel" 210 y_M_isLaw : Cond) ∈ tbg := tbg_c5 176 (by decide +kernel) rfl
theorem wd_1138 : (.instanceMethod y_M_isLaw : Cond) ∈ tbg := tbg_c5 178 (by decide +kernel) rfl
set_option maxRecDepth 100000 in
theorem wd_1139 : (.code y_M_isLaw prog_10_method_23_code 2 (some .boolean) : Cond) ∈ tbg := tbg_c5 179 rfl rfl
theorem wd_1140 : (.methodLink "QuotaLawsModel" 204 y_M_needOf : Cond) ∈ tbg := tbg_c5 180 (by decide +kernel) rfl
theorem wd_1142 : (.instanceMethod y_M_needOf : Cond) ∈ tbg := tbg_c5 182 (by decide +kernel) rfl
set_option maxRecDepth 100000 in
theorem wd_1143 : (.code y_M_needOf prog_10_method_29_code 4 (some .int) : Cond) ∈ tbg := tbg_c5 183 rfl rfl
theorem wd_1144 : (.methodLink "QuotaLawsModel" 191 y_M_doesStand : Cond) ∈ tbg := tbg_c5 184 (by decide +kernel) rfl
theorem wd_1146 : (.instanceMethod y_M_doesStand : Cond) ∈ tbg := tbg_c5 186 (by decide +kernel) rfl
set_option maxRecDepth 100000 in
theorem wd_1147 : (.code y_M_doesStand prog_10_method_26_code 2 (some .boolean) : Cond) ∈ tbg := tbg_c5 187 rfl rfl
theorem wd_1148 : (.methodLink "QuotaLawsModel" 188 y_M_brokenBy : Cond) ∈ tbg := tbg_c5 188 (by decide +kernel) rfl
theorem wd_1150 : (.instanceMethod y_M_brokenBy : Cond) ∈ tbg := tbg_c5 190 (by decide +kernel) rfl
set_option maxRecDepth 100000 in
theorem wd_1151 : (.code y_M_brokenBy prog_10_method_27_code 3 (some .int) : Cond) ∈ tbg := tbg_c5 191 rfl rfl
theorem wd_1152 : (.methodLink "QuotaLawsModel" 207 y_M_chainOf : Cond) ∈ tbg := tbg_c5 192 (by decide +kernel) rfl
theorem wd_1154 : (.instanceMethod y_M_chainOf : Cond) ∈ tbg := tbg_c5 194 (by decide +kernel) rfl
set_option maxRecDepth 100000 in
theorem wd_1155 : (.code y_M_chainOf prog_10_method_30_code 4 (some .int) : Cond) ∈ tbg := tbg_c5 195 rfl rfl
theorem wd_1156 : (.methodLink "QuotaLawsLaw" 43 y_M_one : Cond) ∈ tbg := tbg_c5 196 (by decide +kernel) rfl
theorem wd_1157 : (.instanceMethod y_M_one : Cond) ∈ tbg := tbg_c5 197 (by decide +kernel) rfl
theorem wd_1158 : (.selects "QuotaLawsModel" y_M_one y_M_one : Cond) ∈ tbg := tbg_c5 198 (by decide +kernel) rfl
set_option maxRecDepth 100000 in
theorem wd_1159 : (.code y_M_one prog_10_method_37_code 5 (some .int) : Cond) ∈ tbg := tbg_c5 199 rfl rfl
theorem wd_1160 : (.methodLink "QuotaLawsModel" 213 y_M_isOne : Cond) ∈ tbg := tbg_c5 200 (by decide +kernel) rfl
theorem wd_1162 : (.instanceMethod y_M_isOne : Cond) ∈ tbg := tbg_c5 202 (by decide +kernel) rfl
set_option maxRecDepth 100000 in
theorem wd_1163 : (.code y_M_isOne prog_10_method_24_code 2 (some .boolean) : Cond) ∈ tbg := tbg_c5 203 rfl rfl
theorem wd_1164 : (.methodLink "QuotaLawsModel" 216 y_M_canBreak : Cond) ∈ tbg := tbg_c5 204 (by decide +kernel) rfl
theorem wd_1166 : (.instanceMethod y_M_canBreak : Cond) ∈ tbg := tbg_c5 206 (by decide +kernel) rfl
set_option maxRecDepth 100000 in
theorem wd_1167 : (.code y_M_canBreak prog_10_method_33_code 3 (some .boolean) : Cond) ∈ tbg := tbg_c5 207 rfl rfl
theorem wd_1168 : (.methodLink "QuotaLawsModel" 198 y_M_roomOf : Cond) ∈ tbg := tbg_c5 208 (by decide +kernel) rfl
theorem wd_1170 : (.instanceMethod y_M_roomOf : Cond) ∈ tbg := tbg_c5 210 (by decide +kernel) rfl
set_option maxRecDepth 100000 in
theorem wd_1171 : (.code y_M_roomOf prog_10_method_31_code 5 (some .int) : Cond) ∈ tbg := tbg_c5 211 rfl rfl
theorem wd_1172 : (.methodLink "QuotaLawsModel" 201 y_M_timeLeft : Cond) ∈ tbg := tbg_c5 212 (by decide +kernel) rfl
theorem wd_1174 : (.instanceMethod y_M_timeLeft : Cond) ∈ tbg := tbg_c5 214 (by decide +kernel) rfl
set_option maxRecDepth 100000 in
theorem wd_1175 : (.code y_M_timeLeft prog_10_method_32_code 3 (some .int) : Cond) ∈ tbg := tbg_c5 215 rfl rfl
theorem wd_1176 : (.methodLink "QuotaLawsModel" 195 y_M_allBy : Cond) ∈ tbg := tbg_c5 216 (by decide +kernel) rfl
theorem wd_1178 : (.instanceMethod y_M_allBy : Cond) ∈ tbg := tbg_c5 218 (by decide +kernel) rfl
set_option maxRecDepth 100000 in
theorem wd_1179 : (.code y_M_allBy prog_10_method_28_code 4 (some .int) : Cond) ∈ tbg := tbg_c5 219 rfl rfl
theorem wd_1180 : (.methodLink "QuotaLawsModel" 220 y_M_flag : Cond) ∈ tbg := tbg_c5 220 (by decide +kernel) rfl
theorem wd_1181 : (.static y_M_flag : Cond) ∈ tbg := tbg_c5 221 (by decide +kernel) rfl
set_option maxRecDepth 100000 in
theorem wd_1182 : (.code y_M_flag prog_10_method_4_code 1 (some .int) : Cond) ∈ tbg := tbg_c5 222 rfl rfl
theorem wd_1183 : (.methodLink "QuotaLawsLaw" 47 y_M_broken : Cond) ∈ tbg := tbg_c5 223 (by decide +kernel) rfl
theorem wd_1184 : (.instanceMethod y_M_broken : Cond) ∈ tbg := tbg_c5 224 (by decide +kernel) rfl
theorem wd_1185 : (.selects "QuotaLawsModel" y_M_broken y_M_broken : Cond) ∈ tbg := tbg_c5 225 (by decide +kernel) rfl
set_option maxRecDepth 100000 in
theorem wd_1186 : (.code y_M_broken prog_10_method_38_code 3 (some .int) : Cond) ∈ tbg := tbg_c5 226 rfl rfl
theorem wd_1187 : (.methodLink "QuotaLawsLaw" 51 y_M_quota : Cond) ∈ tbg := tbg_c5 227 (by decide +kernel) rfl
theorem wd_1188 : (.instanceMethod y_M_quota : Cond) ∈ tbg := tbg_c5 228 (by decide +kernel) rfl
theorem wd_1189 : (.selects "QuotaLawsModel" y_M_quota y_M_quota : Cond) ∈ tbg := tbg_c5 229 (by decide +kernel) rfl
set_option maxRecDepth 100000 in
theorem wd_1190 : (.code y_M_quota prog_10_method_41_code 3 (some .int) : Cond) ∈ tbg := tbg_c5 230 rfl rfl
theorem wd_1191 : (.constantLong "QuotaLawsModel" 224 (9) : Cond) ∈ tbg := tbg_c5 231 (by decide +kernel) rfl
theorem wd_1192 : (.methodLink "QuotaLawsModel" 226 y_M_becomes : Cond) ∈ tbg := tbg_c5 232 (by decide +kernel) rfl
theorem wd_1194 : (.instanceMethod y_M_becomes : Cond) ∈ tbg := tbg_c5 234 (by decide +kernel) rfl
set_option maxRecDepth 100000 in
theorem wd_1195 : (.code y_M_becomes prog_10_method_39_code 4 (some .int) : Cond) ∈ tbg := tbg_c5 235 rfl rfl
theorem wd_1196 : (.methodLink "QuotaLawsLaw" 55 y_M_carry : Cond) ∈ tbg := tbg_c5 236 (by decide +kernel) rfl
theorem wd_1197 : (.instanceMethod y_M_carry : Cond) ∈ tbg := tbg_c5 237 (by decide +kernel) rfl
theorem wd_1198 : (.selects "QuotaLawsModel" y_M_carry y_M_carry : Cond) ∈ tbg := tbg_c5 238 (by decide +kernel) rfl
set_option maxRecDepth 100000 in
theorem wd_1199 : (.code y_M_carry prog_10_method_42_code 3 (some .int) : Cond) ∈ tbg := tbg_c5 239 rfl rfl
theorem wd_1200 : (.methodLink "QuotaLawsLaw" 60 y_M_watch : Cond) ∈ tbg := tbg_c6 0 (by decide +kernel) rfl
theorem wd_1201 : (.instanceMethod y_M_watch : Cond) ∈ tbg := tbg_c6 1 (by decide +kernel) rfl
theorem wd_1202 : (.selects "QuotaLawsModel" y_M_watch y_M_watch : Cond) ∈ tbg := tbg_c6 2 (by decide +kernel) rfl
set_option maxRecDepth 100000 in
theorem wd_1203 : (.code y_M_watch prog_10_method_43_code 3 (some .int) : Cond) ∈ tbg := tbg_c6 3 rfl rfl
theorem wd_1204 : (.methodLink "QuotaLawsModel" 229 y_M_becomesBit : Cond) ∈ tbg := tbg_c6 4 (by decide +kernel) rfl
theorem wd_1206 : (.instanceMethod y_M_becomesBit : Cond) ∈ tbg := tbg_c6 6 (by decide +kernel) rfl
set_option maxRecDepth 100000 in
theorem wd_1207 : (.code y_M_becomesBit prog_10_method_40_code 5 (some .int) : Cond) ∈ tbg := tbg_c6 7 rfl rfl
theorem wd_1208 : (.methodLink "QuotaLawsLaw" 64 y_M_time : Cond) ∈ tbg := tbg_c6 8 (by decide +kernel) rfl
theorem wd_1209 : (.instanceMethod y_M_time : Cond) ∈ tbg := tbg_c6 9 (by decide +kernel) rfl
theorem wd_1210 : (.selects "QuotaLawsModel" y_M_time y_M_time : Cond) ∈ tbg := tbg_c6 10 (by decide +kernel) rfl
set_option maxRecDepth 100000 in
theorem wd_1211 : (.code y_M_time prog_10_method_44_code 3 (some .int) : Cond) ∈ tbg := tbg_c6 11 rfl rfl
theorem wd_1212 : (.constantLong "QuotaLawsModel" 233 (5) : Cond) ∈ tbg := tbg_c6 12 (by decide +kernel) rfl
theorem wd_1213 : (.methodLink "QuotaLawsLaw" 69 y_M_refuse : Cond) ∈ tbg := tbg_c6 13 (by decide +kernel) rfl
theorem wd_1214 : (.instanceMethod y_M_refuse : Cond) ∈ tbg := tbg_c6 14 (by decide +kernel) rfl
theorem wd_1215 : (.selects "QuotaLawsModel" y_M_refuse y_M_refuse : Cond) ∈ tbg := tbg_c6 15 (by decide +kernel) rfl
set_option maxRecDepth 100000 in
theorem wd_1216 : (.code y_M_refuse prog_10_method_45_code 4 (some .int) : Cond) ∈ tbg := tbg_c6 16 rfl rfl
theorem wd_1217 : (.methodLink "QuotaLawsLaw" 73 y_M_want : Cond) ∈ tbg := tbg_c6 17 (by decide +kernel) rfl
theorem wd_1218 : (.instanceMethod y_M_want : Cond) ∈ tbg := tbg_c6 18 (by decide +kernel) rfl
theorem wd_1219 : (.selects "QuotaLawsModel" y_M_want y_M_want : Cond) ∈ tbg := tbg_c6 19 (by decide +kernel) rfl
set_option maxRecDepth 100000 in
theorem wd_1220 : (.code y_M_want prog_10_method_46_code 4 (some .int) : Cond) ∈ tbg := tbg_c6 20 rfl rfl
theorem wd_1221 : (.methodLink "QuotaLawsLaw" 77 y_M_fund : Cond) ∈ tbg := tbg_c6 21 (by decide +kernel) rfl
theorem wd_1222 : (.instanceMethod y_M_fund : Cond) ∈ tbg := tbg_c6 22 (by decide +kernel) rfl
theorem wd_1223 : (.selects "QuotaLawsModel" y_M_fund y_M_fund : Cond) ∈ tbg := tbg_c6 23 (by decide +kernel) rfl
set_option maxRecDepth 100000 in
theorem wd_1224 : (.code y_M_fund prog_10_method_47_code 3 (some .int) : Cond) ∈ tbg := tbg_c6 24 rfl rfl
theorem wd_1225 : (.constantLong "QuotaLawsModel" 235 (99) : Cond) ∈ tbg := tbg_c6 25 (by decide +kernel) rfl
theorem wd_1226 : (.methodLink "QuotaLawsLaw" 81 y_M_revive : Cond) ∈ tbg := tbg_c6 26 (by decide +kernel) rfl
theorem wd_1227 : (.instanceMethod y_M_revive : Cond) ∈ tbg := tbg_c6 27 (by decide +kernel) rfl
theorem wd_1228 : (.selects "QuotaLawsModel" y_M_revive y_M_revive : Cond) ∈ tbg := tbg_c6 28 (by decide +kernel) rfl
set_option maxRecDepth 100000 in
theorem wd_1229 : (.code y_M_revive prog_10_method_48_code 2 (some .int) : Cond) ∈ tbg := tbg_c6 29 rfl rfl
theorem wd_1230 : (.methodLink "QuotaLawsModel" 237 y_M_bitsOf : Cond) ∈ tbg := tbg_c6 30 (by decide +kernel) rfl
theorem wd_1231 : (.static y_M_bitsOf : Cond) ∈ tbg := tbg_c6 31 (by decide +kernel) rfl
set_option maxRecDepth 100000 in
theorem wd_1232 : (.code y_M_bitsOf prog_10_method_25_code 3 (some .int) : Cond) ∈ tbg := tbg_c6 32 rfl rfl
theorem wd_1233 : (.methodLink "QuotaLawsLaw" 85 y_M_breaks : Cond) ∈ tbg := tbg_c6 33 (by decide +kernel) rfl
theorem wd_1234 : (.instanceMethod y_M_breaks : Cond) ∈ tbg := tbg_c6 34 (by decide +kernel) rfl
theorem wd_1235 : (.selects "QuotaLawsModel" y_M_breaks y_M_breaks : Cond) ∈ tbg := tbg_c6 35 (by decide +kernel) rfl
set_option maxRecDepth 100000 in
theorem wd_1236 : (.code y_M_breaks prog_10_method_49_code 5 (some .int) : Cond) ∈ tbg := tbg_c6 36 rfl rfl
theorem wd_1237 : (.methodLink "QuotaLawsLaw" 89 y_M_year : Cond) ∈ tbg := tbg_c6 37 (by decide +kernel) rfl
theorem wd_1238 : (.instanceMethod y_M_year : Cond) ∈ tbg := tbg_c6 38 (by decide +kernel) rfl
theorem wd_1239 : (.selects "QuotaLawsModel" y_M_year y_M_year : Cond) ∈ tbg := tbg_c6 39 (by decide +kernel) rfl
set_option maxRecDepth 100000 in
theorem wd_1240 : (.code y_M_year prog_10_method_50_code 3 (some .int) : Cond) ∈ tbg := tbg_c6 40 rfl rfl
theorem wd_1241 : (.methodLink "QuotaLawsModel" 240 y_M_fallsNow : Cond) ∈ tbg := tbg_c6 41 (by decide +kernel) rfl
theorem wd_1243 : (.instanceMethod y_M_fallsNow : Cond) ∈ tbg := tbg_c6 43 (by decide +kernel) rfl
set_option maxRecDepth 100000 in
theorem wd_1244 : (.code y_M_fallsNow prog_10_method_34_code 3 (some .int) : Cond) ∈ tbg := tbg_c6 44 rfl rfl
theorem wd_1245 : (.methodLink "QuotaLawsLaw" 93 y_M_falls : Cond) ∈ tbg := tbg_c6 45 (by decide +kernel) rfl
theorem wd_1246 : (.instanceMethod y_M_falls : Cond) ∈ tbg := tbg_c6 46 (by decide +kernel) rfl
theorem wd_1247 : (.selects "QuotaLawsModel" y_M_falls y_M_falls : Cond) ∈ tbg := tbg_c6 47 (by decide +kernel) rfl
set_option maxRecDepth 100000 in
theorem wd_1248 : (.code y_M_falls prog_10_method_51_code 1 (some .int) : Cond) ∈ tbg := tbg_c6 48 rfl rfl
theorem wd_1249 : (.methodLink "QuotaLawsLaw" 97 y_M_most : Cond) ∈ tbg := tbg_c6 49 (by decide +kernel) rfl
theorem wd_1250 : (.instanceMethod y_M_most : Cond) ∈ tbg := tbg_c6 50 (by decide +kernel) rfl
theorem wd_1251 : (.selects "QuotaLawsModel" y_M_most y_M_most : Cond) ∈ tbg := tbg_c6 51 (by decide +kernel) rfl
set_option maxRecDepth 100000 in
theorem wd_1252 : (.code y_M_most prog_10_method_52_code 6 (some .int) : Cond) ∈ tbg := tbg_c6 52 rfl rfl
theorem wd_1253 : (.methodLink "QuotaLawsLaw" 101 y_M_rota : Cond) ∈ tbg := tbg_c6 53 (by decide +kernel) rfl
theorem wd_1254 : (.instanceMethod y_M_rota : Cond) ∈ tbg := tbg_c6 54 (by decide +kernel) rfl
theorem wd_1255 : (.selects "QuotaLawsModel" y_M_rota y_M_rota : Cond) ∈ tbg := tbg_c6 55 (by decide +kernel) rfl
set_option maxRecDepth 100000 in
theorem wd_1256 : (.code y_M_rota prog_10_method_60_code 7 (some .int) : Cond) ∈ tbg := tbg_c6 56 rfl rfl
theorem wd_1257 : (.methodLink "QuotaLawsModel" 260 y_M_startsRota : Cond) ∈ tbg := tbg_c6 57 (by decide +kernel) rfl
theorem wd_1259 : (.instanceMethod y_M_startsRota : Cond) ∈ tbg := tbg_c6 59 (by decide +kernel) rfl
set_option maxRecDepth 100000 in
theorem wd_1260 : (.code y_M_startsRota prog_10_method_58_code 3 none : Cond) ∈ tbg := tbg_c6 60 rfl rfl
theorem wd_1261 : (.methodLink "QuotaLawsModel" 263 y_M_findRota : Cond) ∈ tbg := tbg_c6 61 (by decide +kernel) rfl
theorem wd_1263 : (.instanceMethod y_M_findRota : Cond) ∈ tbg := tbg_c6 63 (by decide +kernel) rfl
set_option maxRecDepth 100000 in
theorem wd_1264 : (.code y_M_findRota prog_10_method_57_code 5 (some .int) : Cond) ∈ tbg := tbg_c6 64 rfl rfl
theorem wd_1265 : (.methodLink "QuotaLawsModel" 247 y_M_at : Cond) ∈ tbg := tbg_c6 65 (by decide +kernel) rfl
theorem wd_1266 : (.static y_M_at : Cond) ∈ tbg := tbg_c6 66 (by decide +kernel) rfl
set_option maxRecDepth 100000 in
theorem wd_1267 : (.code y_M_at prog_10_method_53_code 4 (some .int) : Cond) ∈ tbg := tbg_c6 67 rfl rfl
theorem wd_1268 : (.methodLink "QuotaLawsModel" 257 y_M_leastOf : Cond) ∈ tbg := tbg_c6 68 (by decide +kernel) rfl
theorem wd_1270 : (.instanceMethod y_M_leastOf : Cond) ∈ tbg := tbg_c6 70 (by decide +kernel) rfl
set_option maxRecDepth 100000 in
theorem wd_1271 : (.code y_M_leastOf prog_10_method_56_code 10 (some .int) : Cond) ∈ tbg := tbg_c6 71 rfl rfl
theorem wd_1272 : (.constant "QuotaLawsModel" 246 (1000000) : Cond) ∈ tbg := tbg_c6 72 (by decide +kernel) rfl
theorem wd_1273 : (.constantLong "QuotaLawsModel" 251 (3) : Cond) ∈ tbg := tbg_c6 73 (by decide +kernel) rfl
theorem wd_1274 : (.methodLink "QuotaLawsModel" 253 y_M_harmBy : Cond) ∈ tbg := tbg_c6 74 (by decide +kernel) rfl
theorem wd_1276 : (.instanceMethod y_M_harmBy : Cond) ∈ tbg := tbg_c6 76 (by decide +kernel) rfl
set_option maxRecDepth 100000 in
theorem wd_1277 : (.code y_M_harmBy prog_10_method_55_code 10 (some .int) : Cond) ∈ tbg := tbg_c6 77 rfl rfl
theorem wd_1278 : (.methodLink "QuotaLawsModel" 243 y_M_roomAt : Cond) ∈ tbg := tbg_c6 78 (by decide +kernel) rfl
theorem wd_1280 : (.instanceMethod y_M_roomAt : Cond) ∈ tbg := tbg_c6 80 (by decide +kernel) rfl
set_option maxRecDepth 100000 in
theorem wd_1281 : (.code y_M_roomAt prog_10_method_54_code 3 (some .int) : Cond) ∈ tbg := tbg_c6 81 rfl rfl
theorem wd_1282 : (.methodLink "QuotaLawsModel" 266 y_M_sharesOf : Cond) ∈ tbg := tbg_c6 82 (by decide +kernel) rfl
theorem wd_1284 : (.instanceMethod y_M_sharesOf : Cond) ∈ tbg := tbg_c6 84 (by decide +kernel) rfl
set_option maxRecDepth 100000 in
theorem wd_1285 : (.code y_M_sharesOf prog_10_method_59_code 10 none : Cond) ∈ tbg := tbg_c6 85 rfl rfl
theorem wd_1286 : (.methodLink "QuotaLawsLaw" 105 y_M_more : Cond) ∈ tbg := tbg_c6 86 (by decide +kernel) rfl
theorem wd_1287 : (.instanceMethod y_M_more : Cond) ∈ tbg := tbg_c6 87 (by decide +kernel) rfl
theorem wd_1288 : (.selects "QuotaLawsModel" y_M_more y_M_more : Cond) ∈ tbg := tbg_c6 88 (by decide +kernel) rfl
set_option maxRecDepth 100000 in
theorem wd_1289 : (.code y_M_more prog_10_method_61_code 5 (some .int) : Cond) ∈ tbg := tbg_c6 89 rfl rfl
theorem wd_1290 : (.methodLink "QuotaLawsLaw" 109 y_M_together : Cond) ∈ tbg := tbg_c6 90 (by decide +kernel) rfl
theorem wd_1291 : (.instanceMethod y_M_together : Cond) ∈ tbg := tbg_c6 91 (by decide +kernel) rfl
theorem wd_1292 : (.selects "QuotaLawsModel" y_M_together y_M_together : Cond) ∈ tbg := tbg_c6 92 (by decide +kernel) rfl
set_option maxRecDepth 100000 in
theorem wd_1293 : (.code y_M_together prog_10_method_62_code 6 (some .int) : Cond) ∈ tbg := tbg_c6 93 rfl rfl
theorem wd_1294 : (.methodLink "QuotaLawsLaw" 113 y_M_kill : Cond) ∈ tbg := tbg_c6 94 (by decide +kernel) rfl
theorem wd_1295 : (.instanceMethod y_M_kill : Cond) ∈ tbg := tbg_c6 95 (by decide +kernel) rfl
theorem wd_1296 : (.selects "QuotaLawsModel" y_M_kill y_M_kill : Cond) ∈ tbg := tbg_c6 96 (by decide +kernel) rfl
set_option maxRecDepth 100000 in
theorem wd_1297 : (.code y_M_kill prog_10_method_64_code 8 (some .int) : Cond) ∈ tbg := tbg_c6 97 rfl rfl
theorem wd_1298 : (.methodLink "QuotaLawsModel" 270 y_M_triesOf : Cond) ∈ tbg := tbg_c6 98 (by decide +kernel) rfl
theorem wd_1300 : (.instanceMethod y_M_triesOf : Cond) ∈ tbg := tbg_c6 100 (by decide +kernel) rfl
set_option maxRecDepth 100000 in
theorem wd_1301 : (.code y_M_triesOf prog_10_method_63_code 4 (some .int) : Cond) ∈ tbg := tbg_c6 101 rfl rfl
theorem wd_1302 : (.methodLink "QuotaLawsLaw" 117 y_M_selfish : Cond) ∈ tbg := tbg_c6 102 (by decide +kernel) rfl
theorem wd_1303 : (.instanceMethod y_M_selfish : Cond) ∈ tbg := tbg_c6 103 (by decide +kernel) rfl
theorem wd_1304 : (.selects "QuotaLawsModel" y_M_selfish y_M_selfish : Cond) ∈ tbg := tbg_c6 104 (by decide +kernel) rfl
set_option maxRecDepth 100000 in
theorem wd_1305 : (.code y_M_selfish prog_10_method_68_code 7 (some .int) : Cond) ∈ tbg := tbg_c6 105 rfl rfl
theorem wd_1306 : (.constantLong "QuotaLawsModel" 273 (2) : Cond) ∈ tbg := tbg_c6 106 (by decide +kernel) rfl
theorem wd_1307 : (.methodLink "QuotaLawsModel" 275 y_M_saves : Cond) ∈ tbg := tbg_c6 107 (by decide +kernel) rfl
theorem wd_1309 : (.instanceMethod y_M_saves : Cond) ∈ tbg := tbg_c6 109 (by decide +kernel) rfl
set_option maxRecDepth 100000 in
theorem wd_1310 : (.code y_M_saves prog_10_method_65_code 2 none : Cond) ∈ tbg := tbg_c6 110 rfl rfl
theorem wd_1311 : (.methodLink "QuotaLawsModel" 278 y_M_wantedBy : Cond) ∈ tbg := tbg_c6 111 (by decide +kernel) rfl
theorem wd_1313 : (.instanceMethod y_M_wantedBy : Cond) ∈ tbg := tbg_c6 113 (by decide +kernel) rfl
set_option maxRecDepth 100000 in
theorem wd_1314 : (.code y_M_wantedBy prog_10_method_67_code 5 (some .int) : Cond) ∈ tbg := tbg_c6 114 rfl rfl
theorem wd_1315 : (.methodLink "QuotaLawsModel" 281 y_M_returns : Cond) ∈ tbg := tbg_c6 115 (by decide +kernel) rfl
theorem wd_1317 : (.instanceMethod y_M_returns : Cond) ∈ tbg := tbg_c6 117 (by decide +kernel) rfl
set_option maxRecDepth 100000 in
theorem wd_1318 : (.code y_M_returns prog_10_method_66_code 2 none : Cond) ∈ tbg := tbg_c6 118 rfl rfl
theorem wd_1319 : (.methodLink "QuotaLawsLaw" 122 y_M_luck : Cond) ∈ tbg := tbg_c6 119 (by decide +kernel) rfl
theorem wd_1320 : (.instanceMethod y_M_luck : Cond) ∈ tbg := tbg_c6 120 (by decide +kernel) rfl
theorem wd_1321 : (.selects "QuotaLawsModel" y_M_luck y_M_luck : Cond) ∈ tbg := tbg_c6 121 (by decide +kernel) rfl
set_option maxRecDepth 100000 in
theorem wd_1322 : (.code y_M_luck prog_10_method_70_code 10 (some .long) : Cond) ∈ tbg := tbg_c6 122 rfl rfl
theorem wd_1323 : (.constantLong "QuotaLawsModel" 284 (-1) : Cond) ∈ tbg := tbg_c6 123 (by decide +kernel) rfl
theorem wd_1324 : (.constantLong "QuotaLawsModel" 286 (10) : Cond) ∈ tbg := tbg_c6 124 (by decide +kernel) rfl
theorem wd_1325 : (.methodLink "QuotaLawsModel" 288 y_M_common : Cond) ∈ tbg := tbg_c6 125 (by decide +kernel) rfl
theorem wd_1326 : (.static y_M_common : Cond) ∈ tbg := tbg_c6 126 (by decide +kernel) rfl
set_option maxRecDepth 100000 in
theorem wd_1327 : (.code y_M_common prog_10_method_69_code 10 (some .long) : Cond) ∈ tbg := tbg_c6 127 rfl rfl
theorem wd_1328 : (.methodLink "QuotaLawsLaw" 127 y_M_see : Cond) ∈ tbg := tbg_c6 128 (by decide +kernel) rfl
theorem wd_1329 : (.instanceMethod y_M_see : Cond) ∈ tbg := tbg_c6 129 (by decide +kernel) rfl
theorem wd_1330 : (.selects "QuotaLawsModel" y_M_see y_M_see : Cond) ∈ tbg := tbg_c6 130 (by decide +kernel) rfl
set_option maxRecDepth 100000 in
theorem wd_1331 : (.code y_M_see prog_10_method_71_code 6 (some .int) : Cond) ∈ tbg := tbg_c6 131 rfl rfl
theorem wd_1332 : (.constantLong "QuotaLawsModel" 292 (20) : Cond) ∈ tbg := tbg_c6 132 (by decide +kernel) rfl
theorem wd_1333 : (.methodLink "QuotaLawsLaw" 131 y_M_forget : Cond) ∈ tbg := tbg_c6 133 (by decide +kernel) rfl
theorem wd_1334 : (.instanceMethod y_M_forget : Cond) ∈ tbg := tbg_c6 134 (by decide +kernel) rfl
theorem wd_1335 : (.selects "QuotaLawsModel" y_M_forget y_M_forget : Cond) ∈ tbg := tbg_c6 135 (by decide +kernel) rfl
set_option maxRecDepth 100000 in
theorem wd_1336 : (.code y_M_forget prog_10_method_72_code 2 (some .int) : Cond) ∈ tbg := tbg_c6 136 rfl rfl
theorem wd_1337 : (.methodLink "QuotaLawsLaw" 136 y_M_books : Cond) ∈ tbg := tbg_c6 137 (by decide +kernel) rfl
theorem wd_1338 : (.instanceMethod y_M_books : Cond) ∈ tbg := tbg_c6 138 (by decide +kernel) rfl
theorem wd_1339 : (.selects "QuotaLawsModel" y_M_books y_M_books : Cond) ∈ tbg := tbg_c6 139 (by decide +kernel) rfl
set_option maxRecDepth 100000 in
theorem wd_1340 : (.code y_M_books prog_10_method_80_code 1 (some .long) : Cond) ∈ tbg := tbg_c6 140 rfl rfl
theorem wd_1341 : (.methodLink "QuotaLawsModel" 315 y_M_tablesBy : Cond) ∈ tbg := tbg_c6 141 (by decide +kernel) rfl
theorem wd_1343 : (.instanceMethod y_M_tablesBy : Cond) ∈ tbg := tbg_c6 143 (by decide +kernel) rfl
set_option maxRecDepth 100000 in
theorem wd_1344 : (.code y_M_tablesBy prog_10_method_79_code 7 (some .long) : Cond) ∈ tbg := tbg_c6 144 rfl rfl
theorem wd_1345 : (.methodLink "QuotaLawsModel" 309 y_M_addsLaw : Cond) ∈ tbg := tbg_c6 145 (by decide +kernel) rfl
theorem wd_1347 : (.instanceMethod y_M_addsLaw : Cond) ∈ tbg := tbg_c6 147 (by decide +kernel) rfl
set_option maxRecDepth 100000 in
theorem wd_1348 : (.code y_M_addsLaw prog_10_method_76_code 9 none : Cond) ∈ tbg := tbg_c6 148 rfl rfl
theorem wd_1349 : (.methodLink "QuotaLawsModel" 294 y_M_mostOf : Cond) ∈ tbg := tbg_c6 149 (by decide +kernel) rfl
theorem wd_1351 : (.instanceMethod y_M_mostOf : Cond) ∈ tbg := tbg_c6 151 (by decide +kernel) rfl
set_option maxRecDepth 100000 in
theorem wd_1352 : (.code y_M_mostOf prog_10_method_74_code 3 (some .int) : Cond) ∈ tbg := tbg_c6 152 rfl rfl
theorem wd_1353 : (.methodLink "QuotaLawsModel" 297 y_M_isSo : Cond) ∈ tbg := tbg_c6 153 (by decide +kernel) rfl
theorem wd_1355 : (.instanceMethod y_M_isSo : Cond) ∈ tbg := tbg_c6 155 (by decide +kernel) rfl
set_option maxRecDepth 100000 in
theorem wd_1356 : (.code y_M_isSo prog_10_method_73_code 7 (some .boolean) : Cond) ∈ tbg := tbg_c6 156 rfl rfl
theorem wd_1357 : (.methodLink "QuotaLawsModel" 301 y_M_isAsked : Cond) ∈ tbg := tbg_c6 157 (by decide +kernel) rfl
theorem wd_1359 : (.instanceMethod y_M_isAsked : Cond) ∈ tbg := tbg_c6 159 (by decide +kernel) rfl
set_option maxRecDepth 100000 in
theorem wd_1360 : (.code y_M_isAsked prog_10_method_75_code 7 (some .boolean) : Cond) ∈ tbg := tbg_c6 160 rfl rfl
theorem wd_1361 : (.methodLink "QuotaLawsModel" 305 y_M_addsTables : Cond) ∈ tbg := tbg_c6 161 (by decide +kernel) rfl
theorem wd_1363 : (.instanceMethod y_M_addsTables : Cond) ∈ tbg := tbg_c6 163 (by decide +kernel) rfl
set_option maxRecDepth 100000 in
theorem wd_1364 : (.code y_M_addsTables prog_10_method_77_code 8 none : Cond) ∈ tbg := tbg_c6 164 rfl rfl
theorem wd_1365 : (.methodLink "QuotaLawsModel" 312 y_M_isTime : Cond) ∈ tbg := tbg_c6 165 (by decide +kernel) rfl
theorem wd_1367 : (.instanceMethod y_M_isTime : Cond) ∈ tbg := tbg_c6 167 (by decide +kernel) rfl
set_option maxRecDepth 100000 in
theorem wd_1368 : (.code y_M_isTime prog_10_method_78_code 3 (some .boolean) : Cond) ∈ tbg := tbg_c6 168 rfl rfl
theorem wd_1369 : (.methodLink "QuotaLawsLaw" 140 y_M_entry : Cond) ∈ tbg := tbg_c6 169 (by decide +kernel) rfl
theorem wd_1370 : (.instanceMethod y_M_entry : Cond) ∈ tbg := tbg_c6 170 (by decide +kernel) rfl
theorem wd_1371 : (.selects "QuotaLawsModel" y_M_entry y_M_entry : Cond) ∈ tbg := tbg_c6 171 (by decide +kernel) rfl
set_option maxRecDepth 100000 in
theorem wd_1372 : (.code y_M_entry prog_10_method_81_code 8 (some .int) : Cond) ∈ tbg := tbg_c6 172 rfl rfl
theorem wd_1373 : (.methodLink "QuotaLawsLaw" 144 y_M_wild : Cond) ∈ tbg := tbg_c6 173 (by decide +kernel) rfl
theorem wd_1374 : (.instanceMethod y_M_wild : Cond) ∈ tbg := tbg_c6 174 (by decide +kernel) rfl
theorem wd_1375 : (.selects "QuotaLawsModel" y_M_wild y_M_wild : Cond) ∈ tbg := tbg_c6 175 (by decide +kernel) rfl
set_option maxRecDepth 100000 in
theorem wd_1376 : (.code y_M_wild prog_10_method_82_code 8 (some .int) : Cond) ∈ tbg := tbg_c6 176 rfl rfl
theorem wd_1377 : (.constantLong "QuotaLawsModel" 319 (60) : Cond) ∈ tbg := tbg_c6 177 (by decide +kernel) rfl
theorem wd_1378 : (.constant "QuotaLawsModel" 321 (1103515245) : Cond) ∈ tbg := tbg_c6 178 (by decide +kernel) rfl
theorem wd_1379 : (.methodLink "QuotaLawsModel" 322 y_M_breaks : Cond) ∈ tbg := tbg_c6 179 (by decide +kernel) rfl
theorem wd_1380 : (.methodLink "QuotaLawsLaw" 148 y_M_keep : Cond) ∈ tbg := tbg_c6 180 (by decide +kernel) rfl
theorem wd_1381 : (.instanceMethod y_M_keep : Cond) ∈ tbg := tbg_c6 181 (by decide +kernel) rfl
theorem wd_1382 : (.selects "QuotaLawsModel" y_M_keep y_M_keep : Cond) ∈ tbg := tbg_c6 182 (by decide +kernel) rfl
set_option maxRecDepth 100000 in
theorem wd_1383 : (.code y_M_keep prog_10_method_84_code 3 (some .int) : Cond) ∈ tbg := tbg_c6 183 rfl rfl
theorem wd_1384 : (.methodLink "QuotaLawsModel" 325 y_M_copies : Cond) ∈ tbg := tbg_c6 184 (by decide +kernel) rfl
theorem wd_1386 : (.instanceMethod y_M_copies : Cond) ∈ tbg := tbg_c6 186 (by decide +kernel) rfl
set_option maxRecDepth 100000 in
theorem wd_1387 : (.code y_M_copies prog_10_method_83_code 4 none : Cond) ∈ tbg := tbg_c6 187 rfl rfl
theorem wd_1388 : (.methodLink "QuotaLawsLaw" 152 y_M_back : Cond) ∈ tbg := tbg_c6 188 (by decide +kernel) rfl
theorem wd_1389 : (.instanceMethod y_M_back : Cond) ∈ tbg := tbg_c6 189 (by decide +kernel) rfl
theorem wd_1390 : (.selects "QuotaLawsModel" y_M_back y_M_back : Cond) ∈ tbg := tbg_c6 190 (by decide +kernel) rfl
set_option maxRecDepth 100000 in
theorem wd_1391 : (.code y_M_back prog_10_method_85_code 2 (some .int) : Cond) ∈ tbg := tbg_c6 191 rfl rfl
theorem wd_1392 : (.methodLink "QuotaLawsLaw" 156 y_M_sheet : Cond) ∈ tbg := tbg_c6 192 (by decide +kernel) rfl
theorem wd_1393 : (.instanceMethod y_M_sheet : Cond) ∈ tbg := tbg_c6 193 (by decide +kernel) rfl
theorem wd_1394 : (.selects "QuotaLawsModel" y_M_sheet y_M_sheet : Cond) ∈ tbg := tbg_c6 194 (by decide +kernel) rfl
set_option maxRecDepth 100000 in
theorem wd_1395 : (.code y_M_sheet prog_10_method_87_code 5 (some .int) : Cond) ∈ tbg := tbg_c6 195 rfl rfl
theorem wd_1396 : (.methodLink "QuotaLawsModel" 329 y_M_isSheet : Cond) ∈ tbg := tbg_c6 196 (by decide +kernel) rfl
theorem wd_1397 : (.static y_M_isSheet : Cond) ∈ tbg := tbg_c6 197 (by decide +kernel) rfl
set_option maxRecDepth 100000 in
theorem wd_1398 : (.code y_M_isSheet prog_10_method_86_code 2 (some .boolean) : Cond) ∈ tbg := tbg_c6 198 rfl rfl
theorem wd_1399 : (.methodLink "QuotaLawsLaw" 160 y_M_lay : Cond) ∈ tbg := tbg_c6 199 (by decide +kernel) rfl
theorem wd_1400 : (.instanceMethod y_M_lay : Cond) ∈ tbg := tbg_c6 200 (by decide +kernel) rfl
theorem wd_1401 : (.selects "QuotaLawsModel" y_M_lay y_M_lay : Cond) ∈ tbg := tbg_c6 201 (by decide +kernel) rfl
set_option maxRecDepth 100000 in
theorem wd_1402 : (.code y_M_lay prog_10_method_88_code 4 (some .int) : Cond) ∈ tbg := tbg_c6 202 rfl rfl
theorem wd_1403 : (.methodLink "QuotaLawsLaw" 165 y_M_read : Cond) ∈ tbg := tbg_c6 203 (by decide +kernel) rfl
theorem wd_1404 : (.instanceMethod y_M_read : Cond) ∈ tbg := tbg_c6 204 (by decide +kernel) rfl
theorem wd_1405 : (.selects "QuotaLawsModel" y_M_read y_M_read : Cond) ∈ tbg := tbg_c6 205 (by decide +kernel) rfl
set_option maxRecDepth 100000 in
theorem wd_1406 : (.code y_M_read prog_10_method_89_code 11 (some .int) : Cond) ∈ tbg := tbg_c6 206 rfl rfl
theorem wd_1407 : (.methodLink "QuotaLawsLaw" 169 y_M_torn : Cond) ∈ tbg := tbg_c6 207 (by decide +kernel) rfl
theorem wd_1408 : (.instanceMethod y_M_torn : Cond) ∈ tbg := tbg_c6 208 (by decide +kernel) rfl
theorem wd_1409 : (.selects "QuotaLawsModel" y_M_torn y_M_torn : Cond) ∈ tbg := tbg_c6 209 (by decide +kernel) rfl
set_option maxRecDepth 100000 in
theorem wd_1410 : (.code y_M_torn prog_10_method_90_code 1 (some .int) : Cond) ∈ tbg := tbg_c6 210 rfl rfl
theorem wd_1411 : (.methodLink "QuotaLawsLaw" 173 y_M_count : Cond) ∈ tbg := tbg_c6 211 (by decide +kernel) rfl
theorem wd_1412 : (.instanceMethod y_M_count : Cond) ∈ tbg := tbg_c6 212 (by decide +kernel) rfl
theorem wd_1413 : (.selects "QuotaLawsModel" y_M_count y_M_count : Cond) ∈ tbg := tbg_c6 213 (by decide +kernel) rfl
set_option maxRecDepth 100000 in
theorem wd_1414 : (.code y_M_count prog_10_method_91_code 6 (some .int) : Cond) ∈ tbg := tbg_c6 214 rfl rfl
theorem wd_1415 : (.fieldLink "java/lang/String" 9 "java/lang/String" "value" "[B" : Cond) ∈ tbg := tbg_c6 215 (by decide +kernel) rfl
theorem wd_1416 : (.fieldLink "java/lang/String" 15 "java/lang/String" "coder" "B" : Cond) ∈ tbg := tbg_c6 216 (by decide +kernel) rfl
theorem wp_0 : (.selects "QuotaLaws$Reader" y_Reader_takeToken y_Reader_takeToken : Cond) ∈ tbg := tbg_in3 0 (by decide +kernel) rfl
theorem wp_1 : (.selects "QuotaLaws$Reader" y_Reader_passRun y_Reader_passRun : Cond) ∈ tbg := tbg_in3 1 (by decide +kernel) rfl
theorem wp_2 : (.selects "QuotaLaws$Reader" y_Reader_kindHere y_Reader_kindHere : Cond) ∈ tbg := tbg_in3 2 (by decide +kernel) rfl
theorem wp_3 : (.selects "QuotaLaws$Reader" y_Reader_valueOfRun y_Reader_valueOfRun : Cond) ∈ tbg := tbg_in3 3 (by decide +kernel) rfl
theorem wp_4 : (.selects "QuotaLaws$Reader" y_Reader_fail y_Reader_fail : Cond) ∈ tbg := tbg_in3 4 (by decide +kernel) rfl
theorem wp_5 : (.selects "QuotaLaws$Reader" y_Reader_takeLine y_Reader_takeLine : Cond) ∈ tbg := tbg_in3 5 (by decide +kernel) rfl
theorem wp_6 : (.selects "QuotaLaws$Reader" y_Reader_isWord y_Reader_isWord : Cond) ∈ tbg := tbg_in3 6 (by decide +kernel) rfl
theorem wp_7 : (.selects "QuotaLaws$Reader" y_Reader_takeLaw y_Reader_takeLaw : Cond) ∈ tbg := tbg_in3 7 (by decide +kernel) rfl
theorem wp_8 : (.selects "QuotaLaws$Reader" y_Reader_takeNumber y_Reader_takeNumber : Cond) ∈ tbg := tbg_in3 8 (by decide +kernel) rfl
theorem wp_9 : (.selects "QuotaLaws$Reader" y_Reader_isBounded y_Reader_isBounded : Cond) ∈ tbg := tbg_in3 9 (by decide +kernel) rfl
theorem wp_10 : (.selects "QuotaLaws$Reader" y_Reader_putInto y_Reader_putInto : Cond) ∈ tbg := tbg_in3 10 (by decide +kernel) rfl
theorem wp_11 : (.selects "QuotaLaws$Reader" y_Reader_takeCarried y_Reader_takeCarried : Cond) ∈ tbg := tbg_in3 11 (by decide +kernel) rfl
theorem wp_12 : (.selects "QuotaLaws$Reader" y_Reader_isStop y_Reader_isStop : Cond) ∈ tbg := tbg_in3 12 (by decide +kernel) rfl
theorem wp_13 : (.selects "QuotaLaws$Reader" y_Reader_takeOne y_Reader_takeOne : Cond) ∈ tbg := tbg_in3 13 (by decide +kernel) rfl
theorem wp_14 : (.selects "QuotaLaws$Reader" y_Reader_addLaw y_Reader_addLaw : Cond) ∈ tbg := tbg_in3 14 (by decide +kernel) rfl
theorem wp_15 : (.selects "QuotaLaws$Reader" y_Reader_takeWant y_Reader_takeWant : Cond) ∈ tbg := tbg_in3 15 (by decide +kernel) rfl
theorem wp_16 : (.selects "QuotaLaws$Reader" y_Reader_takeWatch y_Reader_takeWatch : Cond) ∈ tbg := tbg_in3 16 (by decide +kernel) rfl
theorem wp_17 : (.selects "QuotaLaws$Planner" y_Planner_leftToLast y_Planner_leftToLast : Cond) ∈ tbg := tbg_in3 17 (by decide +kernel) rfl
theorem wp_18 : (.selects "QuotaLaws$Planner" y_Planner_search y_Planner_search : Cond) ∈ tbg := tbg_in3 18 (by decide +kernel) rfl
theorem wp_19 : (.selects "QuotaLaws$Planner" y_Planner_needOfAll y_Planner_needOfAll : Cond) ∈ tbg := tbg_in3 19 (by decide +kernel) rfl
theorem wp_20 : (.selects "QuotaLaws$Planner" y_Planner_givenTo y_Planner_givenTo : Cond) ∈ tbg := tbg_in3 20 (by decide +kernel) rfl
theorem wp_21 : (.selects "QuotaLaws$Odds" y_Odds_addTry y_Odds_addTry : Cond) ∈ tbg := tbg_in3 21 (by decide +kernel) rfl
theorem wp_22 : (.selects "QuotaLaws$Odds" y_Odds_reduce y_Odds_reduce : Cond) ∈ tbg := tbg_in3 22 (by decide +kernel) rfl
theorem wp_23 : (.selects "QuotaLaws$Tables" y_Tables_spendAlone y_Tables_spendAlone : Cond) ∈ tbg := tbg_in3 23 (by decide +kernel) rfl
theorem wp_24 : (.selects "QuotaLaws$Tables" y_Tables_joinAll y_Tables_joinAll : Cond) ∈ tbg := tbg_in3 24 (by decide +kernel) rfl
theorem wp_25 : (.selects "QuotaLaws$Tables" y_Tables_spendTogether y_Tables_spendTogether : Cond) ∈ tbg := tbg_in3 25 (by decide +kernel) rfl
theorem wp_26 : (.selects "QuotaLaws$Tables" y_Tables_waysTo y_Tables_waysTo : Cond) ∈ tbg := tbg_in3 26 (by decide +kernel) rfl
theorem wp_27 : (.selects "QuotaLaws$Tables" y_Tables_sumOfDue y_Tables_sumOfDue : Cond) ∈ tbg := tbg_in3 27 (by decide +kernel) rfl
theorem wp_28 : (.selects "QuotaLaws$Tables" y_Tables_isDueOf y_Tables_isDueOf : Cond) ∈ tbg := tbg_in3 28 (by decide +kernel) rfl
theorem wp_29 : (.selects "QuotaLaws" y_Q_countKept y_Q_countKept : Cond) ∈ tbg := tbg_in3 29 (by decide +kernel) rfl
theorem wp_30 : (.selects "QuotaLawsModel" y_M_firstDraft y_M_firstDraft : Cond) ∈ tbg := tbg_in3 30 (by decide +kernel) rfl
theorem wp_31 : (.selects "QuotaLawsModel" y_M_keepDraft y_M_keepDraft : Cond) ∈ tbg := tbg_in3 31 (by decide +kernel) rfl
theorem wp_32 : (.selects "QuotaLawsModel" y_M_next y_M_next : Cond) ∈ tbg := tbg_in3 32 (by decide +kernel) rfl
theorem wp_33 : (.selects "QuotaLawsModel" y_M_look y_M_look : Cond) ∈ tbg := tbg_in3 33 (by decide +kernel) rfl
theorem wp_34 : (.selects "QuotaLawsModel" y_M_needs y_M_needs : Cond) ∈ tbg := tbg_in3 34 (by decide +kernel) rfl
theorem wp_35 : (.selects "QuotaLawsModel" y_M_readLine y_M_readLine : Cond) ∈ tbg := tbg_in3 35 (by decide +kernel) rfl
theorem wp_36 : (.selects "QuotaLawsModel" y_M_lineNow y_M_lineNow : Cond) ∈ tbg := tbg_in3 36 (by decide +kernel) rfl
theorem wp_37 : (.selects "QuotaLawsModel" y_M_is y_M_is : Cond) ∈ tbg := tbg_in3 37 (by decide +kernel) rfl
theorem wp_38 : (.selects "QuotaLawsModel" y_M_readLineOf y_M_readLineOf : Cond) ∈ tbg := tbg_in3 38 (by decide +kernel) rfl
theorem wp_39 : (.selects "QuotaLawsModel" y_M_readLaw y_M_readLaw : Cond) ∈ tbg := tbg_in3 39 (by decide +kernel) rfl
theorem wp_40 : (.selects "QuotaLawsModel" y_M_readNumber y_M_readNumber : Cond) ∈ tbg := tbg_in3 40 (by decide +kernel) rfl
theorem wp_41 : (.selects "QuotaLawsModel" y_M_looked y_M_looked : Cond) ∈ tbg := tbg_in3 41 (by decide +kernel) rfl
theorem wp_42 : (.selects "QuotaLawsModel" y_M_readLawOf y_M_readLawOf : Cond) ∈ tbg := tbg_in3 42 (by decide +kernel) rfl
theorem wp_43 : (.selects "QuotaLawsModel" y_M_readOne y_M_readOne : Cond) ∈ tbg := tbg_in3 43 (by decide +kernel) rfl
theorem wp_44 : (.selects "QuotaLawsModel" y_M_isLaw y_M_isLaw : Cond) ∈ tbg := tbg_in3 44 (by decide +kernel) rfl
theorem wp_45 : (.selects "QuotaLawsModel" y_M_needOf y_M_needOf : Cond) ∈ tbg := tbg_in3 45 (by decide +kernel) rfl
theorem wp_46 : (.selects "QuotaLawsModel" y_M_doesStand y_M_doesStand : Cond) ∈ tbg := tbg_in3 46 (by decide +kernel) rfl
theorem wp_47 : (.selects "QuotaLawsModel" y_M_brokenBy y_M_brokenBy : Cond) ∈ tbg := tbg_in3 47 (by decide +kernel) rfl
theorem wp_48 : (.selects "QuotaLawsModel" y_M_chainOf y_M_chainOf : Cond) ∈ tbg := tbg_in3 48 (by decide +kernel) rfl
theorem wp_49 : (.selects "QuotaLawsModel" y_M_isOne y_M_isOne : Cond) ∈ tbg := tbg_in3 49 (by decide +kernel) rfl
theorem wp_50 : (.selects "QuotaLawsModel" y_M_canBreak y_M_canBreak : Cond) ∈ tbg := tbg_in3 50 (by decide +kernel) rfl
theorem wp_51 : (.selects "QuotaLawsModel" y_M_roomOf y_M_roomOf : Cond) ∈ tbg := tbg_in3 51 (by decide +kernel) rfl
theorem wp_52 : (.selects "QuotaLawsModel" y_M_timeLeft y_M_timeLeft : Cond) ∈ tbg := tbg_in3 52 (by decide +kernel) rfl
theorem wp_53 : (.selects "QuotaLawsModel" y_M_allBy y_M_allBy : Cond) ∈ tbg := tbg_in3 53 (by decide +kernel) rfl
theorem wp_54 : (.selects "QuotaLawsModel" y_M_becomes y_M_becomes : Cond) ∈ tbg := tbg_in3 54 (by decide +kernel) rfl
theorem wp_55 : (.selects "QuotaLawsModel" y_M_becomesBit y_M_becomesBit : Cond) ∈ tbg := tbg_in3 55 (by decide +kernel) rfl
theorem wp_56 : (.selects "QuotaLawsModel" y_M_fallsNow y_M_fallsNow : Cond) ∈ tbg := tbg_in3 56 (by decide +kernel) rfl
theorem wp_57 : (.selects "QuotaLawsModel" y_M_startsRota y_M_startsRota : Cond) ∈ tbg := tbg_in3 57 (by decide +kernel) rfl
theorem wp_58 : (.selects "QuotaLawsModel" y_M_findRota y_M_findRota : Cond) ∈ tbg := tbg_in3 58 (by decide +kernel) rfl
theorem wp_59 : (.selects "QuotaLawsModel" y_M_leastOf y_M_leastOf : Cond) ∈ tbg := tbg_in3 59 (by decide +kernel) rfl
theorem wp_60 : (.selects "QuotaLawsModel" y_M_harmBy y_M_harmBy : Cond) ∈ tbg := tbg_in3 60 (by decide +kernel) rfl
theorem wp_61 : (.selects "QuotaLawsModel" y_M_roomAt y_M_roomAt : Cond) ∈ tbg := tbg_in3 61 (by decide +kernel) rfl
theorem wp_62 : (.selects "QuotaLawsModel" y_M_sharesOf y_M_sharesOf : Cond) ∈ tbg := tbg_in3 62 (by decide +kernel) rfl
theorem wp_63 : (.selects "QuotaLawsModel" y_M_triesOf y_M_triesOf : Cond) ∈ tbg := tbg_in3 63 (by decide +kernel) rfl
theorem wp_64 : (.selects "QuotaLawsModel" y_M_saves y_M_saves : Cond) ∈ tbg := tbg_in3 64 (by decide +kernel) rfl
theorem wp_65 : (.selects "QuotaLawsModel" y_M_wantedBy y_M_wantedBy : Cond) ∈ tbg := tbg_in3 65 (by decide +kernel) rfl
theorem wp_66 : (.selects "QuotaLawsModel" y_M_returns y_M_returns : Cond) ∈ tbg := tbg_in3 66 (by decide +kernel) rfl
theorem wp_67 : (.selects "QuotaLawsModel" y_M_tablesBy y_M_tablesBy : Cond) ∈ tbg := tbg_in3 67 (by decide +kernel) rfl
theorem wp_68 : (.selects "QuotaLawsModel" y_M_addsLaw y_M_addsLaw : Cond) ∈ tbg := tbg_in3 68 (by decide +kernel) rfl
theorem wp_69 : (.selects "QuotaLawsModel" y_M_mostOf y_M_mostOf : Cond) ∈ tbg := tbg_in3 69 (by decide +kernel) rfl
theorem wp_70 : (.selects "QuotaLawsModel" y_M_isSo y_M_isSo : Cond) ∈ tbg := tbg_in3 70 (by decide +kernel) rfl
theorem wp_71 : (.selects "QuotaLawsModel" y_M_isAsked y_M_isAsked : Cond) ∈ tbg := tbg_in3 71 (by decide +kernel) rfl
theorem wp_72 : (.selects "QuotaLawsModel" y_M_addsTables y_M_addsTables : Cond) ∈ tbg := tbg_in3 72 (by decide +kernel) rfl
theorem wp_73 : (.selects "QuotaLawsModel" y_M_isTime y_M_isTime : Cond) ∈ tbg := tbg_in3 73 (by decide +kernel) rfl
theorem wp_74 : (.selects "QuotaLawsModel" y_M_copies y_M_copies : Cond) ∈ tbg := tbg_in3 74 (by decide +kernel) rfl
theorem si_Sightings_new : site0 y_Sightings_new prog_7_method_1_code 1 none 0 := ⟨wd_75, wd_4, ⟨by decide, by decide⟩, by decide +kernel⟩
theorem si_Reader_new : site0 y_Reader_new prog_4_method_1_code 1 none 0 := ⟨wd_30, wd_2, ⟨by decide, by decide⟩, by decide +kernel⟩
theorem si_Realm_new : site0 y_Realm_new prog_5_method_1_code 1 none 0 := ⟨wd_69, wd_3, ⟨by decide, by decide⟩, by decide +kernel⟩
theorem si_Planner_new : site0 y_Planner_new prog_3_method_1_code 1 none 0 := ⟨wd_202, wd_5, ⟨by decide, by decide⟩, by decide +kernel⟩
theorem si_Tables_new : site0 y_Tables_new prog_8_method_1_code 1 none 0 := ⟨wd_234, wd_6, ⟨by decide, by decide⟩, by decide +kernel⟩
theorem si_Odds_new : site0 y_Odds_new prog_2_method_1_code 1 none 0 := ⟨wd_266, wd_7, ⟨by decide, by decide⟩, by decide +kernel⟩
theorem si_Sheet_new : site0 y_Sheet_new prog_6_method_1_code 1 none 0 := ⟨wd_283, wd_8, ⟨by decide, by decide⟩, by decide +kernel⟩
theorem si_Q_isWithin : site0 y_Q_isWithin prog_1_method_41_code 3 (some .boolean) 3 := ⟨wd_333, wd_1, ⟨by decide, by decide⟩, by decide +kernel⟩
theorem si_Reader_append : site0 y_Reader_append prog_4_method_2_code 2 (some .boolean) 1 := ⟨wd_337, wd_2, ⟨by decide, by decide⟩, by decide +kernel⟩
theorem si_Arrays_fillI : site0 y_Arrays_fillI prog_17_method_103_code 4 none 2 := ⟨wd_356, wd_10, ⟨by decide, by decide⟩, by decide +kernel⟩
theorem si_Reader_passRun : site0 y_Reader_passRun prog_4_method_19_code 3 none 2 := ⟨wd_364, wd_2, ⟨by decide, by decide⟩, by decide +kernel⟩
theorem si_Reader_kindHere : site0 y_Reader_kindHere prog_4_method_18_code 2 (some .int) 0 := ⟨wd_368, wd_2, ⟨by decide, by decide⟩, by decide +kernel⟩
theorem si_Reader_valueOfRun : site0 y_Reader_valueOfRun prog_4_method_20_code 3 (some .int) 0 := ⟨wd_372, wd_2, ⟨by decide, by decide⟩, by decide +kernel⟩
theorem si_Reader_fail : site0 y_Reader_fail prog_4_method_21_code 3 (some .boolean) 2 := ⟨wd_376, wd_2, ⟨by decide, by decide⟩, by decide +kernel⟩
theorem si_String_length : site0 y_String_length prog_13_method_54_code 1 (some .int) 0 := ⟨wd_389, wd_11, ⟨by decide, by decide⟩, by decide +kernel⟩
theorem si_String_charAt : site0 y_String_charAt prog_13_method_56_code 2 (some .char) 1 := ⟨wd_399, wd_11, ⟨by decide, by decide⟩, by decide +kernel⟩
theorem si_Reader_takeToken : site0 y_Reader_takeToken prog_4_method_17_code 1 (some .boolean) 0 := ⟨wd_360, wd_2, ⟨by decide, by decide⟩, by decide +kernel⟩
theorem si_Reader_isBounded : site0 y_Reader_isBounded prog_4_method_14_code 3 (some .boolean) 2 := ⟨wd_445, wd_2, ⟨by decide, by decide⟩, by decide +kernel⟩
theorem si_Reader_takeNumber : site0 y_Reader_takeNumber prog_4_method_13_code 3 (some .boolean) 2 := ⟨wd_441, wd_2, ⟨by decide, by decide⟩, by decide +kernel⟩
theorem si_Reader_putInto : site0 y_Reader_putInto prog_4_method_12_code 3 (some .boolean) 2 := ⟨wd_450, wd_2, ⟨by decide, by decide⟩, by decide +kernel⟩
theorem si_Reader_takeCarried : site0 y_Reader_takeCarried prog_4_method_6_code 3 (some .boolean) 2 := ⟨wd_454, wd_2, ⟨by decide, by decide⟩, by decide +kernel⟩
theorem si_Reader_isStop : site0 y_Reader_isStop prog_4_method_15_code 1 (some .boolean) 0 := ⟨wd_458, wd_2, ⟨by decide, by decide⟩, by decide +kernel⟩
theorem si_Q_hasBit : site0 y_Q_hasBit prog_1_method_42_code 2 (some .boolean) 2 := ⟨wd_470, wd_1, ⟨by decide, by decide⟩, by decide +kernel⟩
theorem si_Reader_addLaw : site0 y_Reader_addLaw prog_4_method_10_code 3 (some .boolean) 2 := ⟨wd_467, wd_2, ⟨by decide, by decide⟩, by decide +kernel⟩
theorem si_Reader_isWord : site0 y_Reader_isWord prog_4_method_16_code 3 (some .boolean) 1 := ⟨wd_385, wd_2, ⟨by decide, by decide⟩, by decide +kernel⟩
theorem si_Reader_takeWatch : site0 y_Reader_takeWatch prog_4_method_9_code 2 (some .boolean) 1 := ⟨wd_480, wd_2, ⟨by decide, by decide⟩, by decide +kernel⟩
theorem si_Reader_takeWant : site0 y_Reader_takeWant prog_4_method_8_code 3 (some .boolean) 1 := ⟨wd_475, wd_2, ⟨by decide, by decide⟩, by decide +kernel⟩
theorem si_Reader_takeOne : site0 y_Reader_takeOne prog_4_method_7_code 5 (some .boolean) 2 := ⟨wd_463, wd_2, ⟨by decide, by decide⟩, by decide +kernel⟩
theorem si_Reader_takeLaw : site0 y_Reader_takeLaw prog_4_method_5_code 3 (some .boolean) 2 := ⟨wd_437, wd_2, ⟨by decide, by decide⟩, by decide +kernel⟩
theorem si_Q_isPart : site0 y_Q_isPart prog_1_method_45_code 2 (some .boolean) 2 := ⟨wd_486, wd_1, ⟨by decide, by decide⟩, by decide +kernel⟩
theorem si_Realm_hasLaw : site0 y_Realm_hasLaw prog_5_method_4_code 2 (some .boolean) 1 := ⟨wd_490, wd_3, ⟨by decide, by decide⟩, by decide +kernel⟩
theorem si_Realm_hasOne : site0 y_Realm_hasOne prog_5_method_5_code 2 (some .boolean) 1 := ⟨wd_494, wd_3, ⟨by decide, by decide⟩, by decide +kernel⟩
theorem si_Realm_empty : site0 y_Realm_empty prog_5_method_2_code 1 none 0 := ⟨wd_353, wd_3, ⟨by decide, by decide⟩, by decide +kernel⟩
theorem si_Reader_takeLine : site0 y_Reader_takeLine prog_4_method_4_code 2 (some .boolean) 1 := ⟨wd_380, wd_2, ⟨by decide, by decide⟩, by decide +kernel⟩
theorem si_Reader_allThere : site0 y_Reader_allThere prog_4_method_11_code 4 (some .boolean) 1 := ⟨wd_483, wd_2, ⟨by decide, by decide⟩, by decide +kernel⟩
theorem si_Sightings_copyFrom : site0 y_Sightings_copyFrom prog_7_method_4_code 2 none 1 := ⟨wd_505, wd_4, ⟨by decide, by decide⟩, by decide +kernel⟩
theorem si_Reader_readInto : site0 y_Reader_readInto prog_4_method_3_code 4 (some .boolean) 1 := ⟨wd_349, wd_2, ⟨by decide, by decide⟩, by decide +kernel⟩
theorem si_Realm_copyFrom : site0 y_Realm_copyFrom prog_5_method_3_code 2 none 1 := ⟨wd_498, wd_3, ⟨by decide, by decide⟩, by decide +kernel⟩
theorem si_Realm_brokenBy : site0 y_Realm_brokenBy prog_5_method_7_code 3 (some .int) 2 := ⟨wd_528, wd_3, ⟨by decide, by decide⟩, by decide +kernel⟩
theorem si_Realm_needOf : site0 y_Realm_needOf prog_5_method_10_code 4 (some .int) 1 := ⟨wd_523, wd_3, ⟨by decide, by decide⟩, by decide +kernel⟩
theorem si_Realm_chainOf : site0 y_Realm_chainOf prog_5_method_13_code 5 (some .int) 1 := ⟨wd_535, wd_3, ⟨by decide, by decide⟩, by decide +kernel⟩
theorem si_Realm_brokenByOne : site0 y_Realm_brokenByOne prog_5_method_8_code 4 (some .int) 1 := ⟨wd_545, wd_3, ⟨by decide, by decide⟩, by decide +kernel⟩
theorem si_Realm_roomOf : site0 y_Realm_roomOf prog_5_method_14_code 4 (some .int) 2 := ⟨wd_557, wd_3, ⟨by decide, by decide⟩, by decide +kernel⟩
theorem si_Realm_timeLeft : site0 y_Realm_timeLeft prog_5_method_15_code 2 (some .int) 1 := ⟨wd_561, wd_3, ⟨by decide, by decide⟩, by decide +kernel⟩
theorem si_Realm_ableAlone : site0 y_Realm_ableAlone prog_5_method_16_code 3 (some .int) 2 := ⟨wd_553, wd_3, ⟨by decide, by decide⟩, by decide +kernel⟩
theorem si_Realm_breakable : site0 y_Realm_breakable prog_5_method_18_code 4 (some .int) 1 := ⟨wd_549, wd_3, ⟨by decide, by decide⟩, by decide +kernel⟩
theorem si_Realm_hasBoth : site0 y_Realm_hasBoth prog_5_method_6_code 3 (some .boolean) 2 := ⟨wd_573, wd_3, ⟨by decide, by decide⟩, by decide +kernel⟩
theorem si_Q_bitOf : site0 y_Q_bitOf prog_1_method_43_code 2 (some .int) 2 := ⟨wd_590, wd_1, ⟨by decide, by decide⟩, by decide +kernel⟩
theorem si_Q_withBit : site0 y_Q_withBit prog_1_method_44_code 3 (some .int) 3 := ⟨wd_593, wd_1, ⟨by decide, by decide⟩, by decide +kernel⟩
theorem si_Integer_bitCount : site0 y_Integer_bitCount prog_11_method_49_code 1 (some .int) 1 := ⟨wd_617, wd_17, ⟨by decide, by decide⟩, by decide +kernel⟩
theorem si_Realm_mark : site0 y_Realm_mark prog_5_method_20_code 4 (some .int) 2 := ⟨wd_633, wd_3, ⟨by decide, by decide⟩, by decide +kernel⟩
theorem si_Realm_breakOnce : site0 y_Realm_breakOnce prog_5_method_19_code 4 (some .int) 2 := ⟨wd_628, wd_3, ⟨by decide, by decide⟩, by decide +kernel⟩
theorem si_Realm_lapsing : site0 y_Realm_lapsing prog_5_method_21_code 3 (some .int) 0 := ⟨wd_645, wd_3, ⟨by decide, by decide⟩, by decide +kernel⟩
theorem si_Realm_endYear : site0 y_Realm_endYear prog_5_method_22_code 2 (some .int) 0 := ⟨wd_641, wd_3, ⟨by decide, by decide⟩, by decide +kernel⟩
theorem si_Planner_leftToLast : site0 y_Planner_leftToLast prog_3_method_9_code 4 (some .int) 3 := ⟨wd_678, wd_5, ⟨by decide, by decide⟩, by decide +kernel⟩
theorem si_Planner_stateOf : site0 y_Planner_stateOf prog_3_method_10_code 3 (some .int) 3 := ⟨wd_681, wd_5, ⟨by decide, by decide⟩, by decide +kernel⟩
theorem si_Planner_search : site0 y_Planner_search prog_3_method_11_code 12 (some .int) 3 := ⟨wd_685, wd_5, ⟨by decide, by decide⟩, by decide +kernel⟩
theorem si_Planner_load : site0 y_Planner_load prog_3_method_2_code 4 none 1 := ⟨wd_664, wd_5, ⟨by decide, by decide⟩, by decide +kernel⟩
theorem si_Planner_leastHarm : site0 y_Planner_leastHarm prog_3_method_7_code 4 (some .int) 0 := ⟨wd_673, wd_5, ⟨by decide, by decide⟩, by decide +kernel⟩
theorem si_Planner_timesInFirst : site0 y_Planner_timesInFirst prog_3_method_8_code 6 (some .int) 2 := ⟨wd_691, wd_5, ⟨by decide, by decide⟩, by decide +kernel⟩
theorem si_Planner_needOfAll : site0 y_Planner_needOfAll prog_3_method_5_code 4 (some .int) 1 := ⟨wd_709, wd_5, ⟨by decide, by decide⟩, by decide +kernel⟩
theorem si_Planner_givenTo : site0 y_Planner_givenTo prog_3_method_6_code 6 (some .int) 1 := ⟨wd_714, wd_5, ⟨by decide, by decide⟩, by decide +kernel⟩
theorem si_Planner_grant : site0 y_Planner_grant prog_3_method_3_code 3 none 2 := ⟨wd_699, wd_5, ⟨by decide, by decide⟩, by decide +kernel⟩
theorem si_Planner_canMeet : site0 y_Planner_canMeet prog_3_method_4_code 3 (some .boolean) 1 := ⟨wd_704, wd_5, ⟨by decide, by decide⟩, by decide +kernel⟩
theorem si_Realm_ableWithout : site0 y_Realm_ableWithout prog_5_method_17_code 5 (some .int) 2 := ⟨wd_727, wd_3, ⟨by decide, by decide⟩, by decide +kernel⟩
theorem si_Realm_mostNeeded : site0 y_Realm_mostNeeded prog_5_method_25_code 6 (some .int) 1 := ⟨wd_739, wd_3, ⟨by decide, by decide⟩, by decide +kernel⟩
theorem si_Realm_eachForHimself : site0 y_Realm_eachForHimself prog_5_method_24_code 6 (some .int) 0 := ⟨wd_735, wd_3, ⟨by decide, by decide⟩, by decide +kernel⟩
theorem si_Realm_met : site0 y_Realm_met prog_5_method_23_code 3 (some .int) 0 := ⟨wd_744, wd_3, ⟨by decide, by decide⟩, by decide +kernel⟩
theorem si_Arrays_fillJ : site0 y_Arrays_fillJ prog_17_method_101_code 5 none 2 := ⟨wd_756, wd_10, ⟨by decide, by decide⟩, by decide +kernel⟩
theorem si_Odds_addTry : site0 y_Odds_addTry prog_2_method_3_code 3 none 1 := ⟨wd_761, wd_7, ⟨by decide, by decide⟩, by decide +kernel⟩
theorem si_Odds_reduce : site0 y_Odds_reduce prog_2_method_4_code 8 none 0 := ⟨wd_767, wd_7, ⟨by decide, by decide⟩, by decide +kernel⟩
theorem si_Odds_weigh : site0 y_Odds_weigh prog_2_method_2_code 6 none 2 := ⟨wd_753, wd_7, ⟨by decide, by decide⟩, by decide +kernel⟩
theorem si_Sightings_append : site0 y_Sightings_append prog_7_method_2_code 4 (some .boolean) 3 := ⟨wd_775, wd_4, ⟨by decide, by decide⟩, by decide +kernel⟩
theorem si_Sightings_sumDue : site0 y_Sightings_sumDue prog_7_method_3_code 5 (some .int) 2 := ⟨wd_792, wd_4, ⟨by decide, by decide⟩, by decide +kernel⟩
theorem si_Tables_stateOf : site0 y_Tables_stateOf prog_8_method_11_code 3 (some .int) 3 := ⟨wd_810, wd_6, ⟨by decide, by decide⟩, by decide +kernel⟩
theorem si_Tables_waysTo : site0 y_Tables_waysTo prog_8_method_8_code 13 (some .long) 4 := ⟨wd_818, wd_6, ⟨by decide, by decide⟩, by decide +kernel⟩
theorem si_Tables_isDueOf : site0 y_Tables_isDueOf prog_8_method_10_code 3 (some .boolean) 2 := ⟨wd_828, wd_6, ⟨by decide, by decide⟩, by decide +kernel⟩
theorem si_Tables_joinAll : site0 y_Tables_joinAll prog_8_method_6_code 4 none 0 := ⟨wd_807, wd_6, ⟨by decide, by decide⟩, by decide +kernel⟩
theorem si_Tables_spendAlone : site0 y_Tables_spendAlone prog_8_method_5_code 9 none 2 := ⟨wd_803, wd_6, ⟨by decide, by decide⟩, by decide +kernel⟩
theorem si_Tables_sumOfDue : site0 y_Tables_sumOfDue prog_8_method_9_code 6 (some .long) 0 := ⟨wd_824, wd_6, ⟨by decide, by decide⟩, by decide +kernel⟩
theorem si_Tables_spendTogether : site0 y_Tables_spendTogether prog_8_method_7_code 5 none 1 := ⟨wd_814, wd_6, ⟨by decide, by decide⟩, by decide +kernel⟩
theorem si_Tables_load : site0 y_Tables_load prog_8_method_2_code 6 none 1 := ⟨wd_787, wd_6, ⟨by decide, by decide⟩, by decide +kernel⟩
theorem si_Tables_fitting : site0 y_Tables_fitting prog_8_method_4_code 3 (some .long) 0 := ⟨wd_798, wd_6, ⟨by decide, by decide⟩, by decide +kernel⟩
theorem si_Tables_firstThatFits : site0 y_Tables_firstThatFits prog_8_method_3_code 8 (some .int) 3 := ⟨wd_836, wd_6, ⟨by decide, by decide⟩, by decide +kernel⟩
theorem si_Realm_nextSeed : site0 y_Realm_nextSeed prog_5_method_27_code 1 (some .int) 1 := ⟨wd_848, wd_3, ⟨by decide, by decide⟩, by decide +kernel⟩
theorem si_Realm_drawn : site0 y_Realm_drawn prog_5_method_28_code 1 (some .int) 1 := ⟨wd_852, wd_3, ⟨by decide, by decide⟩, by decide +kernel⟩
theorem si_Realm_breakBySeed : site0 y_Realm_breakBySeed prog_5_method_26_code 8 (some .int) 2 := ⟨wd_845, wd_3, ⟨by decide, by decide⟩, by decide +kernel⟩
theorem si_Sheet_renew : site0 y_Sheet_renew prog_6_method_2_code 3 none 2 := ⟨wd_869, wd_8, ⟨by decide, by decide⟩, by decide +kernel⟩
theorem si_Sheet_faultAt : site0 y_Sheet_faultAt prog_6_method_5_code 3 (some .int) 1 := ⟨wd_878, wd_8, ⟨by decide, by decide⟩, by decide +kernel⟩
theorem si_Sheet_put : site0 y_Sheet_put prog_6_method_3_code 3 none 2 := ⟨wd_882, wd_8, ⟨by decide, by decide⟩, by decide +kernel⟩
theorem si_Sheet_faultAs : site0 y_Sheet_faultAs prog_6_method_7_code 2 (some .int) 1 := ⟨wd_890, wd_8, ⟨by decide, by decide⟩, by decide +kernel⟩
theorem si_Sheet_faultOfPair : site0 y_Sheet_faultOfPair prog_6_method_6_code 4 (some .int) 1 := ⟨wd_894, wd_8, ⟨by decide, by decide⟩, by decide +kernel⟩
theorem si_Sheet_cellAt : site0 y_Sheet_cellAt prog_6_method_4_code 3 (some .int) 1 := ⟨wd_899, wd_8, ⟨by decide, by decide⟩, by decide +kernel⟩
theorem si_Realm_brokenInAll : site0 y_Realm_brokenInAll prog_5_method_9_code 3 (some .int) 0 := ⟨wd_911, wd_3, ⟨by decide, by decide⟩, by decide +kernel⟩
theorem si_Q_countKept : site0 y_Q_countKept prog_1_method_40_code 3 (some .int) 0 := ⟨wd_915, wd_1, ⟨by decide, by decide⟩, by decide +kernel⟩
theorem si_Realm_allPurses : site0 y_Realm_allPurses prog_5_method_12_code 3 (some .int) 0 := ⟨wd_919, wd_3, ⟨by decide, by decide⟩, by decide +kernel⟩
theorem si_Realm_allNeed : site0 y_Realm_allNeed prog_5_method_11_code 3 (some .int) 0 := ⟨wd_923, wd_3, ⟨by decide, by decide⟩, by decide +kernel⟩
theorem si_M_firstDraft : site0 y_M_firstDraft prog_10_method_5_code 2 none 0 := ⟨wd_933, wd_9, ⟨by decide, by decide⟩, by decide +kernel⟩
theorem si_M_keepDraft : site0 y_M_keepDraft prog_10_method_6_code 2 none 0 := ⟨wd_937, wd_9, ⟨by decide, by decide⟩, by decide +kernel⟩
theorem si_M_in : site0 y_M_in prog_10_method_3_code 6 (some .boolean) 3 := ⟨wd_1063, wd_9, ⟨by decide, by decide⟩, by decide +kernel⟩
theorem si_M_look : site0 y_M_look prog_10_method_10_code 2 (some .int) 1 := ⟨wd_1079, wd_9, ⟨by decide, by decide⟩, by decide +kernel⟩
theorem si_M_needs : site0 y_M_needs prog_10_method_9_code 3 none 2 := ⟨wd_1087, wd_9, ⟨by decide, by decide⟩, by decide +kernel⟩
theorem si_M_is : site0 y_M_is prog_10_method_11_code 5 (some .boolean) 4 := ⟨wd_1099, wd_9, ⟨by decide, by decide⟩, by decide +kernel⟩
theorem si_M_looked : site0 y_M_looked prog_10_method_14_code 3 (some .int) 2 := ⟨wd_1115, wd_9, ⟨by decide, by decide⟩, by decide +kernel⟩
theorem si_M_next : site0 y_M_next prog_10_method_13_code 2 none 0 := ⟨wd_1075, wd_9, ⟨by decide, by decide⟩, by decide +kernel⟩
theorem si_M_readNumber : site0 y_M_readNumber prog_10_method_15_code 4 (some .int) 2 := ⟨wd_1111, wd_9, ⟨by decide, by decide⟩, by decide +kernel⟩
theorem si_M_readLawOf : site0 y_M_readLawOf prog_10_method_16_code 3 (some .int) 1 := ⟨wd_1119, wd_9, ⟨by decide, by decide⟩, by decide +kernel⟩
theorem si_M_readLaw : site0 y_M_readLaw prog_10_method_17_code 4 none 0 := ⟨wd_1107, wd_9, ⟨by decide, by decide⟩, by decide +kernel⟩
theorem si_M_readOne : site0 y_M_readOne prog_10_method_18_code 2 none 0 := ⟨wd_1123, wd_9, ⟨by decide, by decide⟩, by decide +kernel⟩
theorem si_M_lineNow : site0 y_M_lineNow prog_10_method_12_code 1 (some .int) 0 := ⟨wd_1095, wd_9, ⟨by decide, by decide⟩, by decide +kernel⟩
theorem si_M_readLineOf : site0 y_M_readLineOf prog_10_method_19_code 3 none 1 := ⟨wd_1103, wd_9, ⟨by decide, by decide⟩, by decide +kernel⟩
theorem si_M_readLine : site0 y_M_readLine prog_10_method_20_code 2 none 0 := ⟨wd_1091, wd_9, ⟨by decide, by decide⟩, by decide +kernel⟩
theorem si_M_doesStand : site0 y_M_doesStand prog_10_method_26_code 2 (some .boolean) 1 := ⟨wd_1147, wd_9, ⟨by decide, by decide⟩, by decide +kernel⟩
theorem si_M_brokenBy : site0 y_M_brokenBy prog_10_method_27_code 3 (some .int) 2 := ⟨wd_1151, wd_9, ⟨by decide, by decide⟩, by decide +kernel⟩
theorem si_M_isLaw : site0 y_M_isLaw prog_10_method_23_code 2 (some .boolean) 1 := ⟨wd_1139, wd_9, ⟨by decide, by decide⟩, by decide +kernel⟩
theorem si_M_needOf : site0 y_M_needOf prog_10_method_29_code 4 (some .int) 1 := ⟨wd_1143, wd_9, ⟨by decide, by decide⟩, by decide +kernel⟩
theorem si_M_chainOf : site0 y_M_chainOf prog_10_method_30_code 4 (some .int) 1 := ⟨wd_1155, wd_9, ⟨by decide, by decide⟩, by decide +kernel⟩
theorem si_M_allBy : site0 y_M_allBy prog_10_method_28_code 4 (some .int) 1 := ⟨wd_1179, wd_9, ⟨by decide, by decide⟩, by decide +kernel⟩
theorem si_M_roomOf : site0 y_M_roomOf prog_10_method_31_code 5 (some .int) 2 := ⟨wd_1171, wd_9, ⟨by decide, by decide⟩, by decide +kernel⟩
theorem si_M_timeLeft : site0 y_M_timeLeft prog_10_method_32_code 3 (some .int) 1 := ⟨wd_1175, wd_9, ⟨by decide, by decide⟩, by decide +kernel⟩
theorem si_M_isOne : site0 y_M_isOne prog_10_method_24_code 2 (some .boolean) 1 := ⟨wd_1163, wd_9, ⟨by decide, by decide⟩, by decide +kernel⟩
theorem si_M_canBreak : site0 y_M_canBreak prog_10_method_33_code 3 (some .boolean) 2 := ⟨wd_1167, wd_9, ⟨by decide, by decide⟩, by decide +kernel⟩
theorem si_M_flag : site0 y_M_flag prog_10_method_4_code 1 (some .int) 1 := ⟨wd_1182, wd_9, ⟨by decide, by decide⟩, by decide +kernel⟩
theorem si_M_becomes : site0 y_M_becomes prog_10_method_39_code 4 (some .int) 2 := ⟨wd_1195, wd_9, ⟨by decide, by decide⟩, by decide +kernel⟩
theorem si_M_becomesBit : site0 y_M_becomesBit prog_10_method_40_code 5 (some .int) 3 := ⟨wd_1207, wd_9, ⟨by decide, by decide⟩, by decide +kernel⟩
theorem si_M_bitsOf : site0 y_M_bitsOf prog_10_method_25_code 3 (some .int) 1 := ⟨wd_1232, wd_9, ⟨by decide, by decide⟩, by decide +kernel⟩
theorem si_M_fallsNow : site0 y_M_fallsNow prog_10_method_34_code 3 (some .int) 0 := ⟨wd_1244, wd_9, ⟨by decide, by decide⟩, by decide +kernel⟩
theorem si_M_roomAt : site0 y_M_roomAt prog_10_method_54_code 3 (some .int) 2 := ⟨wd_1281, wd_9, ⟨by decide, by decide⟩, by decide +kernel⟩
theorem si_M_at : site0 y_M_at prog_10_method_53_code 4 (some .int) 4 := ⟨wd_1267, wd_9, ⟨by decide, by decide⟩, by decide +kernel⟩
theorem si_M_harmBy : site0 y_M_harmBy prog_10_method_55_code 10 (some .int) 7 := ⟨wd_1277, wd_9, ⟨by decide, by decide⟩, by decide +kernel⟩
theorem si_M_leastOf : site0 y_M_leastOf prog_10_method_56_code 10 (some .int) 4 := ⟨wd_1271, wd_9, ⟨by decide, by decide⟩, by decide +kernel⟩
theorem si_M_startsRota : site0 y_M_startsRota prog_10_method_58_code 3 none 1 := ⟨wd_1260, wd_9, ⟨by decide, by decide⟩, by decide +kernel⟩
theorem si_M_findRota : site0 y_M_findRota prog_10_method_57_code 5 (some .int) 0 := ⟨wd_1264, wd_9, ⟨by decide, by decide⟩, by decide +kernel⟩
theorem si_M_sharesOf : site0 y_M_sharesOf prog_10_method_59_code 10 none 4 := ⟨wd_1285, wd_9, ⟨by decide, by decide⟩, by decide +kernel⟩
theorem si_M_triesOf : site0 y_M_triesOf prog_10_method_63_code 4 (some .int) 2 := ⟨wd_1301, wd_9, ⟨by decide, by decide⟩, by decide +kernel⟩
theorem si_M_saves : site0 y_M_saves prog_10_method_65_code 2 none 0 := ⟨wd_1310, wd_9, ⟨by decide, by decide⟩, by decide +kernel⟩
theorem si_M_wantedBy : site0 y_M_wantedBy prog_10_method_67_code 5 (some .int) 1 := ⟨wd_1314, wd_9, ⟨by decide, by decide⟩, by decide +kernel⟩
theorem si_M_returns : site0 y_M_returns prog_10_method_66_code 2 none 0 := ⟨wd_1318, wd_9, ⟨by decide, by decide⟩, by decide +kernel⟩
theorem si_M_common : site0 y_M_common prog_10_method_69_code 10 (some .long) 2 := ⟨wd_1327, wd_9, ⟨by decide, by decide⟩, by decide +kernel⟩
theorem si_M_mostOf : site0 y_M_mostOf prog_10_method_74_code 3 (some .int) 2 := ⟨wd_1352, wd_9, ⟨by decide, by decide⟩, by decide +kernel⟩
theorem si_M_isSo : site0 y_M_isSo prog_10_method_73_code 7 (some .boolean) 3 := ⟨wd_1356, wd_9, ⟨by decide, by decide⟩, by decide +kernel⟩
theorem si_M_isAsked : site0 y_M_isAsked prog_10_method_75_code 7 (some .boolean) 6 := ⟨wd_1360, wd_9, ⟨by decide, by decide⟩, by decide +kernel⟩
theorem si_M_addsTables : site0 y_M_addsTables prog_10_method_77_code 8 none 3 := ⟨wd_1364, wd_9, ⟨by decide, by decide⟩, by decide +kernel⟩
theorem si_M_addsLaw : site0 y_M_addsLaw prog_10_method_76_code 9 none 4 := ⟨wd_1348, wd_9, ⟨by decide, by decide⟩, by decide +kernel⟩
theorem si_M_isTime : site0 y_M_isTime prog_10_method_78_code 3 (some .boolean) 2 := ⟨wd_1368, wd_9, ⟨by decide, by decide⟩, by decide +kernel⟩
theorem si_M_tablesBy : site0 y_M_tablesBy prog_10_method_79_code 7 (some .long) 3 := ⟨wd_1344, wd_9, ⟨by decide, by decide⟩, by decide +kernel⟩
theorem si_M_breaks : site0 y_M_breaks prog_10_method_49_code 5 (some .int) 2 := ⟨wd_1236, wd_9, ⟨by decide, by decide⟩, by decide +kernel⟩
theorem si_M_copies : site0 y_M_copies prog_10_method_83_code 4 none 2 := ⟨wd_1387, wd_9, ⟨by decide, by decide⟩, by decide +kernel⟩
theorem si_M_isSheet : site0 y_M_isSheet prog_10_method_86_code 2 (some .boolean) 2 := ⟨wd_1398, wd_9, ⟨by decide, by decide⟩, by decide +kernel⟩
theorem si_Q_new : site0 y_Q_new prog_1_method_1_code 2 none 0 := ⟨wd_22, wd_1, ⟨by decide, by decide⟩, by decide +kernel⟩
theorem si_M_new : site0 y_M_new prog_10_method_1_code 2 none 0 := ⟨wd_928, wd_9, ⟨by decide, by decide⟩, by decide +kernel⟩
theorem si_Q_feed : site0 y_Q_feed prog_1_method_2_code 2 (some .int) 1 := ⟨wd_330, wd_1, ⟨by decide, by decide⟩, by decide +kernel⟩
theorem si_M_feed : site0 y_M_feed prog_10_method_7_code 2 (some .int) 1 := ⟨wd_1059, wd_9, ⟨by decide, by decide⟩, by decide +kernel⟩
theorem si_Q_end : site0 y_Q_end prog_1_method_3_code 3 (some .int) 1 := ⟨wd_341, wd_1, ⟨by decide, by decide⟩, by decide +kernel⟩
theorem si_M_end : site0 y_M_end prog_10_method_8_code 3 (some .int) 1 := ⟨wd_1067, wd_9, ⟨by decide, by decide⟩, by decide +kernel⟩
theorem si_Q_text : site0 y_Q_text prog_1_method_4_code 3 (some .int) 0 := ⟨wd_345, wd_1, ⟨by decide, by decide⟩, by decide +kernel⟩
theorem si_M_text : site0 y_M_text prog_10_method_21_code 2 (some .int) 0 := ⟨wd_1071, wd_9, ⟨by decide, by decide⟩, by decide +kernel⟩
theorem si_Q_fault : site0 y_Q_fault prog_1_method_5_code 1 (some .int) 0 := ⟨wd_510, wd_1, ⟨by decide, by decide⟩, by decide +kernel⟩
theorem si_M_fault : site0 y_M_fault prog_10_method_22_code 1 (some .int) 0 := ⟨wd_1127, wd_9, ⟨by decide, by decide⟩, by decide +kernel⟩
theorem si_Q_rule : site0 y_Q_rule prog_1_method_6_code 2 (some .int) 1 := ⟨wd_514, wd_1, ⟨by decide, by decide⟩, by decide +kernel⟩
theorem si_M_rule : site0 y_M_rule prog_10_method_35_code 2 (some .int) 1 := ⟨wd_1131, wd_9, ⟨by decide, by decide⟩, by decide +kernel⟩
theorem si_Q_law : site0 y_Q_law prog_1_method_7_code 3 (some .int) 2 := ⟨wd_518, wd_1, ⟨by decide, by decide⟩, by decide +kernel⟩
theorem si_M_law : site0 y_M_law prog_10_method_36_code 3 (some .int) 2 := ⟨wd_1135, wd_9, ⟨by decide, by decide⟩, by decide +kernel⟩
theorem si_Q_one : site0 y_Q_one prog_1_method_8_code 3 (some .int) 2 := ⟨wd_540, wd_1, ⟨by decide, by decide⟩, by decide +kernel⟩
theorem si_M_one : site0 y_M_one prog_10_method_37_code 5 (some .int) 2 := ⟨wd_1159, wd_9, ⟨by decide, by decide⟩, by decide +kernel⟩
theorem si_Q_broken : site0 y_Q_broken prog_1_method_9_code 3 (some .int) 2 := ⟨wd_569, wd_1, ⟨by decide, by decide⟩, by decide +kernel⟩
theorem si_M_broken : site0 y_M_broken prog_10_method_38_code 3 (some .int) 2 := ⟨wd_1186, wd_9, ⟨by decide, by decide⟩, by decide +kernel⟩
theorem si_Q_quota : site0 y_Q_quota prog_1_method_10_code 4 (some .int) 2 := ⟨wd_579, wd_1, ⟨by decide, by decide⟩, by decide +kernel⟩
theorem si_M_quota : site0 y_M_quota prog_10_method_41_code 3 (some .int) 2 := ⟨wd_1190, wd_9, ⟨by decide, by decide⟩, by decide +kernel⟩
theorem si_Q_carry : site0 y_Q_carry prog_1_method_11_code 4 (some .int) 2 := ⟨wd_583, wd_1, ⟨by decide, by decide⟩, by decide +kernel⟩
theorem si_M_carry : site0 y_M_carry prog_10_method_42_code 3 (some .int) 2 := ⟨wd_1199, wd_9, ⟨by decide, by decide⟩, by decide +kernel⟩
theorem si_Q_time : site0 y_Q_time prog_1_method_13_code 4 (some .int) 2 := ⟨wd_597, wd_1, ⟨by decide, by decide⟩, by decide +kernel⟩
theorem si_M_time : site0 y_M_time prog_10_method_44_code 3 (some .int) 2 := ⟨wd_1211, wd_9, ⟨by decide, by decide⟩, by decide +kernel⟩
theorem si_Q_fund : site0 y_Q_fund prog_1_method_16_code 4 (some .int) 2 := ⟨wd_609, wd_1, ⟨by decide, by decide⟩, by decide +kernel⟩
theorem si_M_fund : site0 y_M_fund prog_10_method_47_code 3 (some .int) 2 := ⟨wd_1224, wd_9, ⟨by decide, by decide⟩, by decide +kernel⟩
theorem si_Q_revive : site0 y_Q_revive prog_1_method_17_code 2 (some .int) 1 := ⟨wd_613, wd_1, ⟨by decide, by decide⟩, by decide +kernel⟩
theorem si_M_revive : site0 y_M_revive prog_10_method_48_code 2 (some .int) 1 := ⟨wd_1229, wd_9, ⟨by decide, by decide⟩, by decide +kernel⟩
theorem si_Q_breaks : site0 y_Q_breaks prog_1_method_18_code 3 (some .int) 2 := ⟨wd_624, wd_1, ⟨by decide, by decide⟩, by decide +kernel⟩
theorem si_Q_year : site0 y_Q_year prog_1_method_19_code 1 (some .int) 0 := ⟨wd_637, wd_1, ⟨by decide, by decide⟩, by decide +kernel⟩
theorem si_M_year : site0 y_M_year prog_10_method_50_code 3 (some .int) 0 := ⟨wd_1240, wd_9, ⟨by decide, by decide⟩, by decide +kernel⟩
theorem si_Q_falls : site0 y_Q_falls prog_1_method_20_code 1 (some .int) 0 := ⟨wd_651, wd_1, ⟨by decide, by decide⟩, by decide +kernel⟩
theorem si_M_falls : site0 y_M_falls prog_10_method_51_code 1 (some .int) 0 := ⟨wd_1248, wd_9, ⟨by decide, by decide⟩, by decide +kernel⟩
theorem si_Q_most : site0 y_Q_most prog_1_method_21_code 6 (some .int) 1 := ⟨wd_656, wd_1, ⟨by decide, by decide⟩, by decide +kernel⟩
theorem si_M_most : site0 y_M_most prog_10_method_52_code 6 (some .int) 1 := ⟨wd_1252, wd_9, ⟨by decide, by decide⟩, by decide +kernel⟩
theorem si_Q_rota : site0 y_Q_rota prog_1_method_22_code 5 (some .int) 1 := ⟨wd_660, wd_1, ⟨by decide, by decide⟩, by decide +kernel⟩
theorem si_M_rota : site0 y_M_rota prog_10_method_60_code 7 (some .int) 1 := ⟨wd_1256, wd_9, ⟨by decide, by decide⟩, by decide +kernel⟩
theorem si_Q_more : site0 y_Q_more prog_1_method_23_code 3 (some .int) 1 := ⟨wd_695, wd_1, ⟨by decide, by decide⟩, by decide +kernel⟩
theorem si_M_more : site0 y_M_more prog_10_method_61_code 5 (some .int) 1 := ⟨wd_1289, wd_9, ⟨by decide, by decide⟩, by decide +kernel⟩
theorem si_Q_together : site0 y_Q_together prog_1_method_24_code 5 (some .int) 1 := ⟨wd_718, wd_1, ⟨by decide, by decide⟩, by decide +kernel⟩
theorem si_M_together : site0 y_M_together prog_10_method_62_code 6 (some .int) 1 := ⟨wd_1293, wd_9, ⟨by decide, by decide⟩, by decide +kernel⟩
theorem si_Q_kill : site0 y_Q_kill prog_1_method_25_code 6 (some .int) 2 := ⟨wd_723, wd_1, ⟨by decide, by decide⟩, by decide +kernel⟩
theorem si_M_kill : site0 y_M_kill prog_10_method_64_code 8 (some .int) 2 := ⟨wd_1297, wd_9, ⟨by decide, by decide⟩, by decide +kernel⟩
theorem si_Q_selfish : site0 y_Q_selfish prog_1_method_26_code 3 (some .int) 1 := ⟨wd_731, wd_1, ⟨by decide, by decide⟩, by decide +kernel⟩
theorem si_M_selfish : site0 y_M_selfish prog_10_method_68_code 7 (some .int) 1 := ⟨wd_1305, wd_9, ⟨by decide, by decide⟩, by decide +kernel⟩
theorem si_Q_luck : site0 y_Q_luck prog_1_method_27_code 3 (some .long) 2 := ⟨wd_748, wd_1, ⟨by decide, by decide⟩, by decide +kernel⟩
theorem si_M_luck : site0 y_M_luck prog_10_method_70_code 10 (some .long) 2 := ⟨wd_1322, wd_9, ⟨by decide, by decide⟩, by decide +kernel⟩
theorem si_Q_see : site0 y_Q_see prog_1_method_28_code 5 (some .int) 3 := ⟨wd_771, wd_1, ⟨by decide, by decide⟩, by decide +kernel⟩
theorem si_M_see : site0 y_M_see prog_10_method_71_code 6 (some .int) 3 := ⟨wd_1331, wd_9, ⟨by decide, by decide⟩, by decide +kernel⟩
theorem si_Q_forget : site0 y_Q_forget prog_1_method_29_code 3 (some .int) 1 := ⟨wd_779, wd_1, ⟨by decide, by decide⟩, by decide +kernel⟩
theorem si_M_forget : site0 y_M_forget prog_10_method_72_code 2 (some .int) 1 := ⟨wd_1336, wd_9, ⟨by decide, by decide⟩, by decide +kernel⟩
theorem si_Q_books : site0 y_Q_books prog_1_method_30_code 1 (some .long) 0 := ⟨wd_783, wd_1, ⟨by decide, by decide⟩, by decide +kernel⟩
theorem si_M_books : site0 y_M_books prog_10_method_80_code 1 (some .long) 0 := ⟨wd_1340, wd_9, ⟨by decide, by decide⟩, by decide +kernel⟩
theorem si_Q_entry : site0 y_Q_entry prog_1_method_31_code 4 (some .int) 3 := ⟨wd_832, wd_1, ⟨by decide, by decide⟩, by decide +kernel⟩
theorem si_M_entry : site0 y_M_entry prog_10_method_81_code 8 (some .int) 3 := ⟨wd_1372, wd_9, ⟨by decide, by decide⟩, by decide +kernel⟩
theorem si_Q_wild : site0 y_Q_wild prog_1_method_32_code 5 (some .int) 3 := ⟨wd_841, wd_1, ⟨by decide, by decide⟩, by decide +kernel⟩
theorem si_M_wild : site0 y_M_wild prog_10_method_82_code 8 (some .int) 3 := ⟨wd_1376, wd_9, ⟨by decide, by decide⟩, by decide +kernel⟩
theorem si_Q_keep : site0 y_Q_keep prog_1_method_33_code 3 (some .int) 1 := ⟨wd_857, wd_1, ⟨by decide, by decide⟩, by decide +kernel⟩
theorem si_M_keep : site0 y_M_keep prog_10_method_84_code 3 (some .int) 1 := ⟨wd_1383, wd_9, ⟨by decide, by decide⟩, by decide +kernel⟩
theorem si_Q_back : site0 y_Q_back prog_1_method_34_code 2 (some .int) 1 := ⟨wd_861, wd_1, ⟨by decide, by decide⟩, by decide +kernel⟩
theorem si_M_back : site0 y_M_back prog_10_method_85_code 2 (some .int) 1 := ⟨wd_1391, wd_9, ⟨by decide, by decide⟩, by decide +kernel⟩
theorem si_Q_sheet : site0 y_Q_sheet prog_1_method_35_code 4 (some .int) 3 := ⟨wd_865, wd_1, ⟨by decide, by decide⟩, by decide +kernel⟩
theorem si_M_sheet : site0 y_M_sheet prog_10_method_87_code 5 (some .int) 3 := ⟨wd_1395, wd_9, ⟨by decide, by decide⟩, by decide +kernel⟩
theorem si_Q_lay : site0 y_Q_lay prog_1_method_36_code 5 (some .int) 3 := ⟨wd_874, wd_1, ⟨by decide, by decide⟩, by decide +kernel⟩
theorem si_M_lay : site0 y_M_lay prog_10_method_88_code 4 (some .int) 3 := ⟨wd_1402, wd_9, ⟨by decide, by decide⟩, by decide +kernel⟩
theorem si_Q_read : site0 y_Q_read prog_1_method_37_code 11 (some .int) 4 := ⟨wd_886, wd_1, ⟨by decide, by decide⟩, by decide +kernel⟩
theorem si_M_read : site0 y_M_read prog_10_method_89_code 11 (some .int) 4 := ⟨wd_1406, wd_9, ⟨by decide, by decide⟩, by decide +kernel⟩
theorem si_Q_torn : site0 y_Q_torn prog_1_method_38_code 1 (some .int) 0 := ⟨wd_903, wd_1, ⟨by decide, by decide⟩, by decide +kernel⟩
theorem si_M_torn : site0 y_M_torn prog_10_method_90_code 1 (some .int) 0 := ⟨wd_1410, wd_9, ⟨by decide, by decide⟩, by decide +kernel⟩
theorem si_Q_count : site0 y_Q_count prog_1_method_39_code 2 (some .int) 1 := ⟨wd_907, wd_1, ⟨by decide, by decide⟩, by decide +kernel⟩
theorem si_M_count : site0 y_M_count prog_10_method_91_code 6 (some .int) 1 := ⟨wd_1414, wd_9, ⟨by decide, by decide⟩, by decide +kernel⟩
theorem si_Q_want : site0 y_Q_want prog_1_method_15_code 5 (some .int) 3 := ⟨wd_605, wd_1, ⟨by decide, by decide⟩, by decide +kernel⟩
theorem si_M_want : site0 y_M_want prog_10_method_46_code 4 (some .int) 3 := ⟨wd_1220, wd_9, ⟨by decide, by decide⟩, by decide +kernel⟩
theorem si_Q_refuse : site0 y_Q_refuse prog_1_method_14_code 5 (some .int) 3 := ⟨wd_601, wd_1, ⟨by decide, by decide⟩, by decide +kernel⟩
theorem si_M_refuse : site0 y_M_refuse prog_10_method_45_code 4 (some .int) 3 := ⟨wd_1216, wd_9, ⟨by decide, by decide⟩, by decide +kernel⟩
theorem si_Q_watch : site0 y_Q_watch prog_1_method_12_code 4 (some .int) 2 := ⟨wd_587, wd_1, ⟨by decide, by decide⟩, by decide +kernel⟩
theorem si_M_watch : site0 y_M_watch prog_10_method_43_code 3 (some .int) 2 := ⟨wd_1203, wd_9, ⟨by decide, by decide⟩, by decide +kernel⟩
theorem si_String_coder : site0 y_String_coder prog_13_method_152_code 1 (some .byte) 0 := ⟨wd_393, wd_11, ⟨by decide, by decide⟩, by decide +kernel⟩
theorem si_String_isLatin1 : site0 y_String_isLatin1 prog_13_method_154_code 1 (some .boolean) 0 := ⟨wd_403, wd_11, ⟨by decide, by decide⟩, by decide +kernel⟩
theorem si_String_checkIndex : site0 y_String_checkIndex prog_13_method_155_code 2 none 2 := ⟨wd_409, wd_11, ⟨by decide, by decide⟩, by decide +kernel⟩
theorem si_StringLatin1_charAt : site0 y_StringLatin1_charAt prog_14_method_2_code 2 (some .char) 2 := ⟨wd_406, wd_12, ⟨by decide, by decide⟩, by decide +kernel⟩
theorem si_Preconditions_checkIndex : site0 y_Preconditions_checkIndex prog_18_method_11_code 3 (some .int) 3 := ⟨wd_414, wd_13, ⟨by decide, by decide⟩, by decide +kernel⟩
