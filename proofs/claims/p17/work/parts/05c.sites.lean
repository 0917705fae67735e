theorem si_nh0 : "QuotaLaws$Sightings" ≠ "java/lang/invoke/MethodHandle" ∧ "QuotaLaws$Sightings" ≠ "java/lang/invoke/VarHandle" := ⟨by decide +kernel, by decide +kernel⟩
theorem si_ds0 : (parseMethodDescriptor "()V").map (fun d => d.parameters.length) = some 0 := by decide +kernel
theorem si_Sightings_new : site0 y_Sightings_new prog_7_method_1_code 1 none 0 := ⟨wd_75, wd_4, si_nh0, si_ds0⟩
theorem si_nh1 : "QuotaLaws$Reader" ≠ "java/lang/invoke/MethodHandle" ∧ "QuotaLaws$Reader" ≠ "java/lang/invoke/VarHandle" := ⟨by decide +kernel, by decide +kernel⟩
theorem si_Reader_new : site0 y_Reader_new prog_4_method_1_code 1 none 0 := ⟨wd_30, wd_2, si_nh1, si_ds0⟩
theorem si_nh2 : "QuotaLaws$Realm" ≠ "java/lang/invoke/MethodHandle" ∧ "QuotaLaws$Realm" ≠ "java/lang/invoke/VarHandle" := ⟨by decide +kernel, by decide +kernel⟩
theorem si_Realm_new : site0 y_Realm_new prog_5_method_1_code 1 none 0 := ⟨wd_69, wd_3, si_nh2, si_ds0⟩
theorem si_nh3 : "QuotaLaws$Planner" ≠ "java/lang/invoke/MethodHandle" ∧ "QuotaLaws$Planner" ≠ "java/lang/invoke/VarHandle" := ⟨by decide +kernel, by decide +kernel⟩
theorem si_Planner_new : site0 y_Planner_new prog_3_method_1_code 1 none 0 := ⟨wd_202, wd_5, si_nh3, si_ds0⟩
theorem si_nh4 : "QuotaLaws$Tables" ≠ "java/lang/invoke/MethodHandle" ∧ "QuotaLaws$Tables" ≠ "java/lang/invoke/VarHandle" := ⟨by decide +kernel, by decide +kernel⟩
theorem si_Tables_new : site0 y_Tables_new prog_8_method_1_code 1 none 0 := ⟨wd_234, wd_6, si_nh4, si_ds0⟩
theorem si_nh5 : "QuotaLaws$Odds" ≠ "java/lang/invoke/MethodHandle" ∧ "QuotaLaws$Odds" ≠ "java/lang/invoke/VarHandle" := ⟨by decide +kernel, by decide +kernel⟩
theorem si_Odds_new : site0 y_Odds_new prog_2_method_1_code 1 none 0 := ⟨wd_266, wd_7, si_nh5, si_ds0⟩
theorem si_nh6 : "QuotaLaws$Sheet" ≠ "java/lang/invoke/MethodHandle" ∧ "QuotaLaws$Sheet" ≠ "java/lang/invoke/VarHandle" := ⟨by decide +kernel, by decide +kernel⟩
theorem si_Sheet_new : site0 y_Sheet_new prog_6_method_1_code 1 none 0 := ⟨wd_283, wd_8, si_nh6, si_ds0⟩
theorem si_nh7 : "QuotaLaws" ≠ "java/lang/invoke/MethodHandle" ∧ "QuotaLaws" ≠ "java/lang/invoke/VarHandle" := ⟨by decide +kernel, by decide +kernel⟩
theorem si_ds1 : (parseMethodDescriptor "(III)Z").map (fun d => d.parameters.length) = some 3 := by decide +kernel
theorem si_Q_isWithin : site0 y_Q_isWithin prog_1_method_41_code 3 (some .boolean) 3 := ⟨wd_333, wd_1, si_nh7, si_ds1⟩
theorem si_ds2 : (parseMethodDescriptor "(I)Z").map (fun d => d.parameters.length) = some 1 := by decide +kernel
theorem si_Reader_append : site0 y_Reader_append prog_4_method_2_code 2 (some .boolean) 1 := ⟨wd_337, wd_2, si_nh1, si_ds2⟩
theorem si_nh8 : "java/util/Arrays" ≠ "java/lang/invoke/MethodHandle" ∧ "java/util/Arrays" ≠ "java/lang/invoke/VarHandle" := ⟨by decide +kernel, by decide +kernel⟩
theorem si_ds3 : (parseMethodDescriptor "([II)V").map (fun d => d.parameters.length) = some 2 := by decide +kernel
theorem si_Arrays_fillI : site0 y_Arrays_fillI prog_17_method_103_code 4 none 2 := ⟨wd_356, wd_10, si_nh8, si_ds3⟩
theorem si_ds4 : (parseMethodDescriptor "(II)V").map (fun d => d.parameters.length) = some 2 := by decide +kernel
theorem si_Reader_passRun : site0 y_Reader_passRun prog_4_method_19_code 3 none 2 := ⟨wd_364, wd_2, si_nh1, si_ds4⟩
theorem si_ds5 : (parseMethodDescriptor "()I").map (fun d => d.parameters.length) = some 0 := by decide +kernel
theorem si_Reader_kindHere : site0 y_Reader_kindHere prog_4_method_18_code 2 (some .int) 0 := ⟨wd_368, wd_2, si_nh1, si_ds5⟩
theorem si_Reader_valueOfRun : site0 y_Reader_valueOfRun prog_4_method_20_code 3 (some .int) 0 := ⟨wd_372, wd_2, si_nh1, si_ds5⟩
theorem si_ds6 : (parseMethodDescriptor "(II)Z").map (fun d => d.parameters.length) = some 2 := by decide +kernel
theorem si_Reader_fail : site0 y_Reader_fail prog_4_method_21_code 3 (some .boolean) 2 := ⟨wd_376, wd_2, si_nh1, si_ds6⟩
theorem si_nh9 : "java/lang/String" ≠ "java/lang/invoke/MethodHandle" ∧ "java/lang/String" ≠ "java/lang/invoke/VarHandle" := ⟨by decide +kernel, by decide +kernel⟩
theorem si_String_length : site0 y_String_length prog_13_method_54_code 1 (some .int) 0 := ⟨wd_389, wd_11, si_nh9, si_ds5⟩
theorem si_ds7 : (parseMethodDescriptor "(I)C").map (fun d => d.parameters.length) = some 1 := by decide +kernel
theorem si_String_charAt : site0 y_String_charAt prog_13_method_56_code 2 (some .char) 1 := ⟨wd_399, wd_11, si_nh9, si_ds7⟩
theorem si_ds8 : (parseMethodDescriptor "()Z").map (fun d => d.parameters.length) = some 0 := by decide +kernel
theorem si_Reader_takeToken : site0 y_Reader_takeToken prog_4_method_17_code 1 (some .boolean) 0 := ⟨wd_360, wd_2, si_nh1, si_ds8⟩
theorem si_Reader_isBounded : site0 y_Reader_isBounded prog_4_method_14_code 3 (some .boolean) 2 := ⟨wd_445, wd_2, si_nh1, si_ds6⟩
theorem si_Reader_takeNumber : site0 y_Reader_takeNumber prog_4_method_13_code 3 (some .boolean) 2 := ⟨wd_441, wd_2, si_nh1, si_ds6⟩
theorem si_ds9 : (parseMethodDescriptor "([II)Z").map (fun d => d.parameters.length) = some 2 := by decide +kernel
theorem si_Reader_putInto : site0 y_Reader_putInto prog_4_method_12_code 3 (some .boolean) 2 := ⟨wd_450, wd_2, si_nh1, si_ds9⟩
theorem si_ds10 : (parseMethodDescriptor "(LQuotaLaws$Realm;I)Z").map (fun d => d.parameters.length) = some 2 := by decide +kernel
theorem si_Reader_takeCarried : site0 y_Reader_takeCarried prog_4_method_6_code 3 (some .boolean) 2 := ⟨wd_454, wd_2, si_nh1, si_ds10⟩
theorem si_Reader_isStop : site0 y_Reader_isStop prog_4_method_15_code 1 (some .boolean) 0 := ⟨wd_458, wd_2, si_nh1, si_ds8⟩
theorem si_Q_hasBit : site0 y_Q_hasBit prog_1_method_42_code 2 (some .boolean) 2 := ⟨wd_470, wd_1, si_nh7, si_ds6⟩
theorem si_Reader_addLaw : site0 y_Reader_addLaw prog_4_method_10_code 3 (some .boolean) 2 := ⟨wd_467, wd_2, si_nh1, si_ds9⟩
theorem si_ds11 : (parseMethodDescriptor "(Ljava/lang/String;)Z").map (fun d => d.parameters.length) = some 1 := by decide +kernel
theorem si_Reader_isWord : site0 y_Reader_isWord prog_4_method_16_code 3 (some .boolean) 1 := ⟨wd_385, wd_2, si_nh1, si_ds11⟩
theorem si_ds12 : (parseMethodDescriptor "(LQuotaLaws$Realm;)Z").map (fun d => d.parameters.length) = some 1 := by decide +kernel
theorem si_Reader_takeWatch : site0 y_Reader_takeWatch prog_4_method_9_code 2 (some .boolean) 1 := ⟨wd_480, wd_2, si_nh1, si_ds12⟩
theorem si_Reader_takeWant : site0 y_Reader_takeWant prog_4_method_8_code 3 (some .boolean) 1 := ⟨wd_475, wd_2, si_nh1, si_ds12⟩
theorem si_Reader_takeOne : site0 y_Reader_takeOne prog_4_method_7_code 5 (some .boolean) 2 := ⟨wd_463, wd_2, si_nh1, si_ds10⟩
theorem si_Reader_takeLaw : site0 y_Reader_takeLaw prog_4_method_5_code 3 (some .boolean) 2 := ⟨wd_437, wd_2, si_nh1, si_ds10⟩
theorem si_Q_isPart : site0 y_Q_isPart prog_1_method_45_code 2 (some .boolean) 2 := ⟨wd_486, wd_1, si_nh7, si_ds6⟩
theorem si_Realm_hasLaw : site0 y_Realm_hasLaw prog_5_method_4_code 2 (some .boolean) 1 := ⟨wd_490, wd_3, si_nh2, si_ds2⟩
theorem si_Realm_hasOne : site0 y_Realm_hasOne prog_5_method_5_code 2 (some .boolean) 1 := ⟨wd_494, wd_3, si_nh2, si_ds2⟩
theorem si_Realm_empty : site0 y_Realm_empty prog_5_method_2_code 1 none 0 := ⟨wd_353, wd_3, si_nh2, si_ds0⟩
theorem si_Reader_takeLine : site0 y_Reader_takeLine prog_4_method_4_code 2 (some .boolean) 1 := ⟨wd_380, wd_2, si_nh1, si_ds12⟩
theorem si_Reader_allThere : site0 y_Reader_allThere prog_4_method_11_code 4 (some .boolean) 1 := ⟨wd_483, wd_2, si_nh1, si_ds12⟩
theorem si_ds13 : (parseMethodDescriptor "(LQuotaLaws$Sightings;)V").map (fun d => d.parameters.length) = some 1 := by decide +kernel
theorem si_Sightings_copyFrom : site0 y_Sightings_copyFrom prog_7_method_4_code 2 none 1 := ⟨wd_505, wd_4, si_nh0, si_ds13⟩
theorem si_Reader_readInto : site0 y_Reader_readInto prog_4_method_3_code 4 (some .boolean) 1 := ⟨wd_349, wd_2, si_nh1, si_ds12⟩
theorem si_ds14 : (parseMethodDescriptor "(LQuotaLaws$Realm;)V").map (fun d => d.parameters.length) = some 1 := by decide +kernel
theorem si_Realm_copyFrom : site0 y_Realm_copyFrom prog_5_method_3_code 2 none 1 := ⟨wd_498, wd_3, si_nh2, si_ds14⟩
theorem si_ds15 : (parseMethodDescriptor "(II)I").map (fun d => d.parameters.length) = some 2 := by decide +kernel
theorem si_Realm_brokenBy : site0 y_Realm_brokenBy prog_5_method_7_code 3 (some .int) 2 := ⟨wd_528, wd_3, si_nh2, si_ds15⟩
theorem si_ds16 : (parseMethodDescriptor "(I)I").map (fun d => d.parameters.length) = some 1 := by decide +kernel
theorem si_Realm_needOf : site0 y_Realm_needOf prog_5_method_10_code 4 (some .int) 1 := ⟨wd_523, wd_3, si_nh2, si_ds16⟩
theorem si_Realm_chainOf : site0 y_Realm_chainOf prog_5_method_13_code 5 (some .int) 1 := ⟨wd_535, wd_3, si_nh2, si_ds16⟩
theorem si_Realm_brokenByOne : site0 y_Realm_brokenByOne prog_5_method_8_code 4 (some .int) 1 := ⟨wd_545, wd_3, si_nh2, si_ds16⟩
theorem si_Realm_roomOf : site0 y_Realm_roomOf prog_5_method_14_code 4 (some .int) 2 := ⟨wd_557, wd_3, si_nh2, si_ds15⟩
theorem si_Realm_timeLeft : site0 y_Realm_timeLeft prog_5_method_15_code 2 (some .int) 1 := ⟨wd_561, wd_3, si_nh2, si_ds16⟩
theorem si_Realm_ableAlone : site0 y_Realm_ableAlone prog_5_method_16_code 3 (some .int) 2 := ⟨wd_553, wd_3, si_nh2, si_ds15⟩
theorem si_Realm_breakable : site0 y_Realm_breakable prog_5_method_18_code 4 (some .int) 1 := ⟨wd_549, wd_3, si_nh2, si_ds16⟩
theorem si_Realm_hasBoth : site0 y_Realm_hasBoth prog_5_method_6_code 3 (some .boolean) 2 := ⟨wd_573, wd_3, si_nh2, si_ds6⟩
theorem si_Q_bitOf : site0 y_Q_bitOf prog_1_method_43_code 2 (some .int) 2 := ⟨wd_590, wd_1, si_nh7, si_ds15⟩
theorem si_ds17 : (parseMethodDescriptor "(IIZ)I").map (fun d => d.parameters.length) = some 3 := by decide +kernel
theorem si_Q_withBit : site0 y_Q_withBit prog_1_method_44_code 3 (some .int) 3 := ⟨wd_593, wd_1, si_nh7, si_ds17⟩
theorem si_nh10 : "java/lang/Integer" ≠ "java/lang/invoke/MethodHandle" ∧ "java/lang/Integer" ≠ "java/lang/invoke/VarHandle" := ⟨by decide +kernel, by decide +kernel⟩
theorem si_Integer_bitCount : site0 y_Integer_bitCount prog_11_method_49_code 1 (some .int) 1 := ⟨wd_617, wd_17, si_nh10, si_ds16⟩
theorem si_Realm_mark : site0 y_Realm_mark prog_5_method_20_code 4 (some .int) 2 := ⟨wd_633, wd_3, si_nh2, si_ds15⟩
theorem si_Realm_breakOnce : site0 y_Realm_breakOnce prog_5_method_19_code 4 (some .int) 2 := ⟨wd_628, wd_3, si_nh2, si_ds15⟩
theorem si_Realm_lapsing : site0 y_Realm_lapsing prog_5_method_21_code 3 (some .int) 0 := ⟨wd_645, wd_3, si_nh2, si_ds5⟩
theorem si_Realm_endYear : site0 y_Realm_endYear prog_5_method_22_code 2 (some .int) 0 := ⟨wd_641, wd_3, si_nh2, si_ds5⟩
theorem si_ds18 : (parseMethodDescriptor "(III)I").map (fun d => d.parameters.length) = some 3 := by decide +kernel
theorem si_Planner_leftToLast : site0 y_Planner_leftToLast prog_3_method_9_code 4 (some .int) 3 := ⟨wd_678, wd_5, si_nh3, si_ds18⟩
theorem si_Planner_stateOf : site0 y_Planner_stateOf prog_3_method_10_code 3 (some .int) 3 := ⟨wd_681, wd_5, si_nh3, si_ds18⟩
theorem si_Planner_search : site0 y_Planner_search prog_3_method_11_code 12 (some .int) 3 := ⟨wd_685, wd_5, si_nh3, si_ds18⟩
theorem si_Planner_load : site0 y_Planner_load prog_3_method_2_code 4 none 1 := ⟨wd_664, wd_5, si_nh3, si_ds14⟩
theorem si_Planner_leastHarm : site0 y_Planner_leastHarm prog_3_method_7_code 4 (some .int) 0 := ⟨wd_673, wd_5, si_nh3, si_ds5⟩
theorem si_Planner_timesInFirst : site0 y_Planner_timesInFirst prog_3_method_8_code 6 (some .int) 2 := ⟨wd_691, wd_5, si_nh3, si_ds15⟩
theorem si_Planner_needOfAll : site0 y_Planner_needOfAll prog_3_method_5_code 4 (some .int) 1 := ⟨wd_709, wd_5, si_nh3, si_ds16⟩
theorem si_Planner_givenTo : site0 y_Planner_givenTo prog_3_method_6_code 6 (some .int) 1 := ⟨wd_714, wd_5, si_nh3, si_ds16⟩
theorem si_Planner_grant : site0 y_Planner_grant prog_3_method_3_code 3 none 2 := ⟨wd_699, wd_5, si_nh3, si_ds4⟩
theorem si_Planner_canMeet : site0 y_Planner_canMeet prog_3_method_4_code 3 (some .boolean) 1 := ⟨wd_704, wd_5, si_nh3, si_ds2⟩
theorem si_Realm_ableWithout : site0 y_Realm_ableWithout prog_5_method_17_code 5 (some .int) 2 := ⟨wd_727, wd_3, si_nh2, si_ds15⟩
theorem si_Realm_mostNeeded : site0 y_Realm_mostNeeded prog_5_method_25_code 6 (some .int) 1 := ⟨wd_739, wd_3, si_nh2, si_ds16⟩
theorem si_Realm_eachForHimself : site0 y_Realm_eachForHimself prog_5_method_24_code 6 (some .int) 0 := ⟨wd_735, wd_3, si_nh2, si_ds5⟩
theorem si_Realm_met : site0 y_Realm_met prog_5_method_23_code 3 (some .int) 0 := ⟨wd_744, wd_3, si_nh2, si_ds5⟩
theorem si_ds19 : (parseMethodDescriptor "([JJ)V").map (fun d => d.parameters.length) = some 2 := by decide +kernel
theorem si_Arrays_fillJ : site0 y_Arrays_fillJ prog_17_method_101_code 5 none 2 := ⟨wd_756, wd_10, si_nh8, si_ds19⟩
theorem si_ds20 : (parseMethodDescriptor "(I)V").map (fun d => d.parameters.length) = some 1 := by decide +kernel
theorem si_Odds_addTry : site0 y_Odds_addTry prog_2_method_3_code 3 none 1 := ⟨wd_761, wd_7, si_nh5, si_ds20⟩
theorem si_Odds_reduce : site0 y_Odds_reduce prog_2_method_4_code 8 none 0 := ⟨wd_767, wd_7, si_nh5, si_ds0⟩
theorem si_ds21 : (parseMethodDescriptor "(LQuotaLaws$Realm;I)V").map (fun d => d.parameters.length) = some 2 := by decide +kernel
theorem si_Odds_weigh : site0 y_Odds_weigh prog_2_method_2_code 6 none 2 := ⟨wd_753, wd_7, si_nh5, si_ds21⟩
theorem si_Sightings_append : site0 y_Sightings_append prog_7_method_2_code 4 (some .boolean) 3 := ⟨wd_775, wd_4, si_nh0, si_ds1⟩
theorem si_Sightings_sumDue : site0 y_Sightings_sumDue prog_7_method_3_code 5 (some .int) 2 := ⟨wd_792, wd_4, si_nh0, si_ds15⟩
theorem si_Tables_stateOf : site0 y_Tables_stateOf prog_8_method_11_code 3 (some .int) 3 := ⟨wd_810, wd_6, si_nh4, si_ds18⟩
theorem si_ds22 : (parseMethodDescriptor "(IIII)J").map (fun d => d.parameters.length) = some 4 := by decide +kernel
theorem si_Tables_waysTo : site0 y_Tables_waysTo prog_8_method_8_code 13 (some .long) 4 := ⟨wd_818, wd_6, si_nh4, si_ds22⟩
theorem si_Tables_isDueOf : site0 y_Tables_isDueOf prog_8_method_10_code 3 (some .boolean) 2 := ⟨wd_828, wd_6, si_nh4, si_ds6⟩
theorem si_Tables_joinAll : site0 y_Tables_joinAll prog_8_method_6_code 4 none 0 := ⟨wd_807, wd_6, si_nh4, si_ds0⟩
theorem si_Tables_spendAlone : site0 y_Tables_spendAlone prog_8_method_5_code 9 none 2 := ⟨wd_803, wd_6, si_nh4, si_ds4⟩
theorem si_ds23 : (parseMethodDescriptor "()J").map (fun d => d.parameters.length) = some 0 := by decide +kernel
theorem si_Tables_sumOfDue : site0 y_Tables_sumOfDue prog_8_method_9_code 6 (some .long) 0 := ⟨wd_824, wd_6, si_nh4, si_ds23⟩
theorem si_Tables_spendTogether : site0 y_Tables_spendTogether prog_8_method_7_code 5 none 1 := ⟨wd_814, wd_6, si_nh4, si_ds20⟩
theorem si_Tables_load : site0 y_Tables_load prog_8_method_2_code 6 none 1 := ⟨wd_787, wd_6, si_nh4, si_ds14⟩
theorem si_Tables_fitting : site0 y_Tables_fitting prog_8_method_4_code 3 (some .long) 0 := ⟨wd_798, wd_6, si_nh4, si_ds23⟩
theorem si_Tables_firstThatFits : site0 y_Tables_firstThatFits prog_8_method_3_code 8 (some .int) 3 := ⟨wd_836, wd_6, si_nh4, si_ds17⟩
theorem si_Realm_nextSeed : site0 y_Realm_nextSeed prog_5_method_27_code 1 (some .int) 1 := ⟨wd_848, wd_3, si_nh2, si_ds16⟩
theorem si_Realm_drawn : site0 y_Realm_drawn prog_5_method_28_code 1 (some .int) 1 := ⟨wd_852, wd_3, si_nh2, si_ds16⟩
theorem si_Realm_breakBySeed : site0 y_Realm_breakBySeed prog_5_method_26_code 8 (some .int) 2 := ⟨wd_845, wd_3, si_nh2, si_ds15⟩
theorem si_Sheet_renew : site0 y_Sheet_renew prog_6_method_2_code 3 none 2 := ⟨wd_869, wd_8, si_nh6, si_ds4⟩
theorem si_ds24 : (parseMethodDescriptor "(J)I").map (fun d => d.parameters.length) = some 1 := by decide +kernel
theorem si_Sheet_faultAt : site0 y_Sheet_faultAt prog_6_method_5_code 3 (some .int) 1 := ⟨wd_878, wd_8, si_nh6, si_ds24⟩
theorem si_Sheet_put : site0 y_Sheet_put prog_6_method_3_code 3 none 2 := ⟨wd_882, wd_8, si_nh6, si_ds4⟩
theorem si_Sheet_faultAs : site0 y_Sheet_faultAs prog_6_method_7_code 2 (some .int) 1 := ⟨wd_890, wd_8, si_nh6, si_ds16⟩
theorem si_Sheet_faultOfPair : site0 y_Sheet_faultOfPair prog_6_method_6_code 4 (some .int) 1 := ⟨wd_894, wd_8, si_nh6, si_ds24⟩
theorem si_Sheet_cellAt : site0 y_Sheet_cellAt prog_6_method_4_code 3 (some .int) 1 := ⟨wd_899, wd_8, si_nh6, si_ds24⟩
theorem si_Realm_brokenInAll : site0 y_Realm_brokenInAll prog_5_method_9_code 3 (some .int) 0 := ⟨wd_911, wd_3, si_nh2, si_ds5⟩
theorem si_Q_countKept : site0 y_Q_countKept prog_1_method_40_code 3 (some .int) 0 := ⟨wd_915, wd_1, si_nh7, si_ds5⟩
theorem si_Realm_allPurses : site0 y_Realm_allPurses prog_5_method_12_code 3 (some .int) 0 := ⟨wd_919, wd_3, si_nh2, si_ds5⟩
theorem si_Realm_allNeed : site0 y_Realm_allNeed prog_5_method_11_code 3 (some .int) 0 := ⟨wd_923, wd_3, si_nh2, si_ds5⟩
theorem si_nh11 : "QuotaLawsModel" ≠ "java/lang/invoke/MethodHandle" ∧ "QuotaLawsModel" ≠ "java/lang/invoke/VarHandle" := ⟨by decide +kernel, by decide +kernel⟩
theorem si_M_firstDraft : site0 y_M_firstDraft prog_10_method_5_code 2 none 0 := ⟨wd_933, wd_9, si_nh11, si_ds0⟩
theorem si_M_keepDraft : site0 y_M_keepDraft prog_10_method_6_code 2 none 0 := ⟨wd_937, wd_9, si_nh11, si_ds0⟩
theorem si_ds25 : (parseMethodDescriptor "(JJJ)Z").map (fun d => d.parameters.length) = some 3 := by decide +kernel
theorem si_M_in : site0 y_M_in prog_10_method_3_code 6 (some .boolean) 3 := ⟨wd_1063, wd_9, si_nh11, si_ds25⟩
theorem si_M_look : site0 y_M_look prog_10_method_10_code 2 (some .int) 1 := ⟨wd_1079, wd_9, si_nh11, si_ds16⟩
theorem si_ds26 : (parseMethodDescriptor "(ZI)V").map (fun d => d.parameters.length) = some 2 := by decide +kernel
theorem si_M_needs : site0 y_M_needs prog_10_method_9_code 3 none 2 := ⟨wd_1087, wd_9, si_nh11, si_ds26⟩
theorem si_ds27 : (parseMethodDescriptor "(IIII)Z").map (fun d => d.parameters.length) = some 4 := by decide +kernel
theorem si_M_is : site0 y_M_is prog_10_method_11_code 5 (some .boolean) 4 := ⟨wd_1099, wd_9, si_nh11, si_ds27⟩
theorem si_M_looked : site0 y_M_looked prog_10_method_14_code 3 (some .int) 2 := ⟨wd_1115, wd_9, si_nh11, si_ds15⟩
theorem si_M_next : site0 y_M_next prog_10_method_13_code 2 none 0 := ⟨wd_1075, wd_9, si_nh11, si_ds0⟩
theorem si_M_readNumber : site0 y_M_readNumber prog_10_method_15_code 4 (some .int) 2 := ⟨wd_1111, wd_9, si_nh11, si_ds15⟩
theorem si_M_readLawOf : site0 y_M_readLawOf prog_10_method_16_code 3 (some .int) 1 := ⟨wd_1119, wd_9, si_nh11, si_ds16⟩
theorem si_M_readLaw : site0 y_M_readLaw prog_10_method_17_code 4 none 0 := ⟨wd_1107, wd_9, si_nh11, si_ds0⟩
theorem si_M_readOne : site0 y_M_readOne prog_10_method_18_code 2 none 0 := ⟨wd_1123, wd_9, si_nh11, si_ds0⟩
theorem si_M_lineNow : site0 y_M_lineNow prog_10_method_12_code 1 (some .int) 0 := ⟨wd_1095, wd_9, si_nh11, si_ds5⟩
theorem si_M_readLineOf : site0 y_M_readLineOf prog_10_method_19_code 3 none 1 := ⟨wd_1103, wd_9, si_nh11, si_ds20⟩
theorem si_M_readLine : site0 y_M_readLine prog_10_method_20_code 2 none 0 := ⟨wd_1091, wd_9, si_nh11, si_ds0⟩
theorem si_M_doesStand : site0 y_M_doesStand prog_10_method_26_code 2 (some .boolean) 1 := ⟨wd_1147, wd_9, si_nh11, si_ds2⟩
theorem si_M_brokenBy : site0 y_M_brokenBy prog_10_method_27_code 3 (some .int) 2 := ⟨wd_1151, wd_9, si_nh11, si_ds15⟩
theorem si_M_isLaw : site0 y_M_isLaw prog_10_method_23_code 2 (some .boolean) 1 := ⟨wd_1139, wd_9, si_nh11, si_ds2⟩
theorem si_M_needOf : site0 y_M_needOf prog_10_method_29_code 4 (some .int) 1 := ⟨wd_1143, wd_9, si_nh11, si_ds16⟩
theorem si_M_chainOf : site0 y_M_chainOf prog_10_method_30_code 4 (some .int) 1 := ⟨wd_1155, wd_9, si_nh11, si_ds16⟩
theorem si_M_allBy : site0 y_M_allBy prog_10_method_28_code 4 (some .int) 1 := ⟨wd_1179, wd_9, si_nh11, si_ds16⟩
theorem si_M_roomOf : site0 y_M_roomOf prog_10_method_31_code 5 (some .int) 2 := ⟨wd_1171, wd_9, si_nh11, si_ds15⟩
theorem si_M_timeLeft : site0 y_M_timeLeft prog_10_method_32_code 3 (some .int) 1 := ⟨wd_1175, wd_9, si_nh11, si_ds16⟩
theorem si_M_isOne : site0 y_M_isOne prog_10_method_24_code 2 (some .boolean) 1 := ⟨wd_1163, wd_9, si_nh11, si_ds2⟩
theorem si_M_canBreak : site0 y_M_canBreak prog_10_method_33_code 3 (some .boolean) 2 := ⟨wd_1167, wd_9, si_nh11, si_ds6⟩
theorem si_ds28 : (parseMethodDescriptor "(Z)I").map (fun d => d.parameters.length) = some 1 := by decide +kernel
theorem si_M_flag : site0 y_M_flag prog_10_method_4_code 1 (some .int) 1 := ⟨wd_1182, wd_9, si_nh11, si_ds28⟩
theorem si_M_becomes : site0 y_M_becomes prog_10_method_39_code 4 (some .int) 2 := ⟨wd_1195, wd_9, si_nh11, si_ds15⟩
theorem si_M_becomesBit : site0 y_M_becomesBit prog_10_method_40_code 5 (some .int) 3 := ⟨wd_1207, wd_9, si_nh11, si_ds17⟩
theorem si_M_bitsOf : site0 y_M_bitsOf prog_10_method_25_code 3 (some .int) 1 := ⟨wd_1232, wd_9, si_nh11, si_ds16⟩
theorem si_M_fallsNow : site0 y_M_fallsNow prog_10_method_34_code 3 (some .int) 0 := ⟨wd_1244, wd_9, si_nh11, si_ds5⟩
theorem si_M_roomAt : site0 y_M_roomAt prog_10_method_54_code 3 (some .int) 2 := ⟨wd_1281, wd_9, si_nh11, si_ds15⟩
theorem si_ds29 : (parseMethodDescriptor "(IIII)I").map (fun d => d.parameters.length) = some 4 := by decide +kernel
theorem si_M_at : site0 y_M_at prog_10_method_53_code 4 (some .int) 4 := ⟨wd_1267, wd_9, si_nh11, si_ds29⟩
theorem si_ds30 : (parseMethodDescriptor "(IIIIIII)I").map (fun d => d.parameters.length) = some 7 := by decide +kernel
theorem si_M_harmBy : site0 y_M_harmBy prog_10_method_55_code 10 (some .int) 7 := ⟨wd_1277, wd_9, si_nh11, si_ds30⟩
theorem si_M_leastOf : site0 y_M_leastOf prog_10_method_56_code 10 (some .int) 4 := ⟨wd_1271, wd_9, si_nh11, si_ds29⟩
theorem si_M_startsRota : site0 y_M_startsRota prog_10_method_58_code 3 none 1 := ⟨wd_1260, wd_9, si_nh11, si_ds20⟩
theorem si_M_findRota : site0 y_M_findRota prog_10_method_57_code 5 (some .int) 0 := ⟨wd_1264, wd_9, si_nh11, si_ds5⟩
theorem si_ds31 : (parseMethodDescriptor "(IIII)V").map (fun d => d.parameters.length) = some 4 := by decide +kernel
theorem si_M_sharesOf : site0 y_M_sharesOf prog_10_method_59_code 10 none 4 := ⟨wd_1285, wd_9, si_nh11, si_ds31⟩
theorem si_M_triesOf : site0 y_M_triesOf prog_10_method_63_code 4 (some .int) 2 := ⟨wd_1301, wd_9, si_nh11, si_ds15⟩
theorem si_M_saves : site0 y_M_saves prog_10_method_65_code 2 none 0 := ⟨wd_1310, wd_9, si_nh11, si_ds0⟩
theorem si_M_wantedBy : site0 y_M_wantedBy prog_10_method_67_code 5 (some .int) 1 := ⟨wd_1314, wd_9, si_nh11, si_ds16⟩
theorem si_M_returns : site0 y_M_returns prog_10_method_66_code 2 none 0 := ⟨wd_1318, wd_9, si_nh11, si_ds0⟩
theorem si_ds32 : (parseMethodDescriptor "(JJ)J").map (fun d => d.parameters.length) = some 2 := by decide +kernel
theorem si_M_common : site0 y_M_common prog_10_method_69_code 10 (some .long) 2 := ⟨wd_1327, wd_9, si_nh11, si_ds32⟩
theorem si_M_mostOf : site0 y_M_mostOf prog_10_method_74_code 3 (some .int) 2 := ⟨wd_1352, wd_9, si_nh11, si_ds15⟩
theorem si_M_isSo : site0 y_M_isSo prog_10_method_73_code 7 (some .boolean) 3 := ⟨wd_1356, wd_9, si_nh11, si_ds1⟩
theorem si_ds33 : (parseMethodDescriptor "(IIIIII)Z").map (fun d => d.parameters.length) = some 6 := by decide +kernel
theorem si_M_isAsked : site0 y_M_isAsked prog_10_method_75_code 7 (some .boolean) 6 := ⟨wd_1360, wd_9, si_nh11, si_ds33⟩
theorem si_ds34 : (parseMethodDescriptor "(III)V").map (fun d => d.parameters.length) = some 3 := by decide +kernel
theorem si_M_addsTables : site0 y_M_addsTables prog_10_method_77_code 8 none 3 := ⟨wd_1364, wd_9, si_nh11, si_ds34⟩
theorem si_M_addsLaw : site0 y_M_addsLaw prog_10_method_76_code 9 none 4 := ⟨wd_1348, wd_9, si_nh11, si_ds31⟩
theorem si_M_isTime : site0 y_M_isTime prog_10_method_78_code 3 (some .boolean) 2 := ⟨wd_1368, wd_9, si_nh11, si_ds6⟩
theorem si_ds35 : (parseMethodDescriptor "(III)J").map (fun d => d.parameters.length) = some 3 := by decide +kernel
theorem si_M_tablesBy : site0 y_M_tablesBy prog_10_method_79_code 7 (some .long) 3 := ⟨wd_1344, wd_9, si_nh11, si_ds35⟩
theorem si_M_breaks : site0 y_M_breaks prog_10_method_49_code 5 (some .int) 2 := ⟨wd_1236, wd_9, si_nh11, si_ds15⟩
theorem si_M_copies : site0 y_M_copies prog_10_method_83_code 4 none 2 := ⟨wd_1387, wd_9, si_nh11, si_ds4⟩
theorem si_M_isSheet : site0 y_M_isSheet prog_10_method_86_code 2 (some .boolean) 2 := ⟨wd_1398, wd_9, si_nh11, si_ds6⟩
theorem si_Q_new : site0 y_Q_new prog_1_method_1_code 2 none 0 := ⟨wd_22, wd_1, si_nh7, si_ds0⟩
theorem si_M_new : site0 y_M_new prog_10_method_1_code 2 none 0 := ⟨wd_928, wd_9, si_nh11, si_ds0⟩
theorem si_Q_feed : site0 y_Q_feed prog_1_method_2_code 2 (some .int) 1 := ⟨wd_330, wd_1, si_nh7, si_ds16⟩
theorem si_M_feed : site0 y_M_feed prog_10_method_7_code 2 (some .int) 1 := ⟨wd_1059, wd_9, si_nh11, si_ds16⟩
theorem si_Q_end : site0 y_Q_end prog_1_method_3_code 3 (some .int) 1 := ⟨wd_341, wd_1, si_nh7, si_ds16⟩
theorem si_M_end : site0 y_M_end prog_10_method_8_code 3 (some .int) 1 := ⟨wd_1067, wd_9, si_nh11, si_ds16⟩
theorem si_Q_text : site0 y_Q_text prog_1_method_4_code 3 (some .int) 0 := ⟨wd_345, wd_1, si_nh7, si_ds5⟩
theorem si_M_text : site0 y_M_text prog_10_method_21_code 2 (some .int) 0 := ⟨wd_1071, wd_9, si_nh11, si_ds5⟩
theorem si_Q_fault : site0 y_Q_fault prog_1_method_5_code 1 (some .int) 0 := ⟨wd_510, wd_1, si_nh7, si_ds5⟩
theorem si_M_fault : site0 y_M_fault prog_10_method_22_code 1 (some .int) 0 := ⟨wd_1127, wd_9, si_nh11, si_ds5⟩
theorem si_Q_rule : site0 y_Q_rule prog_1_method_6_code 2 (some .int) 1 := ⟨wd_514, wd_1, si_nh7, si_ds16⟩
theorem si_M_rule : site0 y_M_rule prog_10_method_35_code 2 (some .int) 1 := ⟨wd_1131, wd_9, si_nh11, si_ds16⟩
theorem si_Q_law : site0 y_Q_law prog_1_method_7_code 3 (some .int) 2 := ⟨wd_518, wd_1, si_nh7, si_ds15⟩
theorem si_M_law : site0 y_M_law prog_10_method_36_code 3 (some .int) 2 := ⟨wd_1135, wd_9, si_nh11, si_ds15⟩
theorem si_Q_one : site0 y_Q_one prog_1_method_8_code 3 (some .int) 2 := ⟨wd_540, wd_1, si_nh7, si_ds15⟩
theorem si_M_one : site0 y_M_one prog_10_method_37_code 5 (some .int) 2 := ⟨wd_1159, wd_9, si_nh11, si_ds15⟩
theorem si_Q_broken : site0 y_Q_broken prog_1_method_9_code 3 (some .int) 2 := ⟨wd_569, wd_1, si_nh7, si_ds15⟩
theorem si_M_broken : site0 y_M_broken prog_10_method_38_code 3 (some .int) 2 := ⟨wd_1186, wd_9, si_nh11, si_ds15⟩
theorem si_Q_quota : site0 y_Q_quota prog_1_method_10_code 4 (some .int) 2 := ⟨wd_579, wd_1, si_nh7, si_ds15⟩
theorem si_M_quota : site0 y_M_quota prog_10_method_41_code 3 (some .int) 2 := ⟨wd_1190, wd_9, si_nh11, si_ds15⟩
theorem si_Q_carry : site0 y_Q_carry prog_1_method_11_code 4 (some .int) 2 := ⟨wd_583, wd_1, si_nh7, si_ds15⟩
theorem si_M_carry : site0 y_M_carry prog_10_method_42_code 3 (some .int) 2 := ⟨wd_1199, wd_9, si_nh11, si_ds15⟩
theorem si_Q_time : site0 y_Q_time prog_1_method_13_code 4 (some .int) 2 := ⟨wd_597, wd_1, si_nh7, si_ds15⟩
theorem si_M_time : site0 y_M_time prog_10_method_44_code 3 (some .int) 2 := ⟨wd_1211, wd_9, si_nh11, si_ds15⟩
theorem si_Q_fund : site0 y_Q_fund prog_1_method_16_code 4 (some .int) 2 := ⟨wd_609, wd_1, si_nh7, si_ds15⟩
theorem si_M_fund : site0 y_M_fund prog_10_method_47_code 3 (some .int) 2 := ⟨wd_1224, wd_9, si_nh11, si_ds15⟩
theorem si_Q_revive : site0 y_Q_revive prog_1_method_17_code 2 (some .int) 1 := ⟨wd_613, wd_1, si_nh7, si_ds16⟩
theorem si_M_revive : site0 y_M_revive prog_10_method_48_code 2 (some .int) 1 := ⟨wd_1229, wd_9, si_nh11, si_ds16⟩
theorem si_Q_breaks : site0 y_Q_breaks prog_1_method_18_code 3 (some .int) 2 := ⟨wd_624, wd_1, si_nh7, si_ds15⟩
theorem si_Q_year : site0 y_Q_year prog_1_method_19_code 1 (some .int) 0 := ⟨wd_637, wd_1, si_nh7, si_ds5⟩
theorem si_M_year : site0 y_M_year prog_10_method_50_code 3 (some .int) 0 := ⟨wd_1240, wd_9, si_nh11, si_ds5⟩
theorem si_Q_falls : site0 y_Q_falls prog_1_method_20_code 1 (some .int) 0 := ⟨wd_651, wd_1, si_nh7, si_ds5⟩
theorem si_M_falls : site0 y_M_falls prog_10_method_51_code 1 (some .int) 0 := ⟨wd_1248, wd_9, si_nh11, si_ds5⟩
theorem si_Q_most : site0 y_Q_most prog_1_method_21_code 6 (some .int) 1 := ⟨wd_656, wd_1, si_nh7, si_ds16⟩
theorem si_M_most : site0 y_M_most prog_10_method_52_code 6 (some .int) 1 := ⟨wd_1252, wd_9, si_nh11, si_ds16⟩
theorem si_Q_rota : site0 y_Q_rota prog_1_method_22_code 5 (some .int) 1 := ⟨wd_660, wd_1, si_nh7, si_ds16⟩
theorem si_M_rota : site0 y_M_rota prog_10_method_60_code 7 (some .int) 1 := ⟨wd_1256, wd_9, si_nh11, si_ds16⟩
theorem si_Q_more : site0 y_Q_more prog_1_method_23_code 3 (some .int) 1 := ⟨wd_695, wd_1, si_nh7, si_ds16⟩
theorem si_M_more : site0 y_M_more prog_10_method_61_code 5 (some .int) 1 := ⟨wd_1289, wd_9, si_nh11, si_ds16⟩
theorem si_Q_together : site0 y_Q_together prog_1_method_24_code 5 (some .int) 1 := ⟨wd_718, wd_1, si_nh7, si_ds16⟩
theorem si_M_together : site0 y_M_together prog_10_method_62_code 6 (some .int) 1 := ⟨wd_1293, wd_9, si_nh11, si_ds16⟩
theorem si_Q_kill : site0 y_Q_kill prog_1_method_25_code 6 (some .int) 2 := ⟨wd_723, wd_1, si_nh7, si_ds15⟩
theorem si_M_kill : site0 y_M_kill prog_10_method_64_code 8 (some .int) 2 := ⟨wd_1297, wd_9, si_nh11, si_ds15⟩
theorem si_Q_selfish : site0 y_Q_selfish prog_1_method_26_code 3 (some .int) 1 := ⟨wd_731, wd_1, si_nh7, si_ds16⟩
theorem si_M_selfish : site0 y_M_selfish prog_10_method_68_code 7 (some .int) 1 := ⟨wd_1305, wd_9, si_nh11, si_ds16⟩
theorem si_ds36 : (parseMethodDescriptor "(II)J").map (fun d => d.parameters.length) = some 2 := by decide +kernel
theorem si_Q_luck : site0 y_Q_luck prog_1_method_27_code 3 (some .long) 2 := ⟨wd_748, wd_1, si_nh7, si_ds36⟩
theorem si_M_luck : site0 y_M_luck prog_10_method_70_code 10 (some .long) 2 := ⟨wd_1322, wd_9, si_nh11, si_ds36⟩
theorem si_Q_see : site0 y_Q_see prog_1_method_28_code 5 (some .int) 3 := ⟨wd_771, wd_1, si_nh7, si_ds18⟩
theorem si_M_see : site0 y_M_see prog_10_method_71_code 6 (some .int) 3 := ⟨wd_1331, wd_9, si_nh11, si_ds18⟩
theorem si_Q_forget : site0 y_Q_forget prog_1_method_29_code 3 (some .int) 1 := ⟨wd_779, wd_1, si_nh7, si_ds16⟩
theorem si_M_forget : site0 y_M_forget prog_10_method_72_code 2 (some .int) 1 := ⟨wd_1336, wd_9, si_nh11, si_ds16⟩
theorem si_Q_books : site0 y_Q_books prog_1_method_30_code 1 (some .long) 0 := ⟨wd_783, wd_1, si_nh7, si_ds23⟩
theorem si_M_books : site0 y_M_books prog_10_method_80_code 1 (some .long) 0 := ⟨wd_1340, wd_9, si_nh11, si_ds23⟩
theorem si_Q_entry : site0 y_Q_entry prog_1_method_31_code 4 (some .int) 3 := ⟨wd_832, wd_1, si_nh7, si_ds18⟩
theorem si_M_entry : site0 y_M_entry prog_10_method_81_code 8 (some .int) 3 := ⟨wd_1372, wd_9, si_nh11, si_ds18⟩
theorem si_Q_wild : site0 y_Q_wild prog_1_method_32_code 5 (some .int) 3 := ⟨wd_841, wd_1, si_nh7, si_ds18⟩
theorem si_M_wild : site0 y_M_wild prog_10_method_82_code 8 (some .int) 3 := ⟨wd_1376, wd_9, si_nh11, si_ds18⟩
theorem si_Q_keep : site0 y_Q_keep prog_1_method_33_code 3 (some .int) 1 := ⟨wd_857, wd_1, si_nh7, si_ds16⟩
theorem si_M_keep : site0 y_M_keep prog_10_method_84_code 3 (some .int) 1 := ⟨wd_1383, wd_9, si_nh11, si_ds16⟩
theorem si_Q_back : site0 y_Q_back prog_1_method_34_code 2 (some .int) 1 := ⟨wd_861, wd_1, si_nh7, si_ds16⟩
theorem si_M_back : site0 y_M_back prog_10_method_85_code 2 (some .int) 1 := ⟨wd_1391, wd_9, si_nh11, si_ds16⟩
theorem si_Q_sheet : site0 y_Q_sheet prog_1_method_35_code 4 (some .int) 3 := ⟨wd_865, wd_1, si_nh7, si_ds18⟩
theorem si_M_sheet : site0 y_M_sheet prog_10_method_87_code 5 (some .int) 3 := ⟨wd_1395, wd_9, si_nh11, si_ds18⟩
theorem si_Q_lay : site0 y_Q_lay prog_1_method_36_code 5 (some .int) 3 := ⟨wd_874, wd_1, si_nh7, si_ds18⟩
theorem si_M_lay : site0 y_M_lay prog_10_method_88_code 4 (some .int) 3 := ⟨wd_1402, wd_9, si_nh11, si_ds18⟩
theorem si_Q_read : site0 y_Q_read prog_1_method_37_code 11 (some .int) 4 := ⟨wd_886, wd_1, si_nh7, si_ds29⟩
theorem si_M_read : site0 y_M_read prog_10_method_89_code 11 (some .int) 4 := ⟨wd_1406, wd_9, si_nh11, si_ds29⟩
theorem si_Q_torn : site0 y_Q_torn prog_1_method_38_code 1 (some .int) 0 := ⟨wd_903, wd_1, si_nh7, si_ds5⟩
theorem si_M_torn : site0 y_M_torn prog_10_method_90_code 1 (some .int) 0 := ⟨wd_1410, wd_9, si_nh11, si_ds5⟩
theorem si_Q_count : site0 y_Q_count prog_1_method_39_code 2 (some .int) 1 := ⟨wd_907, wd_1, si_nh7, si_ds16⟩
theorem si_M_count : site0 y_M_count prog_10_method_91_code 6 (some .int) 1 := ⟨wd_1414, wd_9, si_nh11, si_ds16⟩
theorem si_Q_want : site0 y_Q_want prog_1_method_15_code 5 (some .int) 3 := ⟨wd_605, wd_1, si_nh7, si_ds17⟩
theorem si_M_want : site0 y_M_want prog_10_method_46_code 4 (some .int) 3 := ⟨wd_1220, wd_9, si_nh11, si_ds17⟩
theorem si_Q_refuse : site0 y_Q_refuse prog_1_method_14_code 5 (some .int) 3 := ⟨wd_601, wd_1, si_nh7, si_ds17⟩
theorem si_M_refuse : site0 y_M_refuse prog_10_method_45_code 4 (some .int) 3 := ⟨wd_1216, wd_9, si_nh11, si_ds17⟩
theorem si_ds37 : (parseMethodDescriptor "(IZ)I").map (fun d => d.parameters.length) = some 2 := by decide +kernel
theorem si_Q_watch : site0 y_Q_watch prog_1_method_12_code 4 (some .int) 2 := ⟨wd_587, wd_1, si_nh7, si_ds37⟩
theorem si_M_watch : site0 y_M_watch prog_10_method_43_code 3 (some .int) 2 := ⟨wd_1203, wd_9, si_nh11, si_ds37⟩
theorem si_ds38 : (parseMethodDescriptor "()B").map (fun d => d.parameters.length) = some 0 := by decide +kernel
theorem si_String_coder : site0 y_String_coder prog_13_method_152_code 1 (some .byte) 0 := ⟨wd_393, wd_11, si_nh9, si_ds38⟩
theorem si_String_isLatin1 : site0 y_String_isLatin1 prog_13_method_154_code 1 (some .boolean) 0 := ⟨wd_403, wd_11, si_nh9, si_ds8⟩
theorem si_String_checkIndex : site0 y_String_checkIndex prog_13_method_155_code 2 none 2 := ⟨wd_409, wd_11, si_nh9, si_ds4⟩
theorem si_nh12 : "java/lang/StringLatin1" ≠ "java/lang/invoke/MethodHandle" ∧ "java/lang/StringLatin1" ≠ "java/lang/invoke/VarHandle" := ⟨by decide +kernel, by decide +kernel⟩
theorem si_ds39 : (parseMethodDescriptor "([BI)C").map (fun d => d.parameters.length) = some 2 := by decide +kernel
theorem si_StringLatin1_charAt : site0 y_StringLatin1_charAt prog_14_method_2_code 2 (some .char) 2 := ⟨wd_406, wd_12, si_nh12, si_ds39⟩
theorem si_nh13 : "jdk/internal/util/Preconditions" ≠ "java/lang/invoke/MethodHandle" ∧ "jdk/internal/util/Preconditions" ≠ "java/lang/invoke/VarHandle" := ⟨by decide +kernel, by decide +kernel⟩
theorem si_ds40 : (parseMethodDescriptor "(IILjava/util/function/BiFunction;)I").map (fun d => d.parameters.length) = some 3 := by decide +kernel
theorem si_Preconditions_checkIndex : site0 y_Preconditions_checkIndex prog_18_method_11_code 3 (some .int) 3 := ⟨wd_414, wd_13, si_nh13, si_ds40⟩
