set_option maxRecDepth 100000 in
theorem wd_22 : (.code y_Q_new prog_1_method_1_code 2 none : Cond) ∈ tbg := tbg_c1 22 rfl rfl
set_option maxRecDepth 100000 in
theorem wd_25 : (.code Lib.objectInit ⟨#[0xb1]⟩ 1 none : Cond) ∈ tbg := tbg_c1 25 rfl rfl
set_option maxRecDepth 100000 in
theorem wd_30 : (.code y_Reader_new prog_4_method_1_code 1 none : Cond) ∈ tbg := tbg_c1 30 rfl rfl
set_option maxRecDepth 100000 in
theorem wd_69 : (.code y_Realm_new prog_5_method_1_code 1 none : Cond) ∈ tbg := tbg_c1 69 rfl rfl
set_option maxRecDepth 100000 in
theorem wd_75 : (.code y_Sightings_new prog_7_method_1_code 1 none : Cond) ∈ tbg := tbg_c1 75 rfl rfl
set_option maxRecDepth 100000 in
theorem wd_202 : (.code y_Planner_new prog_3_method_1_code 1 none : Cond) ∈ tbg := tbg_c1 202 rfl rfl
set_option maxRecDepth 100000 in
theorem wd_234 : (.code y_Tables_new prog_8_method_1_code 1 none : Cond) ∈ tbg := tbg_c1 234 rfl rfl
set_option maxRecDepth 100000 in
theorem wd_266 : (.code y_Odds_new prog_2_method_1_code 1 none : Cond) ∈ tbg := tbg_c2 26 rfl rfl
set_option maxRecDepth 100000 in
theorem wd_283 : (.code y_Sheet_new prog_6_method_1_code 1 none : Cond) ∈ tbg := tbg_c2 43 rfl rfl
set_option maxRecDepth 100000 in
theorem wd_330 : (.code y_Q_feed prog_1_method_2_code 2 (some .int) : Cond) ∈ tbg := tbg_c2 90 rfl rfl
set_option maxRecDepth 100000 in
theorem wd_333 : (.code y_Q_isWithin prog_1_method_41_code 3 (some .boolean) : Cond) ∈ tbg := tbg_c2 93 rfl rfl
set_option maxRecDepth 100000 in
theorem wd_337 : (.code y_Reader_append prog_4_method_2_code 2 (some .boolean) : Cond) ∈ tbg := tbg_c2 97 rfl rfl
set_option maxRecDepth 100000 in
theorem wd_341 : (.code y_Q_end prog_1_method_3_code 3 (some .int) : Cond) ∈ tbg := tbg_c2 101 rfl rfl
set_option maxRecDepth 100000 in
theorem wd_345 : (.code y_Q_text prog_1_method_4_code 3 (some .int) : Cond) ∈ tbg := tbg_c2 105 rfl rfl
set_option maxRecDepth 100000 in
theorem wd_349 : (.code y_Reader_readInto prog_4_method_3_code 4 (some .boolean) : Cond) ∈ tbg := tbg_c2 109 rfl rfl
set_option maxRecDepth 100000 in
theorem wd_353 : (.code y_Realm_empty prog_5_method_2_code 1 none : Cond) ∈ tbg := tbg_c2 113 rfl rfl
set_option maxRecDepth 100000 in
theorem wd_356 : (.code y_Arrays_fillI prog_17_method_103_code 4 none : Cond) ∈ tbg := tbg_c2 116 rfl rfl
set_option maxRecDepth 100000 in
theorem wd_360 : (.code y_Reader_takeToken prog_4_method_17_code 1 (some .boolean) : Cond) ∈ tbg := tbg_c2 120 rfl rfl
set_option maxRecDepth 100000 in
theorem wd_364 : (.code y_Reader_passRun prog_4_method_19_code 3 none : Cond) ∈ tbg := tbg_c2 124 rfl rfl
set_option maxRecDepth 100000 in
theorem wd_368 : (.code y_Reader_kindHere prog_4_method_18_code 2 (some .int) : Cond) ∈ tbg := tbg_c2 128 rfl rfl
set_option maxRecDepth 100000 in
theorem wd_372 : (.code y_Reader_valueOfRun prog_4_method_20_code 3 (some .int) : Cond) ∈ tbg := tbg_c2 132 rfl rfl
set_option maxRecDepth 100000 in
theorem wd_376 : (.code y_Reader_fail prog_4_method_21_code 3 (some .boolean) : Cond) ∈ tbg := tbg_c2 136 rfl rfl
set_option maxRecDepth 100000 in
theorem wd_380 : (.code y_Reader_takeLine prog_4_method_4_code 2 (some .boolean) : Cond) ∈ tbg := tbg_c2 140 rfl rfl
set_option maxRecDepth 100000 in
theorem wd_385 : (.code y_Reader_isWord prog_4_method_16_code 3 (some .boolean) : Cond) ∈ tbg := tbg_c2 145 rfl rfl
set_option maxRecDepth 100000 in
theorem wd_389 : (.code y_String_length prog_13_method_54_code 1 (some .int) : Cond) ∈ tbg := tbg_c2 149 rfl rfl
set_option maxRecDepth 100000 in
theorem wd_393 : (.code y_String_coder prog_13_method_152_code 1 (some .byte) : Cond) ∈ tbg := tbg_c2 153 rfl rfl
set_option maxRecDepth 100000 in
theorem wd_399 : (.code y_String_charAt prog_13_method_56_code 2 (some .char) : Cond) ∈ tbg := tbg_c2 159 rfl rfl
set_option maxRecDepth 100000 in
theorem wd_403 : (.code y_String_isLatin1 prog_13_method_154_code 1 (some .boolean) : Cond) ∈ tbg := tbg_c2 163 rfl rfl
set_option maxRecDepth 100000 in
theorem wd_406 : (.code y_StringLatin1_charAt prog_14_method_2_code 2 (some .char) : Cond) ∈ tbg := tbg_c2 166 rfl rfl
set_option maxRecDepth 100000 in
theorem wd_409 : (.code y_String_checkIndex prog_13_method_155_code 2 none : Cond) ∈ tbg := tbg_c2 169 rfl rfl
set_option maxRecDepth 100000 in
theorem wd_414 : (.code y_Preconditions_checkIndex prog_18_method_11_code 3 (some .int) : Cond) ∈ tbg := tbg_c2 174 rfl rfl
set_option maxRecDepth 100000 in
theorem wd_437 : (.code y_Reader_takeLaw prog_4_method_5_code 3 (some .boolean) : Cond) ∈ tbg := tbg_c2 197 rfl rfl
set_option maxRecDepth 100000 in
theorem wd_441 : (.code y_Reader_takeNumber prog_4_method_13_code 3 (some .boolean) : Cond) ∈ tbg := tbg_c2 201 rfl rfl
set_option maxRecDepth 100000 in
theorem wd_445 : (.code y_Reader_isBounded prog_4_method_14_code 3 (some .boolean) : Cond) ∈ tbg := tbg_c2 205 rfl rfl
set_option maxRecDepth 100000 in
theorem wd_450 : (.code y_Reader_putInto prog_4_method_12_code 3 (some .boolean) : Cond) ∈ tbg := tbg_c2 210 rfl rfl
set_option maxRecDepth 100000 in
theorem wd_454 : (.code y_Reader_takeCarried prog_4_method_6_code 3 (some .boolean) : Cond) ∈ tbg := tbg_c2 214 rfl rfl
set_option maxRecDepth 100000 in
theorem wd_458 : (.code y_Reader_isStop prog_4_method_15_code 1 (some .boolean) : Cond) ∈ tbg := tbg_c2 218 rfl rfl
set_option maxRecDepth 100000 in
theorem wd_463 : (.code y_Reader_takeOne prog_4_method_7_code 5 (some .boolean) : Cond) ∈ tbg := tbg_c2 223 rfl rfl
set_option maxRecDepth 100000 in
theorem wd_467 : (.code y_Reader_addLaw prog_4_method_10_code 3 (some .boolean) : Cond) ∈ tbg := tbg_c2 227 rfl rfl
set_option maxRecDepth 100000 in
theorem wd_470 : (.code y_Q_hasBit prog_1_method_42_code 2 (some .boolean) : Cond) ∈ tbg := tbg_c2 230 rfl rfl
set_option maxRecDepth 100000 in
theorem wd_475 : (.code y_Reader_takeWant prog_4_method_8_code 3 (some .boolean) : Cond) ∈ tbg := tbg_c2 235 rfl rfl
set_option maxRecDepth 100000 in
theorem wd_480 : (.code y_Reader_takeWatch prog_4_method_9_code 2 (some .boolean) : Cond) ∈ tbg := tbg_c3 0 rfl rfl
set_option maxRecDepth 100000 in
theorem wd_483 : (.code y_Reader_allThere prog_4_method_11_code 4 (some .boolean) : Cond) ∈ tbg := tbg_c3 3 rfl rfl
set_option maxRecDepth 100000 in
theorem wd_486 : (.code y_Q_isPart prog_1_method_45_code 2 (some .boolean) : Cond) ∈ tbg := tbg_c3 6 rfl rfl
set_option maxRecDepth 100000 in
theorem wd_490 : (.code y_Realm_hasLaw prog_5_method_4_code 2 (some .boolean) : Cond) ∈ tbg := tbg_c3 10 rfl rfl
set_option maxRecDepth 100000 in
theorem wd_494 : (.code y_Realm_hasOne prog_5_method_5_code 2 (some .boolean) : Cond) ∈ tbg := tbg_c3 14 rfl rfl
set_option maxRecDepth 100000 in
theorem wd_498 : (.code y_Realm_copyFrom prog_5_method_3_code 2 none : Cond) ∈ tbg := tbg_c3 18 rfl rfl
set_option maxRecDepth 100000 in
theorem wd_505 : (.code y_Sightings_copyFrom prog_7_method_4_code 2 none : Cond) ∈ tbg := tbg_c3 25 rfl rfl
set_option maxRecDepth 100000 in
theorem wd_510 : (.code y_Q_fault prog_1_method_5_code 1 (some .int) : Cond) ∈ tbg := tbg_c3 30 rfl rfl
set_option maxRecDepth 100000 in
theorem wd_514 : (.code y_Q_rule prog_1_method_6_code 2 (some .int) : Cond) ∈ tbg := tbg_c3 34 rfl rfl
set_option maxRecDepth 100000 in
theorem wd_518 : (.code y_Q_law prog_1_method_7_code 3 (some .int) : Cond) ∈ tbg := tbg_c3 38 rfl rfl
set_option maxRecDepth 100000 in
theorem wd_523 : (.code y_Realm_needOf prog_5_method_10_code 4 (some .int) : Cond) ∈ tbg := tbg_c3 43 rfl rfl
set_option maxRecDepth 100000 in
theorem wd_528 : (.code y_Realm_brokenBy prog_5_method_7_code 3 (some .int) : Cond) ∈ tbg := tbg_c3 48 rfl rfl
set_option maxRecDepth 100000 in
theorem wd_531 : (.code Lib.Math.max.name Lib.Math.max.code 2 (some .int) : Cond) ∈ tbg := tbg_c3 51 rfl rfl
set_option maxRecDepth 100000 in
theorem wd_535 : (.code y_Realm_chainOf prog_5_method_13_code 5 (some .int) : Cond) ∈ tbg := tbg_c3 55 rfl rfl
set_option maxRecDepth 100000 in
theorem wd_540 : (.code y_Q_one prog_1_method_8_code 3 (some .int) : Cond) ∈ tbg := tbg_c3 60 rfl rfl
set_option maxRecDepth 100000 in
theorem wd_545 : (.code y_Realm_brokenByOne prog_5_method_8_code 4 (some .int) : Cond) ∈ tbg := tbg_c3 65 rfl rfl
set_option maxRecDepth 100000 in
theorem wd_549 : (.code y_Realm_breakable prog_5_method_18_code 4 (some .int) : Cond) ∈ tbg := tbg_c3 69 rfl rfl
set_option maxRecDepth 100000 in
theorem wd_553 : (.code y_Realm_ableAlone prog_5_method_16_code 3 (some .int) : Cond) ∈ tbg := tbg_c3 73 rfl rfl
set_option maxRecDepth 100000 in
theorem wd_557 : (.code y_Realm_roomOf prog_5_method_14_code 4 (some .int) : Cond) ∈ tbg := tbg_c3 77 rfl rfl
set_option maxRecDepth 100000 in
theorem wd_561 : (.code y_Realm_timeLeft prog_5_method_15_code 2 (some .int) : Cond) ∈ tbg := tbg_c3 81 rfl rfl
set_option maxRecDepth 100000 in
theorem wd_565 : (.code Lib.Math.min.name Lib.Math.min.code 2 (some .int) : Cond) ∈ tbg := tbg_c3 85 rfl rfl
set_option maxRecDepth 100000 in
theorem wd_569 : (.code y_Q_broken prog_1_method_9_code 3 (some .int) : Cond) ∈ tbg := tbg_c3 89 rfl rfl
set_option maxRecDepth 100000 in
theorem wd_573 : (.code y_Realm_hasBoth prog_5_method_6_code 3 (some .boolean) : Cond) ∈ tbg := tbg_c3 93 rfl rfl
set_option maxRecDepth 100000 in
theorem wd_579 : (.code y_Q_quota prog_1_method_10_code 4 (some .int) : Cond) ∈ tbg := tbg_c3 99 rfl rfl
set_option maxRecDepth 100000 in
theorem wd_583 : (.code y_Q_carry prog_1_method_11_code 4 (some .int) : Cond) ∈ tbg := tbg_c3 103 rfl rfl
set_option maxRecDepth 100000 in
theorem wd_587 : (.code y_Q_watch prog_1_method_12_code 4 (some .int) : Cond) ∈ tbg := tbg_c3 107 rfl rfl
set_option maxRecDepth 100000 in
theorem wd_590 : (.code y_Q_bitOf prog_1_method_43_code 2 (some .int) : Cond) ∈ tbg := tbg_c3 110 rfl rfl
set_option maxRecDepth 100000 in
theorem wd_593 : (.code y_Q_withBit prog_1_method_44_code 3 (some .int) : Cond) ∈ tbg := tbg_c3 113 rfl rfl
set_option maxRecDepth 100000 in
theorem wd_597 : (.code y_Q_time prog_1_method_13_code 4 (some .int) : Cond) ∈ tbg := tbg_c3 117 rfl rfl
set_option maxRecDepth 100000 in
theorem wd_601 : (.code y_Q_refuse prog_1_method_14_code 5 (some .int) : Cond) ∈ tbg := tbg_c3 121 rfl rfl
set_option maxRecDepth 100000 in
theorem wd_605 : (.code y_Q_want prog_1_method_15_code 5 (some .int) : Cond) ∈ tbg := tbg_c3 125 rfl rfl
set_option maxRecDepth 100000 in
theorem wd_609 : (.code y_Q_fund prog_1_method_16_code 4 (some .int) : Cond) ∈ tbg := tbg_c3 129 rfl rfl
set_option maxRecDepth 100000 in
theorem wd_613 : (.code y_Q_revive prog_1_method_17_code 2 (some .int) : Cond) ∈ tbg := tbg_c3 133 rfl rfl
set_option maxRecDepth 100000 in
theorem wd_617 : (.code y_Integer_bitCount prog_11_method_49_code 1 (some .int) : Cond) ∈ tbg := tbg_c3 137 rfl rfl
set_option maxRecDepth 100000 in
theorem wd_624 : (.code y_Q_breaks prog_1_method_18_code 3 (some .int) : Cond) ∈ tbg := tbg_c3 144 rfl rfl
set_option maxRecDepth 100000 in
theorem wd_628 : (.code y_Realm_breakOnce prog_5_method_19_code 4 (some .int) : Cond) ∈ tbg := tbg_c3 148 rfl rfl
set_option maxRecDepth 100000 in
theorem wd_633 : (.code y_Realm_mark prog_5_method_20_code 4 (some .int) : Cond) ∈ tbg := tbg_c3 153 rfl rfl
set_option maxRecDepth 100000 in
theorem wd_637 : (.code y_Q_year prog_1_method_19_code 1 (some .int) : Cond) ∈ tbg := tbg_c3 157 rfl rfl
set_option maxRecDepth 100000 in
theorem wd_641 : (.code y_Realm_endYear prog_5_method_22_code 2 (some .int) : Cond) ∈ tbg := tbg_c3 161 rfl rfl
set_option maxRecDepth 100000 in
theorem wd_645 : (.code y_Realm_lapsing prog_5_method_21_code 3 (some .int) : Cond) ∈ tbg := tbg_c3 165 rfl rfl
set_option maxRecDepth 100000 in
theorem wd_651 : (.code y_Q_falls prog_1_method_20_code 1 (some .int) : Cond) ∈ tbg := tbg_c3 171 rfl rfl
set_option maxRecDepth 100000 in
theorem wd_656 : (.code y_Q_most prog_1_method_21_code 6 (some .int) : Cond) ∈ tbg := tbg_c3 176 rfl rfl
set_option maxRecDepth 100000 in
theorem wd_660 : (.code y_Q_rota prog_1_method_22_code 5 (some .int) : Cond) ∈ tbg := tbg_c3 180 rfl rfl
set_option maxRecDepth 100000 in
theorem wd_664 : (.code y_Planner_load prog_3_method_2_code 4 none : Cond) ∈ tbg := tbg_c3 184 rfl rfl
set_option maxRecDepth 100000 in
theorem wd_673 : (.code y_Planner_leastHarm prog_3_method_7_code 4 (some .int) : Cond) ∈ tbg := tbg_c3 193 rfl rfl
set_option maxRecDepth 100000 in
theorem wd_678 : (.code y_Planner_leftToLast prog_3_method_9_code 4 (some .int) : Cond) ∈ tbg := tbg_c3 198 rfl rfl
set_option maxRecDepth 100000 in
theorem wd_681 : (.code y_Planner_stateOf prog_3_method_10_code 3 (some .int) : Cond) ∈ tbg := tbg_c3 201 rfl rfl
set_option maxRecDepth 100000 in
theorem wd_685 : (.code y_Planner_search prog_3_method_11_code 12 (some .int) : Cond) ∈ tbg := tbg_c3 205 rfl rfl
set_option maxRecDepth 100000 in
theorem wd_691 : (.code y_Planner_timesInFirst prog_3_method_8_code 6 (some .int) : Cond) ∈ tbg := tbg_c3 211 rfl rfl
set_option maxRecDepth 100000 in
theorem wd_695 : (.code y_Q_more prog_1_method_23_code 3 (some .int) : Cond) ∈ tbg := tbg_c3 215 rfl rfl
set_option maxRecDepth 100000 in
theorem wd_699 : (.code y_Planner_grant prog_3_method_3_code 3 none : Cond) ∈ tbg := tbg_c3 219 rfl rfl
set_option maxRecDepth 100000 in
theorem wd_704 : (.code y_Planner_canMeet prog_3_method_4_code 3 (some .boolean) : Cond) ∈ tbg := tbg_c3 224 rfl rfl
set_option maxRecDepth 100000 in
theorem wd_709 : (.code y_Planner_needOfAll prog_3_method_5_code 4 (some .int) : Cond) ∈ tbg := tbg_c3 229 rfl rfl
set_option maxRecDepth 100000 in
theorem wd_714 : (.code y_Planner_givenTo prog_3_method_6_code 6 (some .int) : Cond) ∈ tbg := tbg_c3 234 rfl rfl
set_option maxRecDepth 100000 in
theorem wd_718 : (.code y_Q_together prog_1_method_24_code 5 (some .int) : Cond) ∈ tbg := tbg_c3 238 rfl rfl
set_option maxRecDepth 100000 in
theorem wd_723 : (.code y_Q_kill prog_1_method_25_code 6 (some .int) : Cond) ∈ tbg := tbg_c4 3 rfl rfl
set_option maxRecDepth 100000 in
theorem wd_727 : (.code y_Realm_ableWithout prog_5_method_17_code 5 (some .int) : Cond) ∈ tbg := tbg_c4 7 rfl rfl
set_option maxRecDepth 100000 in
theorem wd_731 : (.code y_Q_selfish prog_1_method_26_code 3 (some .int) : Cond) ∈ tbg := tbg_c4 11 rfl rfl
set_option maxRecDepth 100000 in
theorem wd_735 : (.code y_Realm_eachForHimself prog_5_method_24_code 6 (some .int) : Cond) ∈ tbg := tbg_c4 15 rfl rfl
set_option maxRecDepth 100000 in
theorem wd_739 : (.code y_Realm_mostNeeded prog_5_method_25_code 6 (some .int) : Cond) ∈ tbg := tbg_c4 19 rfl rfl
set_option maxRecDepth 100000 in
theorem wd_744 : (.code y_Realm_met prog_5_method_23_code 3 (some .int) : Cond) ∈ tbg := tbg_c4 24 rfl rfl
set_option maxRecDepth 100000 in
theorem wd_748 : (.code y_Q_luck prog_1_method_27_code 3 (some .long) : Cond) ∈ tbg := tbg_c4 28 rfl rfl
set_option maxRecDepth 100000 in
theorem wd_753 : (.code y_Odds_weigh prog_2_method_2_code 6 none : Cond) ∈ tbg := tbg_c4 33 rfl rfl
set_option maxRecDepth 100000 in
theorem wd_756 : (.code y_Arrays_fillJ prog_17_method_101_code 5 none : Cond) ∈ tbg := tbg_c4 36 rfl rfl
set_option maxRecDepth 100000 in
theorem wd_761 : (.code y_Odds_addTry prog_2_method_3_code 3 none : Cond) ∈ tbg := tbg_c4 41 rfl rfl
set_option maxRecDepth 100000 in
theorem wd_767 : (.code y_Odds_reduce prog_2_method_4_code 8 none : Cond) ∈ tbg := tbg_c4 47 rfl rfl
set_option maxRecDepth 100000 in
theorem wd_771 : (.code y_Q_see prog_1_method_28_code 5 (some .int) : Cond) ∈ tbg := tbg_c4 51 rfl rfl
set_option maxRecDepth 100000 in
theorem wd_775 : (.code y_Sightings_append prog_7_method_2_code 4 (some .boolean) : Cond) ∈ tbg := tbg_c4 55 rfl rfl
set_option maxRecDepth 100000 in
theorem wd_779 : (.code y_Q_forget prog_1_method_29_code 3 (some .int) : Cond) ∈ tbg := tbg_c4 59 rfl rfl
set_option maxRecDepth 100000 in
theorem wd_783 : (.code y_Q_books prog_1_method_30_code 1 (some .long) : Cond) ∈ tbg := tbg_c4 63 rfl rfl
set_option maxRecDepth 100000 in
theorem wd_787 : (.code y_Tables_load prog_8_method_2_code 6 none : Cond) ∈ tbg := tbg_c4 67 rfl rfl
set_option maxRecDepth 100000 in
theorem wd_792 : (.code y_Sightings_sumDue prog_7_method_3_code 5 (some .int) : Cond) ∈ tbg := tbg_c4 72 rfl rfl
set_option maxRecDepth 100000 in
theorem wd_798 : (.code y_Tables_fitting prog_8_method_4_code 3 (some .long) : Cond) ∈ tbg := tbg_c4 78 rfl rfl
set_option maxRecDepth 100000 in
theorem wd_803 : (.code y_Tables_spendAlone prog_8_method_5_code 9 none : Cond) ∈ tbg := tbg_c4 83 rfl rfl
set_option maxRecDepth 100000 in
theorem wd_807 : (.code y_Tables_joinAll prog_8_method_6_code 4 none : Cond) ∈ tbg := tbg_c4 87 rfl rfl
set_option maxRecDepth 100000 in
theorem wd_810 : (.code y_Tables_stateOf prog_8_method_11_code 3 (some .int) : Cond) ∈ tbg := tbg_c4 90 rfl rfl
set_option maxRecDepth 100000 in
theorem wd_814 : (.code y_Tables_spendTogether prog_8_method_7_code 5 none : Cond) ∈ tbg := tbg_c4 94 rfl rfl
set_option maxRecDepth 100000 in
theorem wd_818 : (.code y_Tables_waysTo prog_8_method_8_code 13 (some .long) : Cond) ∈ tbg := tbg_c4 98 rfl rfl
set_option maxRecDepth 100000 in
theorem wd_824 : (.code y_Tables_sumOfDue prog_8_method_9_code 6 (some .long) : Cond) ∈ tbg := tbg_c4 104 rfl rfl
set_option maxRecDepth 100000 in
theorem wd_828 : (.code y_Tables_isDueOf prog_8_method_10_code 3 (some .boolean) : Cond) ∈ tbg := tbg_c4 108 rfl rfl
set_option maxRecDepth 100000 in
theorem wd_832 : (.code y_Q_entry prog_1_method_31_code 4 (some .int) : Cond) ∈ tbg := tbg_c4 112 rfl rfl
set_option maxRecDepth 100000 in
theorem wd_836 : (.code y_Tables_firstThatFits prog_8_method_3_code 8 (some .int) : Cond) ∈ tbg := tbg_c4 116 rfl rfl
set_option maxRecDepth 100000 in
theorem wd_841 : (.code y_Q_wild prog_1_method_32_code 5 (some .int) : Cond) ∈ tbg := tbg_c4 121 rfl rfl
set_option maxRecDepth 100000 in
theorem wd_845 : (.code y_Realm_breakBySeed prog_5_method_26_code 8 (some .int) : Cond) ∈ tbg := tbg_c4 125 rfl rfl
set_option maxRecDepth 100000 in
theorem wd_848 : (.code y_Realm_nextSeed prog_5_method_27_code 1 (some .int) : Cond) ∈ tbg := tbg_c4 128 rfl rfl
set_option maxRecDepth 100000 in
theorem wd_852 : (.code y_Realm_drawn prog_5_method_28_code 1 (some .int) : Cond) ∈ tbg := tbg_c4 132 rfl rfl
set_option maxRecDepth 100000 in
theorem wd_857 : (.code y_Q_keep prog_1_method_33_code 3 (some .int) : Cond) ∈ tbg := tbg_c4 137 rfl rfl
set_option maxRecDepth 100000 in
theorem wd_861 : (.code y_Q_back prog_1_method_34_code 2 (some .int) : Cond) ∈ tbg := tbg_c4 141 rfl rfl
set_option maxRecDepth 100000 in
theorem wd_865 : (.code y_Q_sheet prog_1_method_35_code 4 (some .int) : Cond) ∈ tbg := tbg_c4 145 rfl rfl
set_option maxRecDepth 100000 in
theorem wd_869 : (.code y_Sheet_renew prog_6_method_2_code 3 none : Cond) ∈ tbg := tbg_c4 149 rfl rfl
set_option maxRecDepth 100000 in
theorem wd_874 : (.code y_Q_lay prog_1_method_36_code 5 (some .int) : Cond) ∈ tbg := tbg_c4 154 rfl rfl
set_option maxRecDepth 100000 in
theorem wd_878 : (.code y_Sheet_faultAt prog_6_method_5_code 3 (some .int) : Cond) ∈ tbg := tbg_c4 158 rfl rfl
set_option maxRecDepth 100000 in
theorem wd_882 : (.code y_Sheet_put prog_6_method_3_code 3 none : Cond) ∈ tbg := tbg_c4 162 rfl rfl
set_option maxRecDepth 100000 in
theorem wd_886 : (.code y_Q_read prog_1_method_37_code 11 (some .int) : Cond) ∈ tbg := tbg_c4 166 rfl rfl
set_option maxRecDepth 100000 in
theorem wd_890 : (.code y_Sheet_faultAs prog_6_method_7_code 2 (some .int) : Cond) ∈ tbg := tbg_c4 170 rfl rfl
set_option maxRecDepth 100000 in
theorem wd_894 : (.code y_Sheet_faultOfPair prog_6_method_6_code 4 (some .int) : Cond) ∈ tbg := tbg_c4 174 rfl rfl
set_option maxRecDepth 100000 in
theorem wd_899 : (.code y_Sheet_cellAt prog_6_method_4_code 3 (some .int) : Cond) ∈ tbg := tbg_c4 179 rfl rfl
set_option maxRecDepth 100000 in
theorem wd_903 : (.code y_Q_torn prog_1_method_38_code 1 (some .int) : Cond) ∈ tbg := tbg_c4 183 rfl rfl
set_option maxRecDepth 100000 in
theorem wd_907 : (.code y_Q_count prog_1_method_39_code 2 (some .int) : Cond) ∈ tbg := tbg_c4 187 rfl rfl
set_option maxRecDepth 100000 in
theorem wd_911 : (.code y_Realm_brokenInAll prog_5_method_9_code 3 (some .int) : Cond) ∈ tbg := tbg_c4 191 rfl rfl
set_option maxRecDepth 100000 in
theorem wd_915 : (.code y_Q_countKept prog_1_method_40_code 3 (some .int) : Cond) ∈ tbg := tbg_c4 195 rfl rfl
set_option maxRecDepth 100000 in
theorem wd_919 : (.code y_Realm_allPurses prog_5_method_12_code 3 (some .int) : Cond) ∈ tbg := tbg_c4 199 rfl rfl
set_option maxRecDepth 100000 in
theorem wd_923 : (.code y_Realm_allNeed prog_5_method_11_code 3 (some .int) : Cond) ∈ tbg := tbg_c4 203 rfl rfl
set_option maxRecDepth 100000 in
theorem wd_928 : (.code y_M_new prog_10_method_1_code 2 none : Cond) ∈ tbg := tbg_c4 208 rfl rfl
set_option maxRecDepth 100000 in
theorem wd_933 : (.code y_M_firstDraft prog_10_method_5_code 2 none : Cond) ∈ tbg := tbg_c4 213 rfl rfl
set_option maxRecDepth 100000 in
theorem wd_937 : (.code y_M_keepDraft prog_10_method_6_code 2 none : Cond) ∈ tbg := tbg_c4 217 rfl rfl
set_option maxRecDepth 100000 in
theorem wd_1059 : (.code y_M_feed prog_10_method_7_code 2 (some .int) : Cond) ∈ tbg := tbg_c5 99 rfl rfl
set_option maxRecDepth 100000 in
theorem wd_1063 : (.code y_M_in prog_10_method_3_code 6 (some .boolean) : Cond) ∈ tbg := tbg_c5 103 rfl rfl
set_option maxRecDepth 100000 in
theorem wd_1067 : (.code y_M_end prog_10_method_8_code 3 (some .int) : Cond) ∈ tbg := tbg_c5 107 rfl rfl
set_option maxRecDepth 100000 in
theorem wd_1071 : (.code y_M_text prog_10_method_21_code 2 (some .int) : Cond) ∈ tbg := tbg_c5 111 rfl rfl
set_option maxRecDepth 100000 in
theorem wd_1075 : (.code y_M_next prog_10_method_13_code 2 none : Cond) ∈ tbg := tbg_c5 115 rfl rfl
set_option maxRecDepth 100000 in
theorem wd_1079 : (.code y_M_look prog_10_method_10_code 2 (some .int) : Cond) ∈ tbg := tbg_c5 119 rfl rfl
set_option maxRecDepth 100000 in
theorem wd_1087 : (.code y_M_needs prog_10_method_9_code 3 none : Cond) ∈ tbg := tbg_c5 127 rfl rfl
set_option maxRecDepth 100000 in
theorem wd_1091 : (.code y_M_readLine prog_10_method_20_code 2 none : Cond) ∈ tbg := tbg_c5 131 rfl rfl
set_option maxRecDepth 100000 in
theorem wd_1095 : (.code y_M_lineNow prog_10_method_12_code 1 (some .int) : Cond) ∈ tbg := tbg_c5 135 rfl rfl
set_option maxRecDepth 100000 in
theorem wd_1099 : (.code y_M_is prog_10_method_11_code 5 (some .boolean) : Cond) ∈ tbg := tbg_c5 139 rfl rfl
set_option maxRecDepth 100000 in
theorem wd_1103 : (.code y_M_readLineOf prog_10_method_19_code 3 none : Cond) ∈ tbg := tbg_c5 143 rfl rfl
set_option maxRecDepth 100000 in
theorem wd_1107 : (.code y_M_readLaw prog_10_method_17_code 4 none : Cond) ∈ tbg := tbg_c5 147 rfl rfl
set_option maxRecDepth 100000 in
theorem wd_1111 : (.code y_M_readNumber prog_10_method_15_code 4 (some .int) : Cond) ∈ tbg := tbg_c5 151 rfl rfl
set_option maxRecDepth 100000 in
theorem wd_1115 : (.code y_M_looked prog_10_method_14_code 3 (some .int) : Cond) ∈ tbg := tbg_c5 155 rfl rfl
set_option maxRecDepth 100000 in
theorem wd_1119 : (.code y_M_readLawOf prog_10_method_16_code 3 (some .int) : Cond) ∈ tbg := tbg_c5 159 rfl rfl
set_option maxRecDepth 100000 in
theorem wd_1123 : (.code y_M_readOne prog_10_method_18_code 2 none : Cond) ∈ tbg := tbg_c5 163 rfl rfl
set_option maxRecDepth 100000 in
theorem wd_1127 : (.code y_M_fault prog_10_method_22_code 1 (some .int) : Cond) ∈ tbg := tbg_c5 167 rfl rfl
set_option maxRecDepth 100000 in
theorem wd_1131 : (.code y_M_rule prog_10_method_35_code 2 (some .int) : Cond) ∈ tbg := tbg_c5 171 rfl rfl
set_option maxRecDepth 100000 in
theorem wd_1135 : (.code y_M_law prog_10_method_36_code 3 (some .int) : Cond) ∈ tbg := tbg_c5 175 rfl rfl
set_option maxRecDepth 100000 in
theorem wd_1139 : (.code y_M_isLaw prog_10_method_23_code 2 (some .boolean) : Cond) ∈ tbg := tbg_c5 179 rfl rfl
set_option maxRecDepth 100000 in
theorem wd_1143 : (.code y_M_needOf prog_10_method_29_code 4 (some .int) : Cond) ∈ tbg := tbg_c5 183 rfl rfl
set_option maxRecDepth 100000 in
theorem wd_1147 : (.code y_M_doesStand prog_10_method_26_code 2 (some .boolean) : Cond) ∈ tbg := tbg_c5 187 rfl rfl
set_option maxRecDepth 100000 in
theorem wd_1151 : (.code y_M_brokenBy prog_10_method_27_code 3 (some .int) : Cond) ∈ tbg := tbg_c5 191 rfl rfl
set_option maxRecDepth 100000 in
theorem wd_1155 : (.code y_M_chainOf prog_10_method_30_code 4 (some .int) : Cond) ∈ tbg := tbg_c5 195 rfl rfl
set_option maxRecDepth 100000 in
theorem wd_1159 : (.code y_M_one prog_10_method_37_code 5 (some .int) : Cond) ∈ tbg := tbg_c5 199 rfl rfl
set_option maxRecDepth 100000 in
theorem wd_1163 : (.code y_M_isOne prog_10_method_24_code 2 (some .boolean) : Cond) ∈ tbg := tbg_c5 203 rfl rfl
set_option maxRecDepth 100000 in
theorem wd_1167 : (.code y_M_canBreak prog_10_method_33_code 3 (some .boolean) : Cond) ∈ tbg := tbg_c5 207 rfl rfl
set_option maxRecDepth 100000 in
theorem wd_1171 : (.code y_M_roomOf prog_10_method_31_code 5 (some .int) : Cond) ∈ tbg := tbg_c5 211 rfl rfl
set_option maxRecDepth 100000 in
theorem wd_1175 : (.code y_M_timeLeft prog_10_method_32_code 3 (some .int) : Cond) ∈ tbg := tbg_c5 215 rfl rfl
set_option maxRecDepth 100000 in
theorem wd_1179 : (.code y_M_allBy prog_10_method_28_code 4 (some .int) : Cond) ∈ tbg := tbg_c5 219 rfl rfl
set_option maxRecDepth 100000 in
theorem wd_1182 : (.code y_M_flag prog_10_method_4_code 1 (some .int) : Cond) ∈ tbg := tbg_c5 222 rfl rfl
set_option maxRecDepth 100000 in
theorem wd_1186 : (.code y_M_broken prog_10_method_38_code 3 (some .int) : Cond) ∈ tbg := tbg_c5 226 rfl rfl
set_option maxRecDepth 100000 in
theorem wd_1190 : (.code y_M_quota prog_10_method_41_code 3 (some .int) : Cond) ∈ tbg := tbg_c5 230 rfl rfl
set_option maxRecDepth 100000 in
theorem wd_1195 : (.code y_M_becomes prog_10_method_39_code 4 (some .int) : Cond) ∈ tbg := tbg_c5 235 rfl rfl
set_option maxRecDepth 100000 in
theorem wd_1199 : (.code y_M_carry prog_10_method_42_code 3 (some .int) : Cond) ∈ tbg := tbg_c5 239 rfl rfl
set_option maxRecDepth 100000 in
theorem wd_1203 : (.code y_M_watch prog_10_method_43_code 3 (some .int) : Cond) ∈ tbg := tbg_c6 3 rfl rfl
set_option maxRecDepth 100000 in
theorem wd_1207 : (.code y_M_becomesBit prog_10_method_40_code 5 (some .int) : Cond) ∈ tbg := tbg_c6 7 rfl rfl
set_option maxRecDepth 100000 in
theorem wd_1211 : (.code y_M_time prog_10_method_44_code 3 (some .int) : Cond) ∈ tbg := tbg_c6 11 rfl rfl
set_option maxRecDepth 100000 in
theorem wd_1216 : (.code y_M_refuse prog_10_method_45_code 4 (some .int) : Cond) ∈ tbg := tbg_c6 16 rfl rfl
set_option maxRecDepth 100000 in
theorem wd_1220 : (.code y_M_want prog_10_method_46_code 4 (some .int) : Cond) ∈ tbg := tbg_c6 20 rfl rfl
set_option maxRecDepth 100000 in
theorem wd_1224 : (.code y_M_fund prog_10_method_47_code 3 (some .int) : Cond) ∈ tbg := tbg_c6 24 rfl rfl
set_option maxRecDepth 100000 in
theorem wd_1229 : (.code y_M_revive prog_10_method_48_code 2 (some .int) : Cond) ∈ tbg := tbg_c6 29 rfl rfl
set_option maxRecDepth 100000 in
theorem wd_1232 : (.code y_M_bitsOf prog_10_method_25_code 3 (some .int) : Cond) ∈ tbg := tbg_c6 32 rfl rfl
set_option maxRecDepth 100000 in
theorem wd_1236 : (.code y_M_breaks prog_10_method_49_code 5 (some .int) : Cond) ∈ tbg := tbg_c6 36 rfl rfl
set_option maxRecDepth 100000 in
theorem wd_1240 : (.code y_M_year prog_10_method_50_code 3 (some .int) : Cond) ∈ tbg := tbg_c6 40 rfl rfl
set_option maxRecDepth 100000 in
theorem wd_1244 : (.code y_M_fallsNow prog_10_method_34_code 3 (some .int) : Cond) ∈ tbg := tbg_c6 44 rfl rfl
set_option maxRecDepth 100000 in
theorem wd_1248 : (.code y_M_falls prog_10_method_51_code 1 (some .int) : Cond) ∈ tbg := tbg_c6 48 rfl rfl
set_option maxRecDepth 100000 in
theorem wd_1252 : (.code y_M_most prog_10_method_52_code 6 (some .int) : Cond) ∈ tbg := tbg_c6 52 rfl rfl
set_option maxRecDepth 100000 in
theorem wd_1256 : (.code y_M_rota prog_10_method_60_code 7 (some .int) : Cond) ∈ tbg := tbg_c6 56 rfl rfl
set_option maxRecDepth 100000 in
theorem wd_1260 : (.code y_M_startsRota prog_10_method_58_code 3 none : Cond) ∈ tbg := tbg_c6 60 rfl rfl
set_option maxRecDepth 100000 in
theorem wd_1264 : (.code y_M_findRota prog_10_method_57_code 5 (some .int) : Cond) ∈ tbg := tbg_c6 64 rfl rfl
set_option maxRecDepth 100000 in
theorem wd_1267 : (.code y_M_at prog_10_method_53_code 4 (some .int) : Cond) ∈ tbg := tbg_c6 67 rfl rfl
set_option maxRecDepth 100000 in
theorem wd_1271 : (.code y_M_leastOf prog_10_method_56_code 10 (some .int) : Cond) ∈ tbg := tbg_c6 71 rfl rfl
set_option maxRecDepth 100000 in
theorem wd_1277 : (.code y_M_harmBy prog_10_method_55_code 10 (some .int) : Cond) ∈ tbg := tbg_c6 77 rfl rfl
set_option maxRecDepth 100000 in
theorem wd_1281 : (.code y_M_roomAt prog_10_method_54_code 3 (some .int) : Cond) ∈ tbg := tbg_c6 81 rfl rfl
set_option maxRecDepth 100000 in
theorem wd_1285 : (.code y_M_sharesOf prog_10_method_59_code 10 none : Cond) ∈ tbg := tbg_c6 85 rfl rfl
set_option maxRecDepth 100000 in
theorem wd_1289 : (.code y_M_more prog_10_method_61_code 5 (some .int) : Cond) ∈ tbg := tbg_c6 89 rfl rfl
set_option maxRecDepth 100000 in
theorem wd_1293 : (.code y_M_together prog_10_method_62_code 6 (some .int) : Cond) ∈ tbg := tbg_c6 93 rfl rfl
set_option maxRecDepth 100000 in
theorem wd_1297 : (.code y_M_kill prog_10_method_64_code 8 (some .int) : Cond) ∈ tbg := tbg_c6 97 rfl rfl
set_option maxRecDepth 100000 in
theorem wd_1301 : (.code y_M_triesOf prog_10_method_63_code 4 (some .int) : Cond) ∈ tbg := tbg_c6 101 rfl rfl
set_option maxRecDepth 100000 in
theorem wd_1305 : (.code y_M_selfish prog_10_method_68_code 7 (some .int) : Cond) ∈ tbg := tbg_c6 105 rfl rfl
set_option maxRecDepth 100000 in
theorem wd_1310 : (.code y_M_saves prog_10_method_65_code 2 none : Cond) ∈ tbg := tbg_c6 110 rfl rfl
set_option maxRecDepth 100000 in
theorem wd_1314 : (.code y_M_wantedBy prog_10_method_67_code 5 (some .int) : Cond) ∈ tbg := tbg_c6 114 rfl rfl
set_option maxRecDepth 100000 in
theorem wd_1318 : (.code y_M_returns prog_10_method_66_code 2 none : Cond) ∈ tbg := tbg_c6 118 rfl rfl
set_option maxRecDepth 100000 in
theorem wd_1322 : (.code y_M_luck prog_10_method_70_code 10 (some .long) : Cond) ∈ tbg := tbg_c6 122 rfl rfl
set_option maxRecDepth 100000 in
theorem wd_1327 : (.code y_M_common prog_10_method_69_code 10 (some .long) : Cond) ∈ tbg := tbg_c6 127 rfl rfl
set_option maxRecDepth 100000 in
theorem wd_1331 : (.code y_M_see prog_10_method_71_code 6 (some .int) : Cond) ∈ tbg := tbg_c6 131 rfl rfl
set_option maxRecDepth 100000 in
theorem wd_1336 : (.code y_M_forget prog_10_method_72_code 2 (some .int) : Cond) ∈ tbg := tbg_c6 136 rfl rfl
set_option maxRecDepth 100000 in
theorem wd_1340 : (.code y_M_books prog_10_method_80_code 1 (some .long) : Cond) ∈ tbg := tbg_c6 140 rfl rfl
set_option maxRecDepth 100000 in
theorem wd_1344 : (.code y_M_tablesBy prog_10_method_79_code 7 (some .long) : Cond) ∈ tbg := tbg_c6 144 rfl rfl
set_option maxRecDepth 100000 in
theorem wd_1348 : (.code y_M_addsLaw prog_10_method_76_code 9 none : Cond) ∈ tbg := tbg_c6 148 rfl rfl
set_option maxRecDepth 100000 in
theorem wd_1352 : (.code y_M_mostOf prog_10_method_74_code 3 (some .int) : Cond) ∈ tbg := tbg_c6 152 rfl rfl
set_option maxRecDepth 100000 in
theorem wd_1356 : (.code y_M_isSo prog_10_method_73_code 7 (some .boolean) : Cond) ∈ tbg := tbg_c6 156 rfl rfl
set_option maxRecDepth 100000 in
theorem wd_1360 : (.code y_M_isAsked prog_10_method_75_code 7 (some .boolean) : Cond) ∈ tbg := tbg_c6 160 rfl rfl
set_option maxRecDepth 100000 in
theorem wd_1364 : (.code y_M_addsTables prog_10_method_77_code 8 none : Cond) ∈ tbg := tbg_c6 164 rfl rfl
set_option maxRecDepth 100000 in
theorem wd_1368 : (.code y_M_isTime prog_10_method_78_code 3 (some .boolean) : Cond) ∈ tbg := tbg_c6 168 rfl rfl
set_option maxRecDepth 100000 in
theorem wd_1372 : (.code y_M_entry prog_10_method_81_code 8 (some .int) : Cond) ∈ tbg := tbg_c6 172 rfl rfl
set_option maxRecDepth 100000 in
theorem wd_1376 : (.code y_M_wild prog_10_method_82_code 8 (some .int) : Cond) ∈ tbg := tbg_c6 176 rfl rfl
set_option maxRecDepth 100000 in
theorem wd_1383 : (.code y_M_keep prog_10_method_84_code 3 (some .int) : Cond) ∈ tbg := tbg_c6 183 rfl rfl
set_option maxRecDepth 100000 in
theorem wd_1387 : (.code y_M_copies prog_10_method_83_code 4 none : Cond) ∈ tbg := tbg_c6 187 rfl rfl
set_option maxRecDepth 100000 in
theorem wd_1391 : (.code y_M_back prog_10_method_85_code 2 (some .int) : Cond) ∈ tbg := tbg_c6 191 rfl rfl
set_option maxRecDepth 100000 in
theorem wd_1395 : (.code y_M_sheet prog_10_method_87_code 5 (some .int) : Cond) ∈ tbg := tbg_c6 195 rfl rfl
set_option maxRecDepth 100000 in
theorem wd_1398 : (.code y_M_isSheet prog_10_method_86_code 2 (some .boolean) : Cond) ∈ tbg := tbg_c6 198 rfl rfl
set_option maxRecDepth 100000 in
theorem wd_1402 : (.code y_M_lay prog_10_method_88_code 4 (some .int) : Cond) ∈ tbg := tbg_c6 202 rfl rfl
set_option maxRecDepth 100000 in
theorem wd_1406 : (.code y_M_read prog_10_method_89_code 11 (some .int) : Cond) ∈ tbg := tbg_c6 206 rfl rfl
set_option maxRecDepth 100000 in
theorem wd_1410 : (.code y_M_torn prog_10_method_90_code 1 (some .int) : Cond) ∈ tbg := tbg_c6 210 rfl rfl
set_option maxRecDepth 100000 in
theorem wd_1414 : (.code y_M_count prog_10_method_91_code 6 (some .int) : Cond) ∈ tbg := tbg_c6 214 rfl rfl
