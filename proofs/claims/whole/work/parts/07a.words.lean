/-! THE METHODS BY NAME, the words of the tables by their places, facts of the layout -/
abbrev Y_X_aware : mm_Y := (yX11_aware, cX11_aware, 4, some .int)
abbrev Y_X_bit : mm_Y := (yX11_bit, cX11_bit, 2, some .int)
abbrev Y_X_count : mm_Y := (yX11_count, cX11_count, 2, some .int)
abbrev Y_X_draw : mm_Y := (yX11_draw, cX11_draw, 2, some .int)
abbrev Y_X_ear : mm_Y := (yX11_ear, cX11_ear, 3, some .int)
abbrev Y_X_explains : mm_Y := (yX11_explains, cX11_explains, 4, some .boolean)
abbrev Y_X_feed : mm_Y := (yX11_feed, cX11_feed, 7, some .int)
abbrev Y_X_fillLawful : mm_Y := (yX11_fillLawful, cX11_fillLawful, 3, none)
abbrev Y_X_findLeaks : mm_Y := (yX11_findLeaks, cX11_findLeaks, 2, none)
abbrev Y_X_findLies : mm_Y := (yX11_findLies, cX11_findLies, 3, none)
abbrev Y_X_gain : mm_Y := (yX11_gain, cX11_gain, 7, some .int)
abbrev Y_X_gossip : mm_Y := (yX11_gossip, cX11_gossip, 2, some .int)
abbrev Y_X_holds : mm_Y := (yX11_holds, cX11_holds, 3, some .int)
abbrev Y_X_judge : mm_Y := (yX11_judge, cX11_judge, 2, none)
abbrev Y_X_judged : mm_Y := (yX11_judged, cX11_judged, 2, some .int)
abbrev Y_X_keepGain : mm_Y := (yX11_keepGain, cX11_keepGain, 5, none)
abbrev Y_X_leaks : mm_Y := (yX11_leaks, cX11_leaks, 2, some .int)
abbrev Y_X_least : mm_Y := (yX11_least, cX11_least, 2, some .int)
abbrev Y_X_lend : mm_Y := (yX11_lend, cX11_lend, 5, some .int)
abbrev Y_X_lies : mm_Y := (yX11_lies, cX11_lies, 2, some .int)
abbrev Y_X_live : mm_Y := (yX11_live, cX11_live, 5, none)
abbrev Y_X_mark : mm_Y := (yX11_mark, cX11_mark, 3, some .boolean)
abbrev Y_X_mean : mm_Y := (yX11_mean, cX11_mean, 3, some .int)
abbrev Y_X_passNights : mm_Y := (yX11_passNights, cX11_passNights, 3, some .boolean)
abbrev Y_X_pay : mm_Y := (yX11_pay, cX11_pay, 3, some .int)
abbrev Y_X_payers : mm_Y := (yX11_payers, cX11_payers, 1, some .int)
abbrev Y_X_person : mm_Y := (yX11_person, cX11_person, 3, some .int)
abbrev Y_X_plot : mm_Y := (yX11_plot, cX11_plot, 5, some .int)
abbrev Y_X_quarter : mm_Y := (yX11_quarter, cX11_quarter, 1, some .int)
abbrev Y_X_quarterDay : mm_Y := (yX11_quarterDay, cX11_quarterDay, 3, some .int)
abbrev Y_X_remember : mm_Y := (yX11_remember, cX11_remember, 1, none)
abbrev Y_X_rests : mm_Y := (yX11_rests, cX11_rests, 4, some .int)
abbrev Y_X_rise : mm_Y := (yX11_rise, cX11_rise, 2, some .int)
abbrev Y_X_scheme : mm_Y := (yX11_scheme, cX11_scheme, 6, none)
abbrev Y_X_secret : mm_Y := (yX11_secret, cX11_secret, 3, some .int)
abbrev Y_X_see : mm_Y := (yX11_see, cX11_see, 3, some .boolean)
abbrev Y_X_settle : mm_Y := (yX11_settle, cX11_settle, 1, some .int)
abbrev Y_X_tell : mm_Y := (yX11_tell, cX11_tell, 4, some .int)
abbrev Y_X_together : mm_Y := (yX11_together, cX11_together, 4, some .int)
abbrev Y_X_town : mm_Y := (yX11_town, cX11_town, 3, some .int)
abbrev Y_X_tryFirst : mm_Y := (yX11_tryFirst, cX11_tryFirst, 8, none)
abbrev Y_X_tryLine : mm_Y := (yX11_tryLine, cX11_tryLine, 5, some .boolean)
abbrev Y_X_trySeconds : mm_Y := (yX11_trySeconds, cX11_trySeconds, 8, none)
abbrev Y_X_undo : mm_Y := (yX11_undo, cX11_undo, 1, some .boolean)
abbrev Y_X_useEar : mm_Y := (yX11_useEar, cX11_useEar, 4, some .int)
abbrev Y_X_weighed : mm_Y := (yX11_weighed, cX11_weighed, 2, some (.array .int))
abbrev Y_X_years : mm_Y := (yX11_years, cX11_years, 4, some .int)
abbrev Y_Co_admit : mm_Y := (yX0_admit, cX0_admit, 8, none)
abbrev Y_Co_fewest : mm_Y := (yX0_fewest, cX0_fewest, 7, some .int)
abbrev Y_Co_fewestPayments : mm_Y := (yX0_fewestPayments, cX0_fewestPayments, 8, some .int)
abbrev Y_Co_isLesser : mm_Y := (yX0_isLesser, cX0_isLesser, 5, some .boolean)
abbrev Y_Co_mostAtOnce : mm_Y := (yX0_mostAtOnce, cX0_mostAtOnce, 7, some .int)
abbrev Y_Co_weighSets : mm_Y := (yX0_weighSets, cX0_weighSets, 6, none)
abbrev Y_Fe_atRest : mm_Y := (yX1_atRest, cX1_atRest, 6, some .int)
abbrev Y_Fe_choose : mm_Y := (yX1_choose, cX1_choose, 4, some .boolean)
abbrev Y_Fe_invite : mm_Y := (yX1_invite, cX1_invite, 5, none)
abbrev Y_Fe_mayChoose : mm_Y := (yX1_mayChoose, cX1_mayChoose, 3, some .boolean)
abbrev Y_Fe_rest : mm_Y := (yX1_rest, cX1_rest, 5, some .boolean)
abbrev Y_Fe_share : mm_Y := (yX1_share, cX1_share, 6, some .int)
abbrev Y_Go_readGossip : mm_Y := (yX2_readGossip, cX2_readGossip, 4, some .int)
abbrev Y_Go_readLine : mm_Y := (yX2_readLine, cX2_readLine, 5, some .boolean)
abbrev Y_Go_readPay : mm_Y := (yX2_readPay, cX2_readPay, 5, some .boolean)
abbrev Y_Go_readTell : mm_Y := (yX2_readTell, cX2_readTell, 6, some .boolean)
abbrev Y_La_joined : mm_Y := (yX3_joined, cX3_joined, 3, some .int)
abbrev Y_La_operand : mm_Y := (yX3_operand, cX3_operand, 5, some .int)
abbrev Y_La_put : mm_Y := (yX3_put, cX3_put, 2, none)
abbrev Y_La_readAll : mm_Y := (yX3_readAll, cX3_readAll, 5, some .boolean)
abbrev Y_La_readPart : mm_Y := (yX3_readPart, cX3_readPart, 6, some .boolean)
abbrev Y_La_readProduct : mm_Y := (yX3_readProduct, cX3_readProduct, 4, some .boolean)
abbrev Y_La_readSum : mm_Y := (yX3_readSum, cX3_readSum, 5, some .boolean)
abbrev Y_La_readTest : mm_Y := (yX3_readTest, cX3_readTest, 4, some .boolean)
abbrev Y_La_value : mm_Y := (yX3_value, cX3_value, 8, some .int)
abbrev Y_Ni_expected : mm_Y := (yX4_expected, cX4_expected, 5, some .long)
abbrev Y_Ni_listen : mm_Y := (yX4_listen, cX4_listen, 7, none)
abbrev Y_Ni_pass : mm_Y := (yX4_pass, cX4_pass, 5, none)
abbrev Y_Ni_passOne : mm_Y := (yX4_passOne, cX4_passOne, 4, none)
abbrev Y_Ni_share : mm_Y := (yX4_share, cX4_share, 9, some .long)
abbrev Y_Ni_spread : mm_Y := (yX4_spread, cX4_spread, 5, none)
abbrev Y_Ni_surety : mm_Y := (yX4_surety, cX4_surety, 7, some .long)
abbrev Y_Ni_weighCounts : mm_Y := (yX4_weighCounts, cX4_weighCounts, 5, none)
abbrev Y_St_begin : mm_Y := (yX5_begin, cX5_begin, 2, none)
abbrev Y_St_copyFrom : mm_Y := (yX5_copyFrom, cX5_copyFrom, 2, none)
abbrev Y_St_endQuarter : mm_Y := (yX5_endQuarter, cX5_endQuarter, 4, some .int)
abbrev Y_St_forget : mm_Y := (yX5_forget, cX5_forget, 4, none)
abbrev Y_St_isAware : mm_Y := (yX5_isAware, cX5_isAware, 4, some .boolean)
abbrev Y_St_known : mm_Y := (yX5_known, cX5_known, 5, some .int)
abbrev Y_St_lawWorth : mm_Y := (yX5_lawWorth, cX5_lawWorth, 6, some .int)
abbrev Y_St_mayLend : mm_Y := (yX5_mayLend, cX5_mayLend, 5, some .boolean)
abbrev Y_St_mayPay : mm_Y := (yX5_mayPay, cX5_mayPay, 5, some .boolean)
abbrev Y_St_mayTell : mm_Y := (yX5_mayTell, cX5_mayTell, 5, some .boolean)
abbrev Y_St_owe : mm_Y := (yX5_owe, cX5_owe, 4, none)
abbrev Y_St_payable : mm_Y := (yX5_payable, cX5_payable, 3, some .int)
abbrev Y_St_take : mm_Y := (yX5_take, cX5_take, 3, none)
abbrev Y_St_weigh : mm_Y := (yX5_weigh, cX5_weigh, 5, none)
abbrev Y_St_whisper : mm_Y := (yX5_whisper, cX5_whisper, 5, none)
abbrev Y_Tk_addLine : mm_Y := (yX6_addLine, cX6_addLine, 5, none)
abbrev Y_Tk_addSeen : mm_Y := (yX6_addSeen, cX6_addSeen, 3, some .boolean)
abbrev Y_Tk_clear : mm_Y := (yX6_clear, cX6_clear, 1, none)
abbrev Y_Tk_copyFrom : mm_Y := (yX6_copyFrom, cX6_copyFrom, 2, none)
abbrev Y_Tk_copyLines : mm_Y := (yX6_copyLines, cX6_copyLines, 2, none)
abbrev Y_Ta_add : mm_Y := (yX7_add, cX7_add, 6, none)
abbrev Y_Ta_clear : mm_Y := (yX7_clear, cX7_clear, 1, none)
abbrev Y_Ta_isName : mm_Y := (yX7_isName, cX7_isName, 1, some .boolean)
abbrev Y_Ta_isSign : mm_Y := (yX7_isSign, cX7_isSign, 2, some .boolean)
abbrev Y_Ta_next : mm_Y := (yX7_next, cX7_next, 2, none)
abbrev Y_Ta_rewind : mm_Y := (yX7_rewind, cX7_rewind, 1, none)
abbrev Y_Ta_scanNumber : mm_Y := (yX7_scanNumber, cX7_scanNumber, 1, none)
abbrev Y_Ta_scanWord : mm_Y := (yX7_scanWord, cX7_scanWord, 2, none)
abbrev Y_Ta_takeNumber : mm_Y := (yX7_takeNumber, cX7_takeNumber, 4, some .int)
abbrev Y_Ta_takeSign : mm_Y := (yX7_takeSign, cX7_takeSign, 2, some .boolean)
abbrev Y_Ta_takeWord : mm_Y := (yX7_takeWord, cX7_takeWord, 2, some .boolean)
abbrev Y_Ta_wrong : mm_Y := (yX7_wrong, cX7_wrong, 2, some .boolean)
abbrev Y_To_agrees : mm_Y := (yX8_agrees, cX8_agrees, 3, some .boolean)
abbrev Y_To_allSecrets : mm_Y := (yX8_allSecrets, cX8_allSecrets, 1, some .int)
abbrev Y_To_chance : mm_Y := (yX8_chance, cX8_chance, 4, some .int)
abbrev Y_To_clear : mm_Y := (yX8_clear, cX8_clear, 1, none)
abbrev Y_To_findPerson : mm_Y := (yX8_findPerson, cX8_findPerson, 4, some .int)
abbrev Y_To_findSecret : mm_Y := (yX8_findSecret, cX8_findSecret, 4, some .int)
abbrev Y_To_findTold : mm_Y := (yX8_findTold, cX8_findTold, 4, some .int)
abbrev Y_To_hasPair : mm_Y := (yX8_hasPair, cX8_hasPair, 3, some .boolean)
abbrev Y_To_hasPerson : mm_Y := (yX8_hasPerson, cX8_hasPerson, 2, some .boolean)
abbrev Y_To_hasSecret : mm_Y := (yX8_hasSecret, cX8_hasSecret, 2, some .boolean)
abbrev Y_To_knowers : mm_Y := (yX8_knowers, cX8_knowers, 2, some .int)
abbrev Y_To_speaks : mm_Y := (yX8_speaks, cX8_speaks, 2, some .boolean)
abbrev Y_To_takeSet : mm_Y := (yX8_takeSet, cX8_takeSet, 6, some .int)
abbrev Y_To_takeTold : mm_Y := (yX8_takeTold, cX8_takeTold, 4, some .int)
abbrev Y_Tr_kindOf : mm_Y := (yX9_kindOf, cX9_kindOf, 1, some .int)
abbrev Y_Tr_readClash : mm_Y := (yX9_readClash, cX9_readClash, 4, some .boolean)
abbrev Y_Tr_readEar : mm_Y := (yX9_readEar, cX9_readEar, 5, some .boolean)
abbrev Y_Tr_readLine : mm_Y := (yX9_readLine, cX9_readLine, 2, some .boolean)
abbrev Y_Tr_readOf : mm_Y := (yX9_readOf, cX9_readOf, 3, some .boolean)
abbrev Y_Tr_readOn : mm_Y := (yX9_readOn, cX9_readOn, 3, some .boolean)
abbrev Y_Tr_readPerson : mm_Y := (yX9_readPerson, cX9_readPerson, 3, some .boolean)
abbrev Y_Tr_readSecret : mm_Y := (yX9_readSecret, cX9_readSecret, 3, some .boolean)
abbrev Y_Tr_readTown : mm_Y := (yX9_readTown, cX9_readTown, 3, some .int)
abbrev Y_Tr_readWorth : mm_Y := (yX9_readWorth, cX9_readWorth, 2, some .boolean)
abbrev Y_Tr_takeNewName : mm_Y := (yX9_takeNewName, cX9_takeNewName, 2, some .boolean)
abbrev Y_M_allSecrets : mm_Y := (yX12_allSecrets, cX12_allSecrets, 1, some .int)
abbrev Y_M_areTwo : mm_Y := (yX12_areTwo, cX12_areTwo, 3, some .boolean)
abbrev Y_M_aware : mm_Y := (yX12_aware, cX12_aware, 4, some .int)
abbrev Y_M_baseOf : mm_Y := (yX12_baseOf, cX12_baseOf, 4, some .int)
abbrev Y_M_between : mm_Y := (yX12_between, cX12_between, 3, some .int)
abbrev Y_M_bits : mm_Y := (yX12_bits, cX12_bits, 3, some .int)
abbrev Y_M_canPay : mm_Y := (yX12_canPay, cX12_canPay, 3, some .boolean)
abbrev Y_M_canTell : mm_Y := (yX12_canTell, cX12_canTell, 4, some .boolean)
abbrev Y_M_chanceOf : mm_Y := (yX12_chanceOf, cX12_chanceOf, 2, some .int)
abbrev Y_M_closes : mm_Y := (yX12_closes, cX12_closes, 1, some .boolean)
abbrev Y_M_copies : mm_Y := (yX12_copies, cX12_copies, 5, none)
abbrev Y_M_count : mm_Y := (yX12_count, cX12_count, 2, some .int)
abbrev Y_M_draws : mm_Y := (yX12_draws, cX12_draws, 2, some .int)
abbrev Y_M_ear : mm_Y := (yX12_ear, cX12_ear, 4, some .int)
abbrev Y_M_fact : mm_Y := (yX12_fact, cX12_fact, 1, some .int)
abbrev Y_M_fails : mm_Y := (yX12_fails, cX12_fails, 2, some .boolean)
abbrev Y_M_feed : mm_Y := (yX12_feed, cX12_feed, 11, some .int)
abbrev Y_M_finesOfAll : mm_Y := (yX12_finesOfAll, cX12_finesOfAll, 3, some .int)
abbrev Y_M_fresh : mm_Y := (yX12_fresh, cX12_fresh, 2, none)
abbrev Y_M_goes : mm_Y := (yX12_goes, cX12_goes, 5, some .boolean)
abbrev Y_M_gossip : mm_Y := (yX12_gossip, cX12_gossip, 1, some .int)
abbrev Y_M_hasBy : mm_Y := (yX12_hasBy, cX12_hasBy, 4, some .int)
abbrev Y_M_holds : mm_Y := (yX12_holds, cX12_holds, 6, some .int)
abbrev Y_M_isAsSeen : mm_Y := (yX12_isAsSeen, cX12_isAsSeen, 3, some .boolean)
abbrev Y_M_isClashing : mm_Y := (yX12_isClashing, cX12_isClashing, 3, some .boolean)
abbrev Y_M_isKept : mm_Y := (yX12_isKept, cX12_isKept, 1, some .boolean)
abbrev Y_M_isNew : mm_Y := (yX12_isNew, cX12_isNew, 1, some .boolean)
abbrev Y_M_isPerson : mm_Y := (yX12_isPerson, cX12_isPerson, 2, some .boolean)
abbrev Y_M_isRest : mm_Y := (yX12_isRest, cX12_isRest, 6, some .boolean)
abbrev Y_M_isSecret : mm_Y := (yX12_isSecret, cX12_isSecret, 2, some .boolean)
abbrev Y_M_isSign : mm_Y := (yX12_isSign, cX12_isSign, 2, some .boolean)
abbrev Y_M_isWord : mm_Y := (yX12_isWord, cX12_isWord, 3, some .boolean)
abbrev Y_M_judged : mm_Y := (yX12_judged, cX12_judged, 4, some .int)
abbrev Y_M_keeps : mm_Y := (yX12_keeps, cX12_keeps, 2, none)
abbrev Y_M_knowersOf : mm_Y := (yX12_knowersOf, cX12_knowersOf, 4, some .int)
abbrev Y_M_knownBy : mm_Y := (yX12_knownBy, cX12_knownBy, 4, some .int)
abbrev Y_M_lays : mm_Y := (yX12_lays, cX12_lays, 1, none)
abbrev Y_M_laysHears : mm_Y := (yX12_laysHears, cX12_laysHears, 6, none)
abbrev Y_M_laysLines : mm_Y := (yX12_laysLines, cX12_laysLines, 4, none)
abbrev Y_M_laysSeen : mm_Y := (yX12_laysSeen, cX12_laysSeen, 4, none)
abbrev Y_M_leaks : mm_Y := (yX12_leaks, cX12_leaks, 7, some .int)
abbrev Y_M_least : mm_Y := (yX12_least, cX12_least, 2, some .int)
abbrev Y_M_leastOf : mm_Y := (yX12_leastOf, cX12_leastOf, 6, some .int)
abbrev Y_M_lend : mm_Y := (yX12_lend, cX12_lend, 5, some .int)
abbrev Y_M_lies : mm_Y := (yX12_lies, cX12_lies, 6, some .int)
abbrev Y_M_mark : mm_Y := (yX12_mark, cX12_mark, 5, some .boolean)
abbrev Y_M_may : mm_Y := (yX12_may, cX12_may, 3, some .boolean)
abbrev Y_M_mean : mm_Y := (yX12_mean, cX12_mean, 6, some .int)
abbrev Y_M_moves : mm_Y := (yX12_moves, cX12_moves, 3, none)
abbrev Y_M_movesNames : mm_Y := (yX12_movesNames, cX12_movesNames, 3, none)
abbrev Y_M_named : mm_Y := (yX12_named, cX12_named, 6, some .int)
abbrev Y_M_needsBoth : mm_Y := (yX12_needsBoth, cX12_needsBoth, 5, some .boolean)
abbrev Y_M_needsNumber : mm_Y := (yX12_needsNumber, cX12_needsNumber, 3, some .boolean)
abbrev Y_M_needsPerson : mm_Y := (yX12_needsPerson, cX12_needsPerson, 2, some .boolean)
abbrev Y_M_needsSecret : mm_Y := (yX12_needsSecret, cX12_needsSecret, 2, some .boolean)
abbrev Y_M_needsWord : mm_Y := (yX12_needsWord, cX12_needsWord, 3, some .boolean)
abbrev Y_M_net : mm_Y := (yX12_net, cX12_net, 4, some .int)
abbrev Y_M_nextToken : mm_Y := (yX12_nextToken, cX12_nextToken, 2, none)
abbrev Y_M_night : mm_Y := (yX12_night, cX12_night, 7, none)
abbrev Y_M_nights : mm_Y := (yX12_nights, cX12_nights, 4, none)
abbrev Y_M_opens : mm_Y := (yX12_opens, cX12_opens, 2, none)
abbrev Y_M_passes : mm_Y := (yX12_passes, cX12_passes, 3, some .int)
abbrev Y_M_pay : mm_Y := (yX12_pay, cX12_pay, 3, some .int)
abbrev Y_M_payTogether : mm_Y := (yX12_payTogether, cX12_payTogether, 5, some .boolean)
abbrev Y_M_payers : mm_Y := (yX12_payers, cX12_payers, 5, some .int)
abbrev Y_M_pays : mm_Y := (yX12_pays, cX12_pays, 3, none)
abbrev Y_M_person : mm_Y := (yX12_person, cX12_person, 3, some .int)
abbrev Y_M_personNamed : mm_Y := (yX12_personNamed, cX12_personNamed, 2, some .int)
abbrev Y_M_plot : mm_Y := (yX12_plot, cX12_plot, 5, some .int)
abbrev Y_M_plots : mm_Y := (yX12_plots, cX12_plots, 11, none)
abbrev Y_M_purse : mm_Y := (yX12_purse, cX12_purse, 2, some .int)
abbrev Y_M_puts : mm_Y := (yX12_puts, cX12_puts, 2, none)
abbrev Y_M_quarter : mm_Y := (yX12_quarter, cX12_quarter, 1, some .int)
abbrev Y_M_reads : mm_Y := (yX12_reads, cX12_reads, 6, some .boolean)
abbrev Y_M_readsAll : mm_Y := (yX12_readsAll, cX12_readsAll, 2, some .boolean)
abbrev Y_M_readsClash : mm_Y := (yX12_readsClash, cX12_readsClash, 3, some .boolean)
abbrev Y_M_readsEar : mm_Y := (yX12_readsEar, cX12_readsEar, 5, some .boolean)
abbrev Y_M_readsKnowers : mm_Y := (yX12_readsKnowers, cX12_readsKnowers, 2, some .boolean)
abbrev Y_M_readsLine : mm_Y := (yX12_readsLine, cX12_readsLine, 3, some .boolean)
abbrev Y_M_readsPayment : mm_Y := (yX12_readsPayment, cX12_readsPayment, 2, some .boolean)
abbrev Y_M_readsPerson : mm_Y := (yX12_readsPerson, cX12_readsPerson, 4, some .boolean)
abbrev Y_M_readsRise : mm_Y := (yX12_readsRise, cX12_readsRise, 2, some .boolean)
abbrev Y_M_readsSecret : mm_Y := (yX12_readsSecret, cX12_readsSecret, 4, some .boolean)
abbrev Y_M_readsTelling : mm_Y := (yX12_readsTelling, cX12_readsTelling, 2, some .boolean)
abbrev Y_M_readsWorth : mm_Y := (yX12_readsWorth, cX12_readsWorth, 1, some .boolean)
abbrev Y_M_rests : mm_Y := (yX12_rests, cX12_rests, 9, some .int)
abbrev Y_M_rise : mm_Y := (yX12_rise, cX12_rise, 2, some .int)
abbrev Y_M_secret : mm_Y := (yX12_secret, cX12_secret, 3, some .int)
abbrev Y_M_secretNamed : mm_Y := (yX12_secretNamed, cX12_secretNamed, 2, some .int)
abbrev Y_M_see : mm_Y := (yX12_see, cX12_see, 3, some .boolean)
abbrev Y_M_settle : mm_Y := (yX12_settle, cX12_settle, 6, some .int)
abbrev Y_M_signAt : mm_Y := (yX12_signAt, cX12_signAt, 2, some .int)
abbrev Y_M_speaks : mm_Y := (yX12_speaks, cX12_speaks, 2, some .boolean)
abbrev Y_M_starts : mm_Y := (yX12_starts, cX12_starts, 1, none)
abbrev Y_M_sums : mm_Y := (yX12_sums, cX12_sums, 2, none)
abbrev Y_M_tell : mm_Y := (yX12_tell, cX12_tell, 4, some .int)
abbrev Y_M_tells : mm_Y := (yX12_tells, cX12_tells, 4, none)
abbrev Y_M_tests : mm_Y := (yX12_tests, cX12_tests, 3, none)
abbrev Y_M_thrown : mm_Y := (yX12_thrown, cX12_thrown, 1, some .int)
abbrev Y_M_town : mm_Y := (yX12_town, cX12_town, 2, some .int)
abbrev Y_M_undo : mm_Y := (yX12_undo, cX12_undo, 1, some .boolean)
abbrev Y_M_whispers : mm_Y := (yX12_whispers, cX12_whispers, 4, some .int)
abbrev Y_M_within : mm_Y := (yX12_within, cX12_within, 3, some .boolean)
abbrev Y_M_worked : mm_Y := (yX12_worked, cX12_worked, 6, some .int)
abbrev Y_M_worthOf : mm_Y := (yX12_worthOf, cX12_worthOf, 2, some .int)
abbrev Y_M_worthsOf : mm_Y := (yX12_worthsOf, cX12_worthsOf, 4, some .int)
abbrev Y_M_years : mm_Y := (yX12_years, cX12_years, 9, some .int)
abbrev Y_JI_bitCount : mm_Y := (yJ6_bitCount_0f7a4, cJ6_bitCount_0f7a4, 1, some .int)
abbrev Y_JM_floorMod : mm_Y := (yJ9_floorMod_7cf53, cJ9_floorMod_7cf53, 3, some .int)
abbrev Y_JM_max : mm_Y := (yJ9_max_7cf53, cJ9_max_7cf53, 2, some .int)
abbrev Y_JM_min : mm_Y := (yJ9_min_7cf53, cJ9_min_7cf53, 2, some .int)
abbrev Y_JS_coder : mm_Y := (yJ0_coder_7d493, cJ0_coder_7d493, 1, some .byte)
abbrev Y_JS_indexOf_II : mm_Y := (yJ0_indexOf_0f7a4, cJ0_indexOf_0f7a4, 2, some .int)
abbrev Y_JS_indexOf_III : mm_Y := (yJ0_indexOf_7cf53, cJ0_indexOf_7cf53, 3, some .int)
abbrev Y_JS_isLatin1 : mm_Y := (yJ0_isLatin1_aae02, cJ0_isLatin1_aae02, 1, some .boolean)
abbrev Y_JS_length : mm_Y := (yJ0_length_8abf5, cJ0_length_8abf5, 1, some .int)
abbrev Y_JL_canEncode : mm_Y := (yJ1_canEncode_9a6ad, cJ1_canEncode_9a6ad, 1, some .boolean)
abbrev Y_JL_indexOf : mm_Y := (yJ1_indexOf_4cfef, cJ1_indexOf_4cfef, 4, some .int)
abbrev Y_JL_indexOfChar : mm_Y := (yJ1_indexOfChar_4cfef, cJ1_indexOfChar_4cfef, 6, some .int)
abbrev Y_JA_fill_AIIV : mm_Y := (yJ7_fill_53178, cJ7_fill_53178, 4, none)
abbrev Y_JA_fill_AJJV : mm_Y := (yJ7_fill_d0a16, cJ7_fill_d0a16, 5, none)
theorem mm_ch1 {w : Cond} (h : w ∈ tables_1_1) : w ∈ lw_tbl := List.mem_append_right _ (List.mem_append_left _ h)
theorem mm_ch2 {w : Cond} (h : w ∈ tables_1_2) : w ∈ lw_tbl := List.mem_append_right _ (List.mem_append_right _ (List.mem_append_left _ h))
theorem mm_ch3 {w : Cond} (h : w ∈ tables_1_3) : w ∈ lw_tbl := List.mem_append_right _ (List.mem_append_right _ (List.mem_append_right _ (List.mem_append_left _ h)))
theorem mm_ch4 {w : Cond} (h : w ∈ tables_1_4) : w ∈ lw_tbl := List.mem_append_right _ (List.mem_append_right _ (List.mem_append_right _ (List.mem_append_right _ (List.mem_append_left _ h))))
theorem mm_ch5 {w : Cond} (h : w ∈ tables_1_5) : w ∈ lw_tbl := List.mem_append_right _ (List.mem_append_right _ (List.mem_append_right _ (List.mem_append_right _ (List.mem_append_right _ (List.mem_append_left _ h)))))
theorem mm_ch6 {w : Cond} (h : w ∈ tables_1_6) : w ∈ lw_tbl := List.mem_append_right _ (List.mem_append_right _ (List.mem_append_right _ (List.mem_append_right _ (List.mem_append_right _ (List.mem_append_right _ (List.mem_append_left _ h))))))
theorem mm_ch7 {w : Cond} (h : w ∈ tables_1_7) : w ∈ lw_tbl := List.mem_append_right _ (List.mem_append_right _ (List.mem_append_right _ (List.mem_append_right _ (List.mem_append_right _ (List.mem_append_right _ (List.mem_append_right _ (List.mem_append_left _ h)))))))
theorem mm_ch8 {w : Cond} (h : w ∈ tables_1_8) : w ∈ lw_tbl := List.mem_append_right _ (List.mem_append_right _ (List.mem_append_right _ (List.mem_append_right _ (List.mem_append_right _ (List.mem_append_right _ (List.mem_append_right _ (List.mem_append_right _ (List.mem_append_left _ h))))))))
theorem mm_ch9 {w : Cond} (h : w ∈ tables_1_9) : w ∈ lw_tbl := List.mem_append_right _ (List.mem_append_right _ (List.mem_append_right _ (List.mem_append_right _ (List.mem_append_right _ (List.mem_append_right _ (List.mem_append_right _ (List.mem_append_right _ (List.mem_append_right _ (h)))))))))
set_option maxRecDepth 100000 in
theorem ww_0 : Cond.selects RX7 yX7_scanWord yX7_scanWord ∈ mm_gw := mm_gw_in (List.mem_of_getElem? (i := 0) (by decide +kernel)) rfl
set_option maxRecDepth 100000 in
theorem ww_1 : Cond.selects RX7 yX7_scanNumber yX7_scanNumber ∈ mm_gw := mm_gw_in (List.mem_of_getElem? (i := 1) (by decide +kernel)) rfl
set_option maxRecDepth 100000 in
theorem ww_2 : Cond.selects RX3 yX3_readAll yX3_readAll ∈ mm_gw := mm_gw_in (List.mem_of_getElem? (i := 2) (by decide +kernel)) rfl
set_option maxRecDepth 100000 in
theorem ww_3 : Cond.selects RX3 yX3_readTest yX3_readTest ∈ mm_gw := mm_gw_in (List.mem_of_getElem? (i := 3) (by decide +kernel)) rfl
set_option maxRecDepth 100000 in
theorem ww_4 : Cond.selects RX3 yX3_readSum yX3_readSum ∈ mm_gw := mm_gw_in (List.mem_of_getElem? (i := 4) (by decide +kernel)) rfl
set_option maxRecDepth 100000 in
theorem ww_5 : Cond.selects RX3 yX3_readProduct yX3_readProduct ∈ mm_gw := mm_gw_in (List.mem_of_getElem? (i := 5) (by decide +kernel)) rfl
set_option maxRecDepth 100000 in
theorem ww_6 : Cond.selects RX3 yX3_readPart yX3_readPart ∈ mm_gw := mm_gw_in (List.mem_of_getElem? (i := 6) (by decide +kernel)) rfl
set_option maxRecDepth 100000 in
theorem ww_7 : Cond.selects RX3 yX3_put yX3_put ∈ mm_gw := mm_gw_in (List.mem_of_getElem? (i := 7) (by decide +kernel)) rfl
set_option maxRecDepth 100000 in
theorem ww_8 : Cond.selects RX11 yX11_weighed yX11_weighed ∈ mm_gw := mm_gw_in (List.mem_of_getElem? (i := 8) (by decide +kernel)) rfl
set_option maxRecDepth 100000 in
theorem ww_9 : Cond.selects RX11 yX11_remember yX11_remember ∈ mm_gw := mm_gw_in (List.mem_of_getElem? (i := 9) (by decide +kernel)) rfl
set_option maxRecDepth 100000 in
theorem ww_10 : Cond.selects RX11 yX11_judge yX11_judge ∈ mm_gw := mm_gw_in (List.mem_of_getElem? (i := 10) (by decide +kernel)) rfl
set_option maxRecDepth 100000 in
theorem ww_11 : Cond.selects RX11 yX11_tryLine yX11_tryLine ∈ mm_gw := mm_gw_in (List.mem_of_getElem? (i := 11) (by decide +kernel)) rfl
set_option maxRecDepth 100000 in
theorem ww_12 : Cond.selects RX0 yX0_isLesser yX0_isLesser ∈ mm_gw := mm_gw_in (List.mem_of_getElem? (i := 12) (by decide +kernel)) rfl
set_option maxRecDepth 100000 in
theorem ww_13 : Cond.selects RX0 yX0_admit yX0_admit ∈ mm_gw := mm_gw_in (List.mem_of_getElem? (i := 13) (by decide +kernel)) rfl
set_option maxRecDepth 100000 in
theorem ww_14 : Cond.selects RX11 yX11_findLeaks yX11_findLeaks ∈ mm_gw := mm_gw_in (List.mem_of_getElem? (i := 14) (by decide +kernel)) rfl
set_option maxRecDepth 100000 in
theorem ww_15 : Cond.selects RX11 yX11_explains yX11_explains ∈ mm_gw := mm_gw_in (List.mem_of_getElem? (i := 15) (by decide +kernel)) rfl
set_option maxRecDepth 100000 in
theorem ww_16 : Cond.selects RX11 yX11_findLies yX11_findLies ∈ mm_gw := mm_gw_in (List.mem_of_getElem? (i := 16) (by decide +kernel)) rfl
set_option maxRecDepth 100000 in
theorem ww_17 : Cond.selects RX11 yX11_passNights yX11_passNights ∈ mm_gw := mm_gw_in (List.mem_of_getElem? (i := 17) (by decide +kernel)) rfl
set_option maxRecDepth 100000 in
theorem ww_18 : Cond.selects RX4 yX4_passOne yX4_passOne ∈ mm_gw := mm_gw_in (List.mem_of_getElem? (i := 18) (by decide +kernel)) rfl
set_option maxRecDepth 100000 in
theorem ww_19 : Cond.selects RX4 yX4_listen yX4_listen ∈ mm_gw := mm_gw_in (List.mem_of_getElem? (i := 19) (by decide +kernel)) rfl
set_option maxRecDepth 100000 in
theorem ww_20 : Cond.selects RX4 yX4_spread yX4_spread ∈ mm_gw := mm_gw_in (List.mem_of_getElem? (i := 20) (by decide +kernel)) rfl
set_option maxRecDepth 100000 in
theorem ww_21 : Cond.selects RX4 yX4_share yX4_share ∈ mm_gw := mm_gw_in (List.mem_of_getElem? (i := 21) (by decide +kernel)) rfl
set_option maxRecDepth 100000 in
theorem ww_22 : Cond.selects RX1 yX1_choose yX1_choose ∈ mm_gw := mm_gw_in (List.mem_of_getElem? (i := 22) (by decide +kernel)) rfl
set_option maxRecDepth 100000 in
theorem ww_23 : Cond.selects RX1 yX1_mayChoose yX1_mayChoose ∈ mm_gw := mm_gw_in (List.mem_of_getElem? (i := 23) (by decide +kernel)) rfl
set_option maxRecDepth 100000 in
theorem ww_24 : Cond.selects RX1 yX1_rest yX1_rest ∈ mm_gw := mm_gw_in (List.mem_of_getElem? (i := 24) (by decide +kernel)) rfl
set_option maxRecDepth 100000 in
theorem ww_25 : Cond.selects RX1 yX1_share yX1_share ∈ mm_gw := mm_gw_in (List.mem_of_getElem? (i := 25) (by decide +kernel)) rfl
set_option maxRecDepth 100000 in
theorem ww_26 : Cond.selects RX11 yX11_live yX11_live ∈ mm_gw := mm_gw_in (List.mem_of_getElem? (i := 26) (by decide +kernel)) rfl
set_option maxRecDepth 100000 in
theorem ww_27 : Cond.selects RX11 yX11_useEar yX11_useEar ∈ mm_gw := mm_gw_in (List.mem_of_getElem? (i := 27) (by decide +kernel)) rfl
set_option maxRecDepth 100000 in
theorem ww_28 : Cond.selects RX11 yX11_draw yX11_draw ∈ mm_gw := mm_gw_in (List.mem_of_getElem? (i := 28) (by decide +kernel)) rfl
set_option maxRecDepth 100000 in
theorem ww_29 : Cond.selects RX11 yX11_quarterDay yX11_quarterDay ∈ mm_gw := mm_gw_in (List.mem_of_getElem? (i := 29) (by decide +kernel)) rfl
set_option maxRecDepth 100000 in
theorem ww_31 : Cond.selects RX11 yX11_scheme yX11_scheme ∈ mm_gw := mm_gw_in (List.mem_of_getElem? (i := 31) (by decide +kernel)) rfl
set_option maxRecDepth 100000 in
theorem ww_32 : Cond.selects RX11 yX11_fillLawful yX11_fillLawful ∈ mm_gw := mm_gw_in (List.mem_of_getElem? (i := 32) (by decide +kernel)) rfl
set_option maxRecDepth 100000 in
theorem ww_33 : Cond.selects RX11 yX11_gain yX11_gain ∈ mm_gw := mm_gw_in (List.mem_of_getElem? (i := 33) (by decide +kernel)) rfl
set_option maxRecDepth 100000 in
theorem ww_34 : Cond.selects RX11 yX11_tryFirst yX11_tryFirst ∈ mm_gw := mm_gw_in (List.mem_of_getElem? (i := 34) (by decide +kernel)) rfl
set_option maxRecDepth 100000 in
theorem ww_35 : Cond.selects RX11 yX11_keepGain yX11_keepGain ∈ mm_gw := mm_gw_in (List.mem_of_getElem? (i := 35) (by decide +kernel)) rfl
set_option maxRecDepth 100000 in
theorem ww_36 : Cond.selects RX11 yX11_trySeconds yX11_trySeconds ∈ mm_gw := mm_gw_in (List.mem_of_getElem? (i := 36) (by decide +kernel)) rfl
set_option maxRecDepth 100000 in
theorem ww_37 : Cond.selects RX12 yX12_readsAll yX12_readsAll ∈ mm_gw := mm_gw_in (List.mem_of_getElem? (i := 37) (by decide +kernel)) rfl
set_option maxRecDepth 100000 in
theorem ww_38 : Cond.selects RX12 yX12_starts yX12_starts ∈ mm_gw := mm_gw_in (List.mem_of_getElem? (i := 38) (by decide +kernel)) rfl
set_option maxRecDepth 100000 in
theorem ww_39 : Cond.selects RX12 yX12_nextToken yX12_nextToken ∈ mm_gw := mm_gw_in (List.mem_of_getElem? (i := 39) (by decide +kernel)) rfl
set_option maxRecDepth 100000 in
theorem ww_40 : Cond.selects RX12 yX12_signAt yX12_signAt ∈ mm_gw := mm_gw_in (List.mem_of_getElem? (i := 40) (by decide +kernel)) rfl
set_option maxRecDepth 100000 in
theorem ww_41 : Cond.selects RX12 yX12_isWord yX12_isWord ∈ mm_gw := mm_gw_in (List.mem_of_getElem? (i := 41) (by decide +kernel)) rfl
set_option maxRecDepth 100000 in
theorem ww_42 : Cond.selects RX12 yX12_readsPerson yX12_readsPerson ∈ mm_gw := mm_gw_in (List.mem_of_getElem? (i := 42) (by decide +kernel)) rfl
set_option maxRecDepth 100000 in
theorem ww_43 : Cond.selects RX12 yX12_fails yX12_fails ∈ mm_gw := mm_gw_in (List.mem_of_getElem? (i := 43) (by decide +kernel)) rfl
set_option maxRecDepth 100000 in
theorem ww_44 : Cond.selects RX12 yX12_isNew yX12_isNew ∈ mm_gw := mm_gw_in (List.mem_of_getElem? (i := 44) (by decide +kernel)) rfl
set_option maxRecDepth 100000 in
theorem ww_45 : Cond.selects RX12 yX12_isKept yX12_isKept ∈ mm_gw := mm_gw_in (List.mem_of_getElem? (i := 45) (by decide +kernel)) rfl
set_option maxRecDepth 100000 in
theorem ww_46 : Cond.selects RX12 yX12_personNamed yX12_personNamed ∈ mm_gw := mm_gw_in (List.mem_of_getElem? (i := 46) (by decide +kernel)) rfl
set_option maxRecDepth 100000 in
theorem ww_47 : Cond.selects RX12 yX12_secretNamed yX12_secretNamed ∈ mm_gw := mm_gw_in (List.mem_of_getElem? (i := 47) (by decide +kernel)) rfl
set_option maxRecDepth 100000 in
theorem ww_48 : Cond.selects RX12 yX12_needsBoth yX12_needsBoth ∈ mm_gw := mm_gw_in (List.mem_of_getElem? (i := 48) (by decide +kernel)) rfl
set_option maxRecDepth 100000 in
theorem ww_49 : Cond.selects RX12 yX12_needsWord yX12_needsWord ∈ mm_gw := mm_gw_in (List.mem_of_getElem? (i := 49) (by decide +kernel)) rfl
set_option maxRecDepth 100000 in
theorem ww_50 : Cond.selects RX12 yX12_needsNumber yX12_needsNumber ∈ mm_gw := mm_gw_in (List.mem_of_getElem? (i := 50) (by decide +kernel)) rfl
set_option maxRecDepth 100000 in
theorem ww_51 : Cond.selects RX12 yX12_closes yX12_closes ∈ mm_gw := mm_gw_in (List.mem_of_getElem? (i := 51) (by decide +kernel)) rfl
set_option maxRecDepth 100000 in
theorem ww_52 : Cond.selects RX12 yX12_isSign yX12_isSign ∈ mm_gw := mm_gw_in (List.mem_of_getElem? (i := 52) (by decide +kernel)) rfl
set_option maxRecDepth 100000 in
theorem ww_53 : Cond.selects RX12 yX12_readsSecret yX12_readsSecret ∈ mm_gw := mm_gw_in (List.mem_of_getElem? (i := 53) (by decide +kernel)) rfl
set_option maxRecDepth 100000 in
theorem ww_54 : Cond.selects RX12 yX12_needsPerson yX12_needsPerson ∈ mm_gw := mm_gw_in (List.mem_of_getElem? (i := 54) (by decide +kernel)) rfl
set_option maxRecDepth 100000 in
theorem ww_55 : Cond.selects RX12 yX12_needsSecret yX12_needsSecret ∈ mm_gw := mm_gw_in (List.mem_of_getElem? (i := 55) (by decide +kernel)) rfl
set_option maxRecDepth 100000 in
theorem ww_56 : Cond.selects RX12 yX12_readsKnowers yX12_readsKnowers ∈ mm_gw := mm_gw_in (List.mem_of_getElem? (i := 56) (by decide +kernel)) rfl
set_option maxRecDepth 100000 in
theorem ww_57 : Cond.selects RX12 yX12_readsEar yX12_readsEar ∈ mm_gw := mm_gw_in (List.mem_of_getElem? (i := 57) (by decide +kernel)) rfl
set_option maxRecDepth 100000 in
theorem ww_58 : Cond.selects RX12 yX12_readsClash yX12_readsClash ∈ mm_gw := mm_gw_in (List.mem_of_getElem? (i := 58) (by decide +kernel)) rfl
set_option maxRecDepth 100000 in
theorem ww_59 : Cond.selects RX12 yX12_readsWorth yX12_readsWorth ∈ mm_gw := mm_gw_in (List.mem_of_getElem? (i := 59) (by decide +kernel)) rfl
set_option maxRecDepth 100000 in
theorem ww_60 : Cond.selects RX12 yX12_reads yX12_reads ∈ mm_gw := mm_gw_in (List.mem_of_getElem? (i := 60) (by decide +kernel)) rfl
set_option maxRecDepth 100000 in
theorem ww_61 : Cond.selects RX12 yX12_fact yX12_fact ∈ mm_gw := mm_gw_in (List.mem_of_getElem? (i := 61) (by decide +kernel)) rfl
set_option maxRecDepth 100000 in
theorem ww_62 : Cond.selects RX12 yX12_puts yX12_puts ∈ mm_gw := mm_gw_in (List.mem_of_getElem? (i := 62) (by decide +kernel)) rfl
set_option maxRecDepth 100000 in
theorem ww_63 : Cond.selects RX12 yX12_lays yX12_lays ∈ mm_gw := mm_gw_in (List.mem_of_getElem? (i := 63) (by decide +kernel)) rfl
set_option maxRecDepth 100000 in
theorem ww_64 : Cond.selects RX12 yX12_fresh yX12_fresh ∈ mm_gw := mm_gw_in (List.mem_of_getElem? (i := 64) (by decide +kernel)) rfl
set_option maxRecDepth 100000 in
theorem ww_65 : Cond.selects RX12 yX12_readsLine yX12_readsLine ∈ mm_gw := mm_gw_in (List.mem_of_getElem? (i := 65) (by decide +kernel)) rfl
set_option maxRecDepth 100000 in
theorem ww_66 : Cond.selects RX12 yX12_readsTelling yX12_readsTelling ∈ mm_gw := mm_gw_in (List.mem_of_getElem? (i := 66) (by decide +kernel)) rfl
set_option maxRecDepth 100000 in
theorem ww_67 : Cond.selects RX12 yX12_readsPayment yX12_readsPayment ∈ mm_gw := mm_gw_in (List.mem_of_getElem? (i := 67) (by decide +kernel)) rfl
set_option maxRecDepth 100000 in
theorem ww_68 : Cond.selects RX12 yX12_readsRise yX12_readsRise ∈ mm_gw := mm_gw_in (List.mem_of_getElem? (i := 68) (by decide +kernel)) rfl
set_option maxRecDepth 100000 in
theorem ww_69 : Cond.selects RX12 yX12_laysLines yX12_laysLines ∈ mm_gw := mm_gw_in (List.mem_of_getElem? (i := 69) (by decide +kernel)) rfl
set_option maxRecDepth 100000 in
theorem ww_70 : Cond.selects RX12 yX12_isPerson yX12_isPerson ∈ mm_gw := mm_gw_in (List.mem_of_getElem? (i := 70) (by decide +kernel)) rfl
set_option maxRecDepth 100000 in
theorem ww_71 : Cond.selects RX12 yX12_knownBy yX12_knownBy ∈ mm_gw := mm_gw_in (List.mem_of_getElem? (i := 71) (by decide +kernel)) rfl
set_option maxRecDepth 100000 in
theorem ww_72 : Cond.selects RX12 yX12_purse yX12_purse ∈ mm_gw := mm_gw_in (List.mem_of_getElem? (i := 72) (by decide +kernel)) rfl
set_option maxRecDepth 100000 in
theorem ww_73 : Cond.selects RX12 yX12_worthsOf yX12_worthsOf ∈ mm_gw := mm_gw_in (List.mem_of_getElem? (i := 73) (by decide +kernel)) rfl
set_option maxRecDepth 100000 in
theorem ww_74 : Cond.selects RX12 yX12_worthOf yX12_worthOf ∈ mm_gw := mm_gw_in (List.mem_of_getElem? (i := 74) (by decide +kernel)) rfl
set_option maxRecDepth 100000 in
theorem ww_75 : Cond.selects RX12 yX12_baseOf yX12_baseOf ∈ mm_gw := mm_gw_in (List.mem_of_getElem? (i := 75) (by decide +kernel)) rfl
set_option maxRecDepth 100000 in
theorem ww_76 : Cond.selects RX12 yX12_knowersOf yX12_knowersOf ∈ mm_gw := mm_gw_in (List.mem_of_getElem? (i := 76) (by decide +kernel)) rfl
set_option maxRecDepth 100000 in
theorem ww_77 : Cond.selects RX12 yX12_worked yX12_worked ∈ mm_gw := mm_gw_in (List.mem_of_getElem? (i := 77) (by decide +kernel)) rfl
set_option maxRecDepth 100000 in
theorem ww_78 : Cond.selects RX12 yX12_opens yX12_opens ∈ mm_gw := mm_gw_in (List.mem_of_getElem? (i := 78) (by decide +kernel)) rfl
set_option maxRecDepth 100000 in
theorem ww_79 : Cond.selects RX12 yX12_sums yX12_sums ∈ mm_gw := mm_gw_in (List.mem_of_getElem? (i := 79) (by decide +kernel)) rfl
set_option maxRecDepth 100000 in
theorem ww_80 : Cond.selects RX12 yX12_tests yX12_tests ∈ mm_gw := mm_gw_in (List.mem_of_getElem? (i := 80) (by decide +kernel)) rfl
set_option maxRecDepth 100000 in
theorem ww_81 : Cond.selects RX12 yX12_net yX12_net ∈ mm_gw := mm_gw_in (List.mem_of_getElem? (i := 81) (by decide +kernel)) rfl
set_option maxRecDepth 100000 in
theorem ww_82 : Cond.selects RX12 yX12_isSecret yX12_isSecret ∈ mm_gw := mm_gw_in (List.mem_of_getElem? (i := 82) (by decide +kernel)) rfl
set_option maxRecDepth 100000 in
theorem ww_83 : Cond.selects RX12 yX12_areTwo yX12_areTwo ∈ mm_gw := mm_gw_in (List.mem_of_getElem? (i := 83) (by decide +kernel)) rfl
set_option maxRecDepth 100000 in
theorem ww_84 : Cond.selects RX12 yX12_chanceOf yX12_chanceOf ∈ mm_gw := mm_gw_in (List.mem_of_getElem? (i := 84) (by decide +kernel)) rfl
set_option maxRecDepth 100000 in
theorem ww_85 : Cond.selects RX12 yX12_canTell yX12_canTell ∈ mm_gw := mm_gw_in (List.mem_of_getElem? (i := 85) (by decide +kernel)) rfl
set_option maxRecDepth 100000 in
theorem ww_86 : Cond.selects RX12 yX12_speaks yX12_speaks ∈ mm_gw := mm_gw_in (List.mem_of_getElem? (i := 86) (by decide +kernel)) rfl
set_option maxRecDepth 100000 in
theorem ww_87 : Cond.selects RX12 yX12_keeps yX12_keeps ∈ mm_gw := mm_gw_in (List.mem_of_getElem? (i := 87) (by decide +kernel)) rfl
set_option maxRecDepth 100000 in
theorem ww_88 : Cond.selects RX12 yX12_tells yX12_tells ∈ mm_gw := mm_gw_in (List.mem_of_getElem? (i := 88) (by decide +kernel)) rfl
set_option maxRecDepth 100000 in
theorem ww_89 : Cond.selects RX12 yX12_canPay yX12_canPay ∈ mm_gw := mm_gw_in (List.mem_of_getElem? (i := 89) (by decide +kernel)) rfl
set_option maxRecDepth 100000 in
theorem ww_90 : Cond.selects RX12 yX12_pays yX12_pays ∈ mm_gw := mm_gw_in (List.mem_of_getElem? (i := 90) (by decide +kernel)) rfl
set_option maxRecDepth 100000 in
theorem ww_91 : Cond.selects RX12 yX12_passes yX12_passes ∈ mm_gw := mm_gw_in (List.mem_of_getElem? (i := 91) (by decide +kernel)) rfl
set_option maxRecDepth 100000 in
theorem ww_92 : Cond.selects RX12 yX12_goes yX12_goes ∈ mm_gw := mm_gw_in (List.mem_of_getElem? (i := 92) (by decide +kernel)) rfl
set_option maxRecDepth 100000 in
theorem ww_93 : Cond.selects RX12 yX12_finesOfAll yX12_finesOfAll ∈ mm_gw := mm_gw_in (List.mem_of_getElem? (i := 93) (by decide +kernel)) rfl
set_option maxRecDepth 100000 in
theorem ww_94 : Cond.selects RX12 yX12_allSecrets yX12_allSecrets ∈ mm_gw := mm_gw_in (List.mem_of_getElem? (i := 94) (by decide +kernel)) rfl
set_option maxRecDepth 100000 in
theorem ww_95 : Cond.selects RX12 yX12_leastOf yX12_leastOf ∈ mm_gw := mm_gw_in (List.mem_of_getElem? (i := 95) (by decide +kernel)) rfl
set_option maxRecDepth 100000 in
theorem ww_96 : Cond.selects RX12 yX12_payTogether yX12_payTogether ∈ mm_gw := mm_gw_in (List.mem_of_getElem? (i := 96) (by decide +kernel)) rfl
set_option maxRecDepth 100000 in
theorem ww_97 : Cond.selects RX12 yX12_plots yX12_plots ∈ mm_gw := mm_gw_in (List.mem_of_getElem? (i := 97) (by decide +kernel)) rfl
set_option maxRecDepth 100000 in
theorem ww_98 : Cond.selects RX12 yX12_isAsSeen yX12_isAsSeen ∈ mm_gw := mm_gw_in (List.mem_of_getElem? (i := 98) (by decide +kernel)) rfl
set_option maxRecDepth 100000 in
theorem ww_99 : Cond.selects RX12 yX12_isClashing yX12_isClashing ∈ mm_gw := mm_gw_in (List.mem_of_getElem? (i := 99) (by decide +kernel)) rfl
set_option maxRecDepth 100000 in
theorem ww_100 : Cond.selects RX12 yX12_nights yX12_nights ∈ mm_gw := mm_gw_in (List.mem_of_getElem? (i := 100) (by decide +kernel)) rfl
set_option maxRecDepth 100000 in
theorem ww_101 : Cond.selects RX12 yX12_night yX12_night ∈ mm_gw := mm_gw_in (List.mem_of_getElem? (i := 101) (by decide +kernel)) rfl
set_option maxRecDepth 100000 in
theorem ww_102 : Cond.selects RX12 yX12_laysHears yX12_laysHears ∈ mm_gw := mm_gw_in (List.mem_of_getElem? (i := 102) (by decide +kernel)) rfl
set_option maxRecDepth 100000 in
theorem ww_103 : Cond.selects RX12 yX12_may yX12_may ∈ mm_gw := mm_gw_in (List.mem_of_getElem? (i := 103) (by decide +kernel)) rfl
set_option maxRecDepth 100000 in
theorem ww_104 : Cond.selects RX12 yX12_isRest yX12_isRest ∈ mm_gw := mm_gw_in (List.mem_of_getElem? (i := 104) (by decide +kernel)) rfl
set_option maxRecDepth 100000 in
theorem ww_105 : Cond.selects RX12 yX12_hasBy yX12_hasBy ∈ mm_gw := mm_gw_in (List.mem_of_getElem? (i := 105) (by decide +kernel)) rfl
set_option maxRecDepth 100000 in
theorem ww_106 : Cond.selects RX12 yX12_whispers yX12_whispers ∈ mm_gw := mm_gw_in (List.mem_of_getElem? (i := 106) (by decide +kernel)) rfl
set_option maxRecDepth 100000 in
theorem ww_107 : Cond.selects RX12 yX12_draws yX12_draws ∈ mm_gw := mm_gw_in (List.mem_of_getElem? (i := 107) (by decide +kernel)) rfl
set_option maxRecDepth 100000 in
theorem ww_108 : Cond.selects RX12 yX12_laysSeen yX12_laysSeen ∈ mm_gw := mm_gw_in (List.mem_of_getElem? (i := 108) (by decide +kernel)) rfl
set_option maxRecDepth 100000 in
theorem ww_110 : Cond.initialized RX11 ∈ mm_gw := mm_gw_in (mm_ch1 (List.mem_of_getElem? (i := 1) (by rfl))) rfl
set_option maxRecDepth 100000 in
theorem ww_111 : Cond.initialized RX7 ∈ mm_gw := mm_gw_in (mm_ch1 (List.mem_of_getElem? (i := 2) (by rfl))) rfl
set_option maxRecDepth 100000 in
theorem ww_112 : Cond.initialized RX5 ∈ mm_gw := mm_gw_in (mm_ch1 (List.mem_of_getElem? (i := 3) (by rfl))) rfl
set_option maxRecDepth 100000 in
theorem ww_113 : Cond.initialized RX6 ∈ mm_gw := mm_gw_in (mm_ch1 (List.mem_of_getElem? (i := 4) (by rfl))) rfl
set_option maxRecDepth 100000 in
theorem ww_114 : Cond.initialized RX0 ∈ mm_gw := mm_gw_in (mm_ch1 (List.mem_of_getElem? (i := 5) (by rfl))) rfl
set_option maxRecDepth 100000 in
theorem ww_115 : Cond.initialized RX1 ∈ mm_gw := mm_gw_in (mm_ch1 (List.mem_of_getElem? (i := 6) (by rfl))) rfl
set_option maxRecDepth 100000 in
theorem ww_116 : Cond.initialized RX4 ∈ mm_gw := mm_gw_in (mm_ch1 (List.mem_of_getElem? (i := 7) (by rfl))) rfl
set_option maxRecDepth 100000 in
theorem ww_117 : Cond.initialized RX8 ∈ mm_gw := mm_gw_in (mm_ch1 (List.mem_of_getElem? (i := 8) (by rfl))) rfl
set_option maxRecDepth 100000 in
theorem ww_118 : Cond.initialized RX3 ∈ mm_gw := mm_gw_in (mm_ch1 (List.mem_of_getElem? (i := 9) (by rfl))) rfl
set_option maxRecDepth 100000 in
theorem ww_119 : Cond.initialized RX12 ∈ mm_gw := mm_gw_in (mm_ch1 (List.mem_of_getElem? (i := 10) (by rfl))) rfl
set_option maxRecDepth 100000 in
theorem ww_120 : Cond.initialized RX9 ∈ mm_gw := mm_gw_in (mm_ch1 (List.mem_of_getElem? (i := 11) (by rfl))) rfl
set_option maxRecDepth 100000 in
theorem ww_121 : Cond.initialized RJ7 ∈ mm_gw := mm_gw_in (mm_ch1 (List.mem_of_getElem? (i := 12) (by rfl))) rfl
set_option maxRecDepth 100000 in
theorem ww_122 : Cond.initialized RJ0 ∈ mm_gw := mm_gw_in (mm_ch1 (List.mem_of_getElem? (i := 13) (by rfl))) rfl
set_option maxRecDepth 100000 in
theorem ww_123 : Cond.initialized RJ1 ∈ mm_gw := mm_gw_in (mm_ch1 (List.mem_of_getElem? (i := 14) (by rfl))) rfl
set_option maxRecDepth 100000 in
theorem ww_124 : Cond.initialized RJ9 ∈ mm_gw := mm_gw_in (mm_ch1 (List.mem_of_getElem? (i := 15) (by rfl))) rfl
set_option maxRecDepth 100000 in
theorem ww_130 : Cond.initialized "java/lang/System" ∈ mm_gw := mm_gw_in (mm_ch1 (List.mem_of_getElem? (i := 21) (by rfl))) rfl
set_option maxRecDepth 100000 in
theorem ww_131 : Cond.initialized RX2 ∈ mm_gw := mm_gw_in (mm_ch1 (List.mem_of_getElem? (i := 22) (by rfl))) rfl
set_option maxRecDepth 100000 in
theorem ww_136 : Cond.initialized RJ6 ∈ mm_gw := mm_gw_in (mm_ch1 (List.mem_of_getElem? (i := 27) (by rfl))) rfl
theorem fd_6_0 : mm_fld 6 0 = ("PaidSecrets$Tape", "signs", "[C", true) := by decide +kernel
set_option maxRecDepth 100000 in
theorem ww_151 : Cond.fieldLink RX7 11 (mm_fld 6 0).1 (mm_fld 6 0).2.1 (mm_fld 6 0).2.2.1 ∈ mm_gw := by
  rw [fd_6_0]
  exact mm_gw_in (mm_ch1 (List.mem_of_getElem? (i := 42) (by rfl))) rfl
theorem fd_6_1 : mm_fld 6 1 = ("PaidSecrets$Tape", "length", "I", false) := by decide +kernel
set_option maxRecDepth 100000 in
theorem ww_152 : Cond.fieldLink RX7 15 (mm_fld 6 1).1 (mm_fld 6 1).2.1 (mm_fld 6 1).2.2.1 ∈ mm_gw := by
  rw [fd_6_1]
  exact mm_gw_in (mm_ch1 (List.mem_of_getElem? (i := 43) (by rfl))) rfl
set_option maxRecDepth 100000 in
theorem ww_153 : Cond.fieldLink RX11 106 (mm_fld 6 1).1 (mm_fld 6 1).2.1 (mm_fld 6 1).2.2.1 ∈ mm_gw := by
  rw [fd_6_1]
  exact mm_gw_in (mm_ch1 (List.mem_of_getElem? (i := 44) (by rfl))) rfl
theorem fd_6_2 : mm_fld 6 2 = ("PaidSecrets$Tape", "at", "I", false) := by decide +kernel
set_option maxRecDepth 100000 in
theorem ww_154 : Cond.fieldLink RX7 19 (mm_fld 6 2).1 (mm_fld 6 2).2.1 (mm_fld 6 2).2.2.1 ∈ mm_gw := by
  rw [fd_6_2]
  exact mm_gw_in (mm_ch1 (List.mem_of_getElem? (i := 45) (by rfl))) rfl
theorem fd_6_3 : mm_fld 6 3 = ("PaidSecrets$Tape", "place", "I", false) := by decide +kernel
set_option maxRecDepth 100000 in
theorem ww_155 : Cond.fieldLink RX7 22 (mm_fld 6 3).1 (mm_fld 6 3).2.1 (mm_fld 6 3).2.2.1 ∈ mm_gw := by
  rw [fd_6_3]
  exact mm_gw_in (mm_ch1 (List.mem_of_getElem? (i := 46) (by rfl))) rfl
theorem fd_6_4 : mm_fld 6 4 = ("PaidSecrets$Tape", "kind", "I", false) := by decide +kernel
set_option maxRecDepth 100000 in
theorem ww_156 : Cond.fieldLink RX7 25 (mm_fld 6 4).1 (mm_fld 6 4).2.1 (mm_fld 6 4).2.2.1 ∈ mm_gw := by
  rw [fd_6_4]
  exact mm_gw_in (mm_ch1 (List.mem_of_getElem? (i := 47) (by rfl))) rfl
set_option maxRecDepth 100000 in
theorem ww_157 : Cond.fieldLink RX9 19 (mm_fld 6 4).1 (mm_fld 6 4).2.1 (mm_fld 6 4).2.2.1 ∈ mm_gw := by
  rw [fd_6_4]
  exact mm_gw_in (mm_ch1 (List.mem_of_getElem? (i := 48) (by rfl))) rfl
set_option maxRecDepth 100000 in
theorem ww_158 : Cond.fieldLink RX2 19 (mm_fld 6 4).1 (mm_fld 6 4).2.1 (mm_fld 6 4).2.2.1 ∈ mm_gw := by
  rw [fd_6_4]
  exact mm_gw_in (mm_ch1 (List.mem_of_getElem? (i := 49) (by rfl))) rfl
set_option maxRecDepth 100000 in
theorem ww_159 : Cond.fieldLink RX3 64 (mm_fld 6 4).1 (mm_fld 6 4).2.1 (mm_fld 6 4).2.2.1 ∈ mm_gw := by
  rw [fd_6_4]
  exact mm_gw_in (mm_ch1 (List.mem_of_getElem? (i := 50) (by rfl))) rfl
theorem fd_6_5 : mm_fld 6 5 = ("PaidSecrets$Tape", "number", "I", false) := by decide +kernel
set_option maxRecDepth 100000 in
theorem ww_160 : Cond.fieldLink RX7 28 (mm_fld 6 5).1 (mm_fld 6 5).2.1 (mm_fld 6 5).2.2.1 ∈ mm_gw := by
  rw [fd_6_5]
  exact mm_gw_in (mm_ch1 (List.mem_of_getElem? (i := 51) (by rfl))) rfl
set_option maxRecDepth 100000 in
theorem ww_161 : Cond.fieldLink RX3 77 (mm_fld 6 5).1 (mm_fld 6 5).2.1 (mm_fld 6 5).2.2.1 ∈ mm_gw := by
  rw [fd_6_5]
  exact mm_gw_in (mm_ch1 (List.mem_of_getElem? (i := 52) (by rfl))) rfl
theorem fd_6_6 : mm_fld 6 6 = ("PaidSecrets$Tape", "code", "J", false) := by decide +kernel
set_option maxRecDepth 100000 in
theorem ww_162 : Cond.fieldLink RX7 31 (mm_fld 6 6).1 (mm_fld 6 6).2.1 (mm_fld 6 6).2.2.1 ∈ mm_gw := by
  rw [fd_6_6]
  exact mm_gw_in (mm_ch1 (List.mem_of_getElem? (i := 53) (by rfl))) rfl
set_option maxRecDepth 100000 in
theorem ww_163 : Cond.fieldLink RX9 76 (mm_fld 6 6).1 (mm_fld 6 6).2.1 (mm_fld 6 6).2.2.1 ∈ mm_gw := by
  rw [fd_6_6]
  exact mm_gw_in (mm_ch1 (List.mem_of_getElem? (i := 54) (by rfl))) rfl
set_option maxRecDepth 100000 in
theorem ww_164 : Cond.fieldLink RX8 115 (mm_fld 6 6).1 (mm_fld 6 6).2.1 (mm_fld 6 6).2.2.1 ∈ mm_gw := by
  rw [fd_6_6]
  exact mm_gw_in (mm_ch1 (List.mem_of_getElem? (i := 55) (by rfl))) rfl
theorem fd_6_7 : mm_fld 6 7 = ("PaidSecrets$Tape", "word", "LPaidSecrets$Word;", false) := by decide +kernel
set_option maxRecDepth 100000 in
theorem ww_165 : Cond.fieldLink RX7 35 (mm_fld 6 7).1 (mm_fld 6 7).2.1 (mm_fld 6 7).2.2.1 ∈ mm_gw := by
  rw [fd_6_7]
  exact mm_gw_in (mm_ch1 (List.mem_of_getElem? (i := 56) (by rfl))) rfl
set_option maxRecDepth 100000 in
theorem ww_166 : Cond.fieldLink RX9 32 (mm_fld 6 7).1 (mm_fld 6 7).2.1 (mm_fld 6 7).2.2.1 ∈ mm_gw := by
  rw [fd_6_7]
  exact mm_gw_in (mm_ch1 (List.mem_of_getElem? (i := 57) (by rfl))) rfl
set_option maxRecDepth 100000 in
theorem ww_167 : Cond.fieldLink RX2 32 (mm_fld 6 7).1 (mm_fld 6 7).2.1 (mm_fld 6 7).2.2.1 ∈ mm_gw := by
  rw [fd_6_7]
  exact mm_gw_in (mm_ch1 (List.mem_of_getElem? (i := 58) (by rfl))) rfl
set_option maxRecDepth 100000 in
theorem ww_168 : Cond.fieldLink RX3 26 (mm_fld 6 7).1 (mm_fld 6 7).2.1 (mm_fld 6 7).2.2.1 ∈ mm_gw := by
  rw [fd_6_7]
  exact mm_gw_in (mm_ch1 (List.mem_of_getElem? (i := 59) (by rfl))) rfl
theorem fd_6_8 : mm_fld 6 8 = ("PaidSecrets$Tape", "sign", "C", false) := by decide +kernel
set_option maxRecDepth 100000 in
theorem ww_169 : Cond.fieldLink RX7 39 (mm_fld 6 8).1 (mm_fld 6 8).2.1 (mm_fld 6 8).2.2.1 ∈ mm_gw := by
  rw [fd_6_8]
  exact mm_gw_in (mm_ch1 (List.mem_of_getElem? (i := 60) (by rfl))) rfl
theorem fd_6_9 : mm_fld 6 9 = ("PaidSecrets$Tape", "fault", "I", false) := by decide +kernel
set_option maxRecDepth 100000 in
theorem ww_170 : Cond.fieldLink RX7 43 (mm_fld 6 9).1 (mm_fld 6 9).2.1 (mm_fld 6 9).2.2.1 ∈ mm_gw := by
  rw [fd_6_9]
  exact mm_gw_in (mm_ch1 (List.mem_of_getElem? (i := 61) (by rfl))) rfl
set_option maxRecDepth 100000 in
theorem ww_171 : Cond.fieldLink RX9 29 (mm_fld 6 9).1 (mm_fld 6 9).2.1 (mm_fld 6 9).2.2.1 ∈ mm_gw := by
  rw [fd_6_9]
  exact mm_gw_in (mm_ch1 (List.mem_of_getElem? (i := 62) (by rfl))) rfl
set_option maxRecDepth 100000 in
theorem ww_172 : Cond.fieldLink RX2 29 (mm_fld 6 9).1 (mm_fld 6 9).2.1 (mm_fld 6 9).2.2.1 ∈ mm_gw := by
  rw [fd_6_9]
  exact mm_gw_in (mm_ch1 (List.mem_of_getElem? (i := 63) (by rfl))) rfl
set_option maxRecDepth 100000 in
theorem ww_173 : Cond.laysFinal RX7 "PaidSecrets$Tape" "signs" "[C" ∈ mm_gw := mm_gw_in (mm_ch1 (List.mem_of_getElem? (i := 64) (by rfl))) rfl
set_option maxRecDepth 100000 in
theorem ww_175 : Cond.lays RX7 "PaidSecrets$Tape" "length" "I" ∈ mm_gw := mm_gw_in (mm_ch1 (List.mem_of_getElem? (i := 66) (by rfl))) rfl
set_option maxRecDepth 100000 in
theorem ww_177 : Cond.lays RX7 "PaidSecrets$Tape" "at" "I" ∈ mm_gw := mm_gw_in (mm_ch1 (List.mem_of_getElem? (i := 68) (by rfl))) rfl
set_option maxRecDepth 100000 in
theorem ww_179 : Cond.lays RX7 "PaidSecrets$Tape" "place" "I" ∈ mm_gw := mm_gw_in (mm_ch1 (List.mem_of_getElem? (i := 70) (by rfl))) rfl
set_option maxRecDepth 100000 in
theorem ww_181 : Cond.lays RX7 "PaidSecrets$Tape" "kind" "I" ∈ mm_gw := mm_gw_in (mm_ch1 (List.mem_of_getElem? (i := 72) (by rfl))) rfl
set_option maxRecDepth 100000 in
theorem ww_183 : Cond.lays RX7 "PaidSecrets$Tape" "number" "I" ∈ mm_gw := mm_gw_in (mm_ch1 (List.mem_of_getElem? (i := 74) (by rfl))) rfl
set_option maxRecDepth 100000 in
theorem ww_185 : Cond.lays RX7 "PaidSecrets$Tape" "code" "J" ∈ mm_gw := mm_gw_in (mm_ch1 (List.mem_of_getElem? (i := 76) (by rfl))) rfl
set_option maxRecDepth 100000 in
theorem ww_187 : Cond.lays RX7 "PaidSecrets$Tape" "word" "LPaidSecrets$Word;" ∈ mm_gw := mm_gw_in (mm_ch1 (List.mem_of_getElem? (i := 78) (by rfl))) rfl
set_option maxRecDepth 100000 in
theorem ww_189 : Cond.lays RX7 "PaidSecrets$Tape" "sign" "C" ∈ mm_gw := mm_gw_in (mm_ch1 (List.mem_of_getElem? (i := 80) (by rfl))) rfl
set_option maxRecDepth 100000 in
theorem ww_191 : Cond.lays RX7 "PaidSecrets$Tape" "fault" "I" ∈ mm_gw := mm_gw_in (mm_ch1 (List.mem_of_getElem? (i := 82) (by rfl))) rfl
theorem fd_4_0 : mm_fld 4 0 = ("PaidSecrets$State", "knowing", "[I", true) := by decide +kernel
set_option maxRecDepth 100000 in
theorem ww_201 : Cond.fieldLink RX5 9 (mm_fld 4 0).1 (mm_fld 4 0).2.1 (mm_fld 4 0).2.2.1 ∈ mm_gw := by
  rw [fd_4_0]
  exact mm_gw_in (mm_ch1 (List.mem_of_getElem? (i := 92) (by rfl))) rfl
set_option maxRecDepth 100000 in
theorem ww_202 : Cond.fieldLink RX11 189 (mm_fld 4 0).1 (mm_fld 4 0).2.1 (mm_fld 4 0).2.2.1 ∈ mm_gw := by
  rw [fd_4_0]
  exact mm_gw_in (mm_ch1 (List.mem_of_getElem? (i := 93) (by rfl))) rfl
theorem fd_4_1 : mm_fld 4 1 = ("PaidSecrets$State", "awareness", "[J", true) := by decide +kernel
set_option maxRecDepth 100000 in
theorem ww_203 : Cond.fieldLink RX5 15 (mm_fld 4 1).1 (mm_fld 4 1).2.1 (mm_fld 4 1).2.2.1 ∈ mm_gw := by
  rw [fd_4_1]
  exact mm_gw_in (mm_ch1 (List.mem_of_getElem? (i := 94) (by rfl))) rfl
theorem fd_4_2 : mm_fld 4 2 = ("PaidSecrets$State", "rank", "[I", true) := by decide +kernel
set_option maxRecDepth 100000 in
theorem ww_204 : Cond.fieldLink RX5 19 (mm_fld 4 2).1 (mm_fld 4 2).2.1 (mm_fld 4 2).2.2.1 ∈ mm_gw := by
  rw [fd_4_2]
  exact mm_gw_in (mm_ch1 (List.mem_of_getElem? (i := 95) (by rfl))) rfl
set_option maxRecDepth 100000 in
theorem ww_205 : Cond.fieldLink RX11 143 (mm_fld 4 2).1 (mm_fld 4 2).2.1 (mm_fld 4 2).2.2.1 ∈ mm_gw := by
  rw [fd_4_2]
  exact mm_gw_in (mm_ch1 (List.mem_of_getElem? (i := 96) (by rfl))) rfl
theorem fd_4_3 : mm_fld 4 3 = ("PaidSecrets$State", "fined", "[I", true) := by decide +kernel
set_option maxRecDepth 100000 in
theorem ww_206 : Cond.fieldLink RX5 22 (mm_fld 4 3).1 (mm_fld 4 3).2.1 (mm_fld 4 3).2.2.1 ∈ mm_gw := by
  rw [fd_4_3]
  exact mm_gw_in (mm_ch1 (List.mem_of_getElem? (i := 97) (by rfl))) rfl
set_option maxRecDepth 100000 in
theorem ww_207 : Cond.fieldLink RX11 168 (mm_fld 4 3).1 (mm_fld 4 3).2.1 (mm_fld 4 3).2.2.1 ∈ mm_gw := by
  rw [fd_4_3]
  exact mm_gw_in (mm_ch1 (List.mem_of_getElem? (i := 98) (by rfl))) rfl
theorem fd_4_4 : mm_fld 4 4 = ("PaidSecrets$State", "net", "[I", true) := by decide +kernel
set_option maxRecDepth 100000 in
theorem ww_208 : Cond.fieldLink RX5 25 (mm_fld 4 4).1 (mm_fld 4 4).2.1 (mm_fld 4 4).2.2.1 ∈ mm_gw := by
  rw [fd_4_4]
  exact mm_gw_in (mm_ch1 (List.mem_of_getElem? (i := 99) (by rfl))) rfl
set_option maxRecDepth 100000 in
theorem ww_209 : Cond.fieldLink RX11 171 (mm_fld 4 4).1 (mm_fld 4 4).2.1 (mm_fld 4 4).2.2.1 ∈ mm_gw := by
  rw [fd_4_4]
  exact mm_gw_in (mm_ch1 (List.mem_of_getElem? (i := 100) (by rfl))) rfl
set_option maxRecDepth 100000 in
theorem ww_210 : Cond.fieldLink RX0 75 (mm_fld 4 4).1 (mm_fld 4 4).2.1 (mm_fld 4 4).2.2.1 ∈ mm_gw := by
  rw [fd_4_4]
  exact mm_gw_in (mm_ch1 (List.mem_of_getElem? (i := 101) (by rfl))) rfl
theorem fd_4_5 : mm_fld 4 5 = ("PaidSecrets$State", "met", "I", false) := by decide +kernel
set_option maxRecDepth 100000 in
theorem ww_211 : Cond.fieldLink RX5 28 (mm_fld 4 5).1 (mm_fld 4 5).2.1 (mm_fld 4 5).2.2.1 ∈ mm_gw := by
  rw [fd_4_5]
  exact mm_gw_in (mm_ch1 (List.mem_of_getElem? (i := 102) (by rfl))) rfl
set_option maxRecDepth 100000 in
theorem ww_212 : Cond.fieldLink RX11 196 (mm_fld 4 5).1 (mm_fld 4 5).2.1 (mm_fld 4 5).2.2.1 ∈ mm_gw := by
  rw [fd_4_5]
  exact mm_gw_in (mm_ch1 (List.mem_of_getElem? (i := 103) (by rfl))) rfl
theorem fd_4_6 : mm_fld 4 6 = ("PaidSecrets$State", "paidSecrets", "I", false) := by decide +kernel
set_option maxRecDepth 100000 in
theorem ww_213 : Cond.fieldLink RX5 32 (mm_fld 4 6).1 (mm_fld 4 6).2.1 (mm_fld 4 6).2.2.1 ∈ mm_gw := by
  rw [fd_4_6]
  exact mm_gw_in (mm_ch1 (List.mem_of_getElem? (i := 104) (by rfl))) rfl
set_option maxRecDepth 100000 in
theorem ww_214 : Cond.fieldLink RX11 199 (mm_fld 4 6).1 (mm_fld 4 6).2.1 (mm_fld 4 6).2.2.1 ∈ mm_gw := by
  rw [fd_4_6]
  exact mm_gw_in (mm_ch1 (List.mem_of_getElem? (i := 105) (by rfl))) rfl
theorem fd_4_7 : mm_fld 4 7 = ("PaidSecrets$State", "paidPeople", "I", false) := by decide +kernel
set_option maxRecDepth 100000 in
theorem ww_215 : Cond.fieldLink RX5 35 (mm_fld 4 7).1 (mm_fld 4 7).2.1 (mm_fld 4 7).2.2.1 ∈ mm_gw := by
  rw [fd_4_7]
  exact mm_gw_in (mm_ch1 (List.mem_of_getElem? (i := 106) (by rfl))) rfl
set_option maxRecDepth 100000 in
theorem ww_216 : Cond.fieldLink RX0 28 (mm_fld 4 7).1 (mm_fld 4 7).2.1 (mm_fld 4 7).2.2.1 ∈ mm_gw := by
  rw [fd_4_7]
  exact mm_gw_in (mm_ch1 (List.mem_of_getElem? (i := 107) (by rfl))) rfl
set_option maxRecDepth 100000 in
theorem ww_217 : Cond.fieldLink RX11 161 (mm_fld 4 7).1 (mm_fld 4 7).2.1 (mm_fld 4 7).2.2.1 ∈ mm_gw := by
  rw [fd_4_7]
  exact mm_gw_in (mm_ch1 (List.mem_of_getElem? (i := 108) (by rfl))) rfl
theorem fd_4_8 : mm_fld 4 8 = ("PaidSecrets$State", "loans", "I", false) := by decide +kernel
set_option maxRecDepth 100000 in
theorem ww_218 : Cond.fieldLink RX5 38 (mm_fld 4 8).1 (mm_fld 4 8).2.1 (mm_fld 4 8).2.2.1 ∈ mm_gw := by
  rw [fd_4_8]
  exact mm_gw_in (mm_ch1 (List.mem_of_getElem? (i := 109) (by rfl))) rfl
set_option maxRecDepth 100000 in
theorem ww_219 : Cond.fieldLink RX11 341 (mm_fld 4 8).1 (mm_fld 4 8).2.1 (mm_fld 4 8).2.2.1 ∈ mm_gw := by
  rw [fd_4_8]
  exact mm_gw_in (mm_ch1 (List.mem_of_getElem? (i := 110) (by rfl))) rfl
theorem fd_4_9 : mm_fld 4 9 = ("PaidSecrets$State", "quarters", "I", false) := by decide +kernel
set_option maxRecDepth 100000 in
theorem ww_220 : Cond.fieldLink RX5 41 (mm_fld 4 9).1 (mm_fld 4 9).2.1 (mm_fld 4 9).2.2.1 ∈ mm_gw := by
  rw [fd_4_9]
  exact mm_gw_in (mm_ch1 (List.mem_of_getElem? (i := 111) (by rfl))) rfl
set_option maxRecDepth 100000 in
theorem ww_221 : Cond.fieldLink RX11 328 (mm_fld 4 9).1 (mm_fld 4 9).2.1 (mm_fld 4 9).2.2.1 ∈ mm_gw := by
  rw [fd_4_9]
  exact mm_gw_in (mm_ch1 (List.mem_of_getElem? (i := 112) (by rfl))) rfl
set_option maxRecDepth 100000 in
theorem ww_222 : Cond.laysFinal RX5 "PaidSecrets$State" "knowing" "[I" ∈ mm_gw := mm_gw_in (mm_ch1 (List.mem_of_getElem? (i := 113) (by rfl))) rfl
set_option maxRecDepth 100000 in
theorem ww_224 : Cond.laysFinal RX5 "PaidSecrets$State" "awareness" "[J" ∈ mm_gw := mm_gw_in (mm_ch1 (List.mem_of_getElem? (i := 115) (by rfl))) rfl
set_option maxRecDepth 100000 in
theorem ww_226 : Cond.laysFinal RX5 "PaidSecrets$State" "rank" "[I" ∈ mm_gw := mm_gw_in (mm_ch1 (List.mem_of_getElem? (i := 117) (by rfl))) rfl
set_option maxRecDepth 100000 in
theorem ww_228 : Cond.laysFinal RX5 "PaidSecrets$State" "fined" "[I" ∈ mm_gw := mm_gw_in (mm_ch1 (List.mem_of_getElem? (i := 119) (by rfl))) rfl
set_option maxRecDepth 100000 in
theorem ww_230 : Cond.laysFinal RX5 "PaidSecrets$State" "net" "[I" ∈ mm_gw := mm_gw_in (mm_ch1 (List.mem_of_getElem? (i := 121) (by rfl))) rfl
set_option maxRecDepth 100000 in
theorem ww_232 : Cond.lays RX5 "PaidSecrets$State" "met" "I" ∈ mm_gw := mm_gw_in (mm_ch1 (List.mem_of_getElem? (i := 123) (by rfl))) rfl
set_option maxRecDepth 100000 in
theorem ww_234 : Cond.lays RX5 "PaidSecrets$State" "paidSecrets" "I" ∈ mm_gw := mm_gw_in (mm_ch1 (List.mem_of_getElem? (i := 125) (by rfl))) rfl
set_option maxRecDepth 100000 in
theorem ww_236 : Cond.lays RX5 "PaidSecrets$State" "paidPeople" "I" ∈ mm_gw := mm_gw_in (mm_ch1 (List.mem_of_getElem? (i := 127) (by rfl))) rfl
set_option maxRecDepth 100000 in
theorem ww_238 : Cond.lays RX5 "PaidSecrets$State" "loans" "I" ∈ mm_gw := mm_gw_in (mm_ch1 (List.mem_of_getElem? (i := 129) (by rfl))) rfl
set_option maxRecDepth 100000 in
theorem ww_240 : Cond.lays RX5 "PaidSecrets$State" "quarters" "I" ∈ mm_gw := mm_gw_in (mm_ch1 (List.mem_of_getElem? (i := 131) (by rfl))) rfl
theorem fd_5_0 : mm_fld 5 0 = ("PaidSecrets$Talk", "lines", "I", false) := by decide +kernel
set_option maxRecDepth 100000 in
theorem ww_251 : Cond.fieldLink RX6 9 (mm_fld 5 0).1 (mm_fld 5 0).2.1 (mm_fld 5 0).2.2.1 ∈ mm_gw := by
  rw [fd_5_0]
  exact mm_gw_in (mm_ch1 (List.mem_of_getElem? (i := 142) (by rfl))) rfl
set_option maxRecDepth 100000 in
theorem ww_252 : Cond.fieldLink RX2 54 (mm_fld 5 0).1 (mm_fld 5 0).2.1 (mm_fld 5 0).2.2.1 ∈ mm_gw := by
  rw [fd_5_0]
  exact mm_gw_in (mm_ch1 (List.mem_of_getElem? (i := 143) (by rfl))) rfl
set_option maxRecDepth 100000 in
theorem ww_253 : Cond.fieldLink RX11 335 (mm_fld 5 0).1 (mm_fld 5 0).2.1 (mm_fld 5 0).2.2.1 ∈ mm_gw := by
  rw [fd_5_0]
  exact mm_gw_in (mm_ch1 (List.mem_of_getElem? (i := 144) (by rfl))) rfl
theorem fd_5_1 : mm_fld 5 1 = ("PaidSecrets$Talk", "deed", "[I", true) := by decide +kernel
set_option maxRecDepth 100000 in
theorem ww_254 : Cond.fieldLink RX6 15 (mm_fld 5 1).1 (mm_fld 5 1).2.1 (mm_fld 5 1).2.2.1 ∈ mm_gw := by
  rw [fd_5_1]
  exact mm_gw_in (mm_ch1 (List.mem_of_getElem? (i := 145) (by rfl))) rfl
set_option maxRecDepth 100000 in
theorem ww_255 : Cond.fieldLink RX11 350 (mm_fld 5 1).1 (mm_fld 5 1).2.1 (mm_fld 5 1).2.2.1 ∈ mm_gw := by
  rw [fd_5_1]
  exact mm_gw_in (mm_ch1 (List.mem_of_getElem? (i := 146) (by rfl))) rfl
theorem fd_5_2 : mm_fld 5 2 = ("PaidSecrets$Talk", "who", "[I", true) := by decide +kernel
set_option maxRecDepth 100000 in
theorem ww_256 : Cond.fieldLink RX6 19 (mm_fld 5 2).1 (mm_fld 5 2).2.1 (mm_fld 5 2).2.2.1 ∈ mm_gw := by
  rw [fd_5_2]
  exact mm_gw_in (mm_ch1 (List.mem_of_getElem? (i := 147) (by rfl))) rfl
set_option maxRecDepth 100000 in
theorem ww_257 : Cond.fieldLink RX11 356 (mm_fld 5 2).1 (mm_fld 5 2).2.1 (mm_fld 5 2).2.2.1 ∈ mm_gw := by
  rw [fd_5_2]
  exact mm_gw_in (mm_ch1 (List.mem_of_getElem? (i := 148) (by rfl))) rfl
theorem fd_5_3 : mm_fld 5 3 = ("PaidSecrets$Talk", "whom", "[I", true) := by decide +kernel
set_option maxRecDepth 100000 in
theorem ww_258 : Cond.fieldLink RX6 22 (mm_fld 5 3).1 (mm_fld 5 3).2.1 (mm_fld 5 3).2.2.1 ∈ mm_gw := by
  rw [fd_5_3]
  exact mm_gw_in (mm_ch1 (List.mem_of_getElem? (i := 149) (by rfl))) rfl
set_option maxRecDepth 100000 in
theorem ww_259 : Cond.fieldLink RX11 359 (mm_fld 5 3).1 (mm_fld 5 3).2.1 (mm_fld 5 3).2.2.1 ∈ mm_gw := by
  rw [fd_5_3]
  exact mm_gw_in (mm_ch1 (List.mem_of_getElem? (i := 150) (by rfl))) rfl
theorem fd_5_4 : mm_fld 5 4 = ("PaidSecrets$Talk", "what", "[I", true) := by decide +kernel
set_option maxRecDepth 100000 in
theorem ww_260 : Cond.fieldLink RX6 25 (mm_fld 5 4).1 (mm_fld 5 4).2.1 (mm_fld 5 4).2.2.1 ∈ mm_gw := by
  rw [fd_5_4]
  exact mm_gw_in (mm_ch1 (List.mem_of_getElem? (i := 151) (by rfl))) rfl
set_option maxRecDepth 100000 in
theorem ww_261 : Cond.fieldLink RX11 362 (mm_fld 5 4).1 (mm_fld 5 4).2.1 (mm_fld 5 4).2.2.1 ∈ mm_gw := by
  rw [fd_5_4]
  exact mm_gw_in (mm_ch1 (List.mem_of_getElem? (i := 152) (by rfl))) rfl
theorem fd_5_5 : mm_fld 5 5 = ("PaidSecrets$Talk", "seen", "I", false) := by decide +kernel
set_option maxRecDepth 100000 in
theorem ww_262 : Cond.fieldLink RX6 28 (mm_fld 5 5).1 (mm_fld 5 5).2.1 (mm_fld 5 5).2.2.1 ∈ mm_gw := by
  rw [fd_5_5]
  exact mm_gw_in (mm_ch1 (List.mem_of_getElem? (i := 153) (by rfl))) rfl
set_option maxRecDepth 100000 in
theorem ww_263 : Cond.fieldLink RX11 338 (mm_fld 5 5).1 (mm_fld 5 5).2.1 (mm_fld 5 5).2.2.1 ∈ mm_gw := by
  rw [fd_5_5]
  exact mm_gw_in (mm_ch1 (List.mem_of_getElem? (i := 154) (by rfl))) rfl
theorem fd_5_6 : mm_fld 5 6 = ("PaidSecrets$Talk", "seenSecret", "[I", true) := by decide +kernel
set_option maxRecDepth 100000 in
theorem ww_264 : Cond.fieldLink RX6 31 (mm_fld 5 6).1 (mm_fld 5 6).2.1 (mm_fld 5 6).2.2.1 ∈ mm_gw := by
  rw [fd_5_6]
  exact mm_gw_in (mm_ch1 (List.mem_of_getElem? (i := 155) (by rfl))) rfl
set_option maxRecDepth 100000 in
theorem ww_265 : Cond.fieldLink RX11 391 (mm_fld 5 6).1 (mm_fld 5 6).2.1 (mm_fld 5 6).2.2.1 ∈ mm_gw := by
  rw [fd_5_6]
  exact mm_gw_in (mm_ch1 (List.mem_of_getElem? (i := 156) (by rfl))) rfl
theorem fd_5_7 : mm_fld 5 7 = ("PaidSecrets$Talk", "seenFell", "[I", true) := by decide +kernel
set_option maxRecDepth 100000 in
theorem ww_266 : Cond.fieldLink RX6 34 (mm_fld 5 7).1 (mm_fld 5 7).2.1 (mm_fld 5 7).2.2.1 ∈ mm_gw := by
  rw [fd_5_7]
  exact mm_gw_in (mm_ch1 (List.mem_of_getElem? (i := 157) (by rfl))) rfl
set_option maxRecDepth 100000 in
theorem ww_267 : Cond.fieldLink RX11 394 (mm_fld 5 7).1 (mm_fld 5 7).2.1 (mm_fld 5 7).2.2.1 ∈ mm_gw := by
  rw [fd_5_7]
  exact mm_gw_in (mm_ch1 (List.mem_of_getElem? (i := 158) (by rfl))) rfl
set_option maxRecDepth 100000 in
theorem ww_268 : Cond.lays RX6 "PaidSecrets$Talk" "lines" "I" ∈ mm_gw := mm_gw_in (mm_ch1 (List.mem_of_getElem? (i := 159) (by rfl))) rfl
set_option maxRecDepth 100000 in
theorem ww_270 : Cond.laysFinal RX6 "PaidSecrets$Talk" "deed" "[I" ∈ mm_gw := mm_gw_in (mm_ch1 (List.mem_of_getElem? (i := 161) (by rfl))) rfl
set_option maxRecDepth 100000 in
theorem ww_272 : Cond.laysFinal RX6 "PaidSecrets$Talk" "who" "[I" ∈ mm_gw := mm_gw_in (mm_ch1 (List.mem_of_getElem? (i := 163) (by rfl))) rfl
set_option maxRecDepth 100000 in
theorem ww_274 : Cond.laysFinal RX6 "PaidSecrets$Talk" "whom" "[I" ∈ mm_gw := mm_gw_in (mm_ch1 (List.mem_of_getElem? (i := 165) (by rfl))) rfl
set_option maxRecDepth 100000 in
theorem ww_276 : Cond.laysFinal RX6 "PaidSecrets$Talk" "what" "[I" ∈ mm_gw := mm_gw_in (mm_ch1 (List.mem_of_getElem? (i := 167) (by rfl))) rfl
set_option maxRecDepth 100000 in
theorem ww_278 : Cond.lays RX6 "PaidSecrets$Talk" "seen" "I" ∈ mm_gw := mm_gw_in (mm_ch1 (List.mem_of_getElem? (i := 169) (by rfl))) rfl
set_option maxRecDepth 100000 in
theorem ww_280 : Cond.laysFinal RX6 "PaidSecrets$Talk" "seenSecret" "[I" ∈ mm_gw := mm_gw_in (mm_ch1 (List.mem_of_getElem? (i := 171) (by rfl))) rfl
set_option maxRecDepth 100000 in
theorem ww_282 : Cond.laysFinal RX6 "PaidSecrets$Talk" "seenFell" "[I" ∈ mm_gw := mm_gw_in (mm_ch1 (List.mem_of_getElem? (i := 173) (by rfl))) rfl
theorem fd_0_0 : mm_fld 0 0 = ("PaidSecrets$Collector", "sums", "[I", true) := by decide +kernel
set_option maxRecDepth 100000 in
theorem ww_293 : Cond.fieldLink RX0 9 (mm_fld 0 0).1 (mm_fld 0 0).2.1 (mm_fld 0 0).2.2.1 ∈ mm_gw := by
  rw [fd_0_0]
  exact mm_gw_in (mm_ch1 (List.mem_of_getElem? (i := 184) (by rfl))) rfl
theorem fd_0_1 : mm_fld 0 1 = ("PaidSecrets$Collector", "payable", "[J", true) := by decide +kernel
set_option maxRecDepth 100000 in
theorem ww_294 : Cond.fieldLink RX0 15 (mm_fld 0 1).1 (mm_fld 0 1).2.1 (mm_fld 0 1).2.2.1 ∈ mm_gw := by
  rw [fd_0_1]
  exact mm_gw_in (mm_ch1 (List.mem_of_getElem? (i := 185) (by rfl))) rfl
theorem fd_0_2 : mm_fld 0 2 = ("PaidSecrets$Collector", "groups", "[I", true) := by decide +kernel
set_option maxRecDepth 100000 in
theorem ww_295 : Cond.fieldLink RX0 19 (mm_fld 0 2).1 (mm_fld 0 2).2.1 (mm_fld 0 2).2.2.1 ∈ mm_gw := by
  rw [fd_0_2]
  exact mm_gw_in (mm_ch1 (List.mem_of_getElem? (i := 186) (by rfl))) rfl
set_option maxRecDepth 100000 in
theorem ww_296 : Cond.laysFinal RX0 "PaidSecrets$Collector" "sums" "[I" ∈ mm_gw := mm_gw_in (mm_ch1 (List.mem_of_getElem? (i := 187) (by rfl))) rfl
set_option maxRecDepth 100000 in
theorem ww_298 : Cond.laysFinal RX0 "PaidSecrets$Collector" "payable" "[J" ∈ mm_gw := mm_gw_in (mm_ch1 (List.mem_of_getElem? (i := 189) (by rfl))) rfl
set_option maxRecDepth 100000 in
theorem ww_300 : Cond.laysFinal RX0 "PaidSecrets$Collector" "groups" "[I" ∈ mm_gw := mm_gw_in (mm_ch1 (List.mem_of_getElem? (i := 191) (by rfl))) rfl
theorem fd_1_0 : mm_fld 1 0 = ("PaidSecrets$Feast", "known", "[I", true) := by decide +kernel
set_option maxRecDepth 100000 in
theorem ww_309 : Cond.fieldLink RX1 11 (mm_fld 1 0).1 (mm_fld 1 0).2.1 (mm_fld 1 0).2.2.1 ∈ mm_gw := by
  rw [fd_1_0]
  exact mm_gw_in (mm_ch1 (List.mem_of_getElem? (i := 200) (by rfl))) rfl
theorem fd_1_1 : mm_fld 1 1 = ("PaidSecrets$Feast", "choice", "[I", true) := by decide +kernel
set_option maxRecDepth 100000 in
theorem ww_310 : Cond.fieldLink RX1 15 (mm_fld 1 1).1 (mm_fld 1 1).2.1 (mm_fld 1 1).2.2.1 ∈ mm_gw := by
  rw [fd_1_1]
  exact mm_gw_in (mm_ch1 (List.mem_of_getElem? (i := 201) (by rfl))) rfl
theorem fd_1_2 : mm_fld 1 2 = ("PaidSecrets$Feast", "guests", "I", false) := by decide +kernel
set_option maxRecDepth 100000 in
theorem ww_311 : Cond.fieldLink RX1 18 (mm_fld 1 2).1 (mm_fld 1 2).2.1 (mm_fld 1 2).2.2.1 ∈ mm_gw := by
  rw [fd_1_2]
  exact mm_gw_in (mm_ch1 (List.mem_of_getElem? (i := 202) (by rfl))) rfl
set_option maxRecDepth 100000 in
theorem ww_312 : Cond.laysFinal RX1 "PaidSecrets$Feast" "known" "[I" ∈ mm_gw := mm_gw_in (mm_ch1 (List.mem_of_getElem? (i := 203) (by rfl))) rfl
set_option maxRecDepth 100000 in
theorem ww_314 : Cond.laysFinal RX1 "PaidSecrets$Feast" "choice" "[I" ∈ mm_gw := mm_gw_in (mm_ch1 (List.mem_of_getElem? (i := 205) (by rfl))) rfl
set_option maxRecDepth 100000 in
theorem ww_316 : Cond.lays RX1 "PaidSecrets$Feast" "guests" "I" ∈ mm_gw := mm_gw_in (mm_ch1 (List.mem_of_getElem? (i := 207) (by rfl))) rfl
theorem fd_3_0 : mm_fld 3 0 = ("PaidSecrets$Nights", "chances", "[J", true) := by decide +kernel
set_option maxRecDepth 100000 in
theorem ww_325 : Cond.fieldLink RX4 9 (mm_fld 3 0).1 (mm_fld 3 0).2.1 (mm_fld 3 0).2.2.1 ∈ mm_gw := by
  rw [fd_3_0]
  exact mm_gw_in (mm_ch1 (List.mem_of_getElem? (i := 216) (by rfl))) rfl
theorem fd_3_1 : mm_fld 3 1 = ("PaidSecrets$Nights", "next", "[J", true) := by decide +kernel
set_option maxRecDepth 100000 in
theorem ww_326 : Cond.fieldLink RX4 15 (mm_fld 3 1).1 (mm_fld 3 1).2.1 (mm_fld 3 1).2.2.1 ∈ mm_gw := by
  rw [fd_3_1]
  exact mm_gw_in (mm_ch1 (List.mem_of_getElem? (i := 217) (by rfl))) rfl
theorem fd_3_2 : mm_fld 3 2 = ("PaidSecrets$Nights", "hearing", "[J", true) := by decide +kernel
set_option maxRecDepth 100000 in
theorem ww_327 : Cond.fieldLink RX4 18 (mm_fld 3 2).1 (mm_fld 3 2).2.1 (mm_fld 3 2).2.2.1 ∈ mm_gw := by
  rw [fd_3_2]
  exact mm_gw_in (mm_ch1 (List.mem_of_getElem? (i := 218) (by rfl))) rfl
theorem fd_3_3 : mm_fld 3 3 = ("PaidSecrets$Nights", "byKnowers", "[I", true) := by decide +kernel
set_option maxRecDepth 100000 in
theorem ww_328 : Cond.fieldLink RX4 21 (mm_fld 3 3).1 (mm_fld 3 3).2.1 (mm_fld 3 3).2.2.1 ∈ mm_gw := by
  rw [fd_3_3]
  exact mm_gw_in (mm_ch1 (List.mem_of_getElem? (i := 219) (by rfl))) rfl
set_option maxRecDepth 100000 in
theorem ww_329 : Cond.laysFinal RX4 "PaidSecrets$Nights" "chances" "[J" ∈ mm_gw := mm_gw_in (mm_ch1 (List.mem_of_getElem? (i := 220) (by rfl))) rfl
set_option maxRecDepth 100000 in
theorem ww_331 : Cond.laysFinal RX4 "PaidSecrets$Nights" "next" "[J" ∈ mm_gw := mm_gw_in (mm_ch1 (List.mem_of_getElem? (i := 222) (by rfl))) rfl
set_option maxRecDepth 100000 in
theorem ww_333 : Cond.laysFinal RX4 "PaidSecrets$Nights" "hearing" "[J" ∈ mm_gw := mm_gw_in (mm_ch1 (List.mem_of_getElem? (i := 224) (by rfl))) rfl
set_option maxRecDepth 100000 in
theorem ww_335 : Cond.laysFinal RX4 "PaidSecrets$Nights" "byKnowers" "[I" ∈ mm_gw := mm_gw_in (mm_ch1 (List.mem_of_getElem? (i := 226) (by rfl))) rfl
theorem fd_2_0 : mm_fld 2 0 = ("PaidSecrets$Law", "steps", "[I", true) := by decide +kernel
set_option maxRecDepth 100000 in
theorem ww_350 : Cond.fieldLink RX3 9 (mm_fld 2 0).1 (mm_fld 2 0).2.1 (mm_fld 2 0).2.2.1 ∈ mm_gw := by
  rw [fd_2_0]
  exact mm_gw_in (mm_ch2 (List.mem_of_getElem? (i := 1) (by rfl))) rfl
theorem fd_2_1 : mm_fld 2 1 = ("PaidSecrets$Law", "stack", "[I", true) := by decide +kernel
set_option maxRecDepth 100000 in
theorem ww_351 : Cond.fieldLink RX3 15 (mm_fld 2 1).1 (mm_fld 2 1).2.1 (mm_fld 2 1).2.2.1 ∈ mm_gw := by
  rw [fd_2_1]
  exact mm_gw_in (mm_ch2 (List.mem_of_getElem? (i := 2) (by rfl))) rfl
theorem fd_2_2 : mm_fld 2 2 = ("PaidSecrets$Law", "size", "I", false) := by decide +kernel
set_option maxRecDepth 100000 in
theorem ww_352 : Cond.fieldLink RX3 18 (mm_fld 2 2).1 (mm_fld 2 2).2.1 (mm_fld 2 2).2.2.1 ∈ mm_gw := by
  rw [fd_2_2]
  exact mm_gw_in (mm_ch2 (List.mem_of_getElem? (i := 3) (by rfl))) rfl
set_option maxRecDepth 100000 in
theorem ww_353 : Cond.fieldLink RX8 78 (mm_fld 2 2).1 (mm_fld 2 2).2.1 (mm_fld 2 2).2.2.1 ∈ mm_gw := by
  rw [fd_2_2]
  exact mm_gw_in (mm_ch2 (List.mem_of_getElem? (i := 4) (by rfl))) rfl
set_option maxRecDepth 100000 in
theorem ww_354 : Cond.fieldLink RX5 79 (mm_fld 2 2).1 (mm_fld 2 2).2.1 (mm_fld 2 2).2.2.1 ∈ mm_gw := by
  rw [fd_2_2]
  exact mm_gw_in (mm_ch2 (List.mem_of_getElem? (i := 5) (by rfl))) rfl
set_option maxRecDepth 100000 in
theorem ww_355 : Cond.fieldLink RX9 227 (mm_fld 2 2).1 (mm_fld 2 2).2.1 (mm_fld 2 2).2.2.1 ∈ mm_gw := by
  rw [fd_2_2]
  exact mm_gw_in (mm_ch2 (List.mem_of_getElem? (i := 6) (by rfl))) rfl
set_option maxRecDepth 100000 in
theorem ww_356 : Cond.laysFinal RX3 "PaidSecrets$Law" "steps" "[I" ∈ mm_gw := mm_gw_in (mm_ch2 (List.mem_of_getElem? (i := 7) (by rfl))) rfl
set_option maxRecDepth 100000 in
theorem ww_358 : Cond.laysFinal RX3 "PaidSecrets$Law" "stack" "[I" ∈ mm_gw := mm_gw_in (mm_ch2 (List.mem_of_getElem? (i := 9) (by rfl))) rfl
set_option maxRecDepth 100000 in
theorem ww_360 : Cond.lays RX3 "PaidSecrets$Law" "size" "I" ∈ mm_gw := mm_gw_in (mm_ch2 (List.mem_of_getElem? (i := 11) (by rfl))) rfl
theorem fd_7_0 : mm_fld 7 0 = ("PaidSecrets$Town", "people", "I", false) := by decide +kernel
set_option maxRecDepth 100000 in
theorem ww_363 : Cond.fieldLink RX8 9 (mm_fld 7 0).1 (mm_fld 7 0).2.1 (mm_fld 7 0).2.2.1 ∈ mm_gw := by
  rw [fd_7_0]
  exact mm_gw_in (mm_ch2 (List.mem_of_getElem? (i := 14) (by rfl))) rfl
set_option maxRecDepth 100000 in
theorem ww_364 : Cond.fieldLink RX1 22 (mm_fld 7 0).1 (mm_fld 7 0).2.1 (mm_fld 7 0).2.2.1 ∈ mm_gw := by
  rw [fd_7_0]
  exact mm_gw_in (mm_ch2 (List.mem_of_getElem? (i := 15) (by rfl))) rfl
set_option maxRecDepth 100000 in
theorem ww_365 : Cond.fieldLink RX4 37 (mm_fld 7 0).1 (mm_fld 7 0).2.1 (mm_fld 7 0).2.2.1 ∈ mm_gw := by
  rw [fd_7_0]
  exact mm_gw_in (mm_ch2 (List.mem_of_getElem? (i := 16) (by rfl))) rfl
set_option maxRecDepth 100000 in
theorem ww_366 : Cond.fieldLink RX0 63 (mm_fld 7 0).1 (mm_fld 7 0).2.1 (mm_fld 7 0).2.2.1 ∈ mm_gw := by
  rw [fd_7_0]
  exact mm_gw_in (mm_ch2 (List.mem_of_getElem? (i := 17) (by rfl))) rfl
set_option maxRecDepth 100000 in
theorem ww_367 : Cond.fieldLink RX9 102 (mm_fld 7 0).1 (mm_fld 7 0).2.1 (mm_fld 7 0).2.2.1 ∈ mm_gw := by
  rw [fd_7_0]
  exact mm_gw_in (mm_ch2 (List.mem_of_getElem? (i := 18) (by rfl))) rfl
set_option maxRecDepth 100000 in
theorem ww_368 : Cond.fieldLink RX5 138 (mm_fld 7 0).1 (mm_fld 7 0).2.1 (mm_fld 7 0).2.2.1 ∈ mm_gw := by
  rw [fd_7_0]
  exact mm_gw_in (mm_ch2 (List.mem_of_getElem? (i := 19) (by rfl))) rfl
set_option maxRecDepth 100000 in
theorem ww_369 : Cond.fieldLink RX11 304 (mm_fld 7 0).1 (mm_fld 7 0).2.1 (mm_fld 7 0).2.2.1 ∈ mm_gw := by
  rw [fd_7_0]
  exact mm_gw_in (mm_ch2 (List.mem_of_getElem? (i := 20) (by rfl))) rfl
theorem fd_7_1 : mm_fld 7 1 = ("PaidSecrets$Town", "personName", "[J", true) := by decide +kernel
set_option maxRecDepth 100000 in
theorem ww_370 : Cond.fieldLink RX8 15 (mm_fld 7 1).1 (mm_fld 7 1).2.1 (mm_fld 7 1).2.2.1 ∈ mm_gw := by
  rw [fd_7_1]
  exact mm_gw_in (mm_ch2 (List.mem_of_getElem? (i := 21) (by rfl))) rfl
set_option maxRecDepth 100000 in
theorem ww_371 : Cond.fieldLink RX9 105 (mm_fld 7 1).1 (mm_fld 7 1).2.1 (mm_fld 7 1).2.2.1 ∈ mm_gw := by
  rw [fd_7_1]
  exact mm_gw_in (mm_ch2 (List.mem_of_getElem? (i := 22) (by rfl))) rfl
theorem fd_7_2 : mm_fld 7 2 = ("PaidSecrets$Town", "kind", "[I", true) := by decide +kernel
set_option maxRecDepth 100000 in
theorem ww_372 : Cond.fieldLink RX8 19 (mm_fld 7 2).1 (mm_fld 7 2).2.1 (mm_fld 7 2).2.2.1 ∈ mm_gw := by
  rw [fd_7_2]
  exact mm_gw_in (mm_ch2 (List.mem_of_getElem? (i := 23) (by rfl))) rfl
set_option maxRecDepth 100000 in
theorem ww_373 : Cond.fieldLink RX11 140 (mm_fld 7 2).1 (mm_fld 7 2).2.1 (mm_fld 7 2).2.2.1 ∈ mm_gw := by
  rw [fd_7_2]
  exact mm_gw_in (mm_ch2 (List.mem_of_getElem? (i := 24) (by rfl))) rfl
set_option maxRecDepth 100000 in
theorem ww_374 : Cond.fieldLink RX9 112 (mm_fld 7 2).1 (mm_fld 7 2).2.1 (mm_fld 7 2).2.2.1 ∈ mm_gw := by
  rw [fd_7_2]
  exact mm_gw_in (mm_ch2 (List.mem_of_getElem? (i := 25) (by rfl))) rfl
theorem fd_7_3 : mm_fld 7 3 = ("PaidSecrets$Town", "rank", "[I", true) := by decide +kernel
set_option maxRecDepth 100000 in
theorem ww_376 : Cond.fieldLink RX5 55 (mm_fld 7 3).1 (mm_fld 7 3).2.1 (mm_fld 7 3).2.2.1 ∈ mm_gw := by
  rw [fd_7_3]
  exact mm_gw_in (mm_ch2 (List.mem_of_getElem? (i := 27) (by rfl))) rfl
set_option maxRecDepth 100000 in
theorem ww_377 : Cond.fieldLink RX9 119 (mm_fld 7 3).1 (mm_fld 7 3).2.1 (mm_fld 7 3).2.2.1 ∈ mm_gw := by
  rw [fd_7_3]
  exact mm_gw_in (mm_ch2 (List.mem_of_getElem? (i := 28) (by rfl))) rfl
theorem fd_7_4 : mm_fld 7 4 = ("PaidSecrets$Town", "tax", "[I", true) := by decide +kernel
set_option maxRecDepth 100000 in
theorem ww_379 : Cond.fieldLink RX0 40 (mm_fld 7 4).1 (mm_fld 7 4).2.1 (mm_fld 7 4).2.2.1 ∈ mm_gw := by
  rw [fd_7_4]
  exact mm_gw_in (mm_ch2 (List.mem_of_getElem? (i := 30) (by rfl))) rfl
set_option maxRecDepth 100000 in
theorem ww_380 : Cond.fieldLink RX11 146 (mm_fld 7 4).1 (mm_fld 7 4).2.1 (mm_fld 7 4).2.2.1 ∈ mm_gw := by
  rw [fd_7_4]
  exact mm_gw_in (mm_ch2 (List.mem_of_getElem? (i := 31) (by rfl))) rfl
set_option maxRecDepth 100000 in
theorem ww_381 : Cond.fieldLink RX9 133 (mm_fld 7 4).1 (mm_fld 7 4).2.1 (mm_fld 7 4).2.2.1 ∈ mm_gw := by
  rw [fd_7_4]
  exact mm_gw_in (mm_ch2 (List.mem_of_getElem? (i := 32) (by rfl))) rfl
set_option maxRecDepth 100000 in
theorem ww_382 : Cond.fieldLink RX5 135 (mm_fld 7 4).1 (mm_fld 7 4).2.1 (mm_fld 7 4).2.2.1 ∈ mm_gw := by
  rw [fd_7_4]
  exact mm_gw_in (mm_ch2 (List.mem_of_getElem? (i := 33) (by rfl))) rfl
theorem fd_7_5 : mm_fld 7 5 = ("PaidSecrets$Town", "priests", "I", false) := by decide +kernel
set_option maxRecDepth 100000 in
theorem ww_383 : Cond.fieldLink RX8 29 (mm_fld 7 5).1 (mm_fld 7 5).2.1 (mm_fld 7 5).2.2.1 ∈ mm_gw := by
  rw [fd_7_5]
  exact mm_gw_in (mm_ch2 (List.mem_of_getElem? (i := 34) (by rfl))) rfl
set_option maxRecDepth 100000 in
theorem ww_384 : Cond.fieldLink RX9 143 (mm_fld 7 5).1 (mm_fld 7 5).2.1 (mm_fld 7 5).2.2.1 ∈ mm_gw := by
  rw [fd_7_5]
  exact mm_gw_in (mm_ch2 (List.mem_of_getElem? (i := 35) (by rfl))) rfl
theorem fd_7_6 : mm_fld 7 6 = ("PaidSecrets$Town", "secrets", "I", false) := by decide +kernel
set_option maxRecDepth 100000 in
theorem ww_385 : Cond.fieldLink RX8 32 (mm_fld 7 6).1 (mm_fld 7 6).2.1 (mm_fld 7 6).2.2.1 ∈ mm_gw := by
  rw [fd_7_6]
  exact mm_gw_in (mm_ch2 (List.mem_of_getElem? (i := 36) (by rfl))) rfl
set_option maxRecDepth 100000 in
theorem ww_386 : Cond.fieldLink RX0 22 (mm_fld 7 6).1 (mm_fld 7 6).2.1 (mm_fld 7 6).2.2.1 ∈ mm_gw := by
  rw [fd_7_6]
  exact mm_gw_in (mm_ch2 (List.mem_of_getElem? (i := 37) (by rfl))) rfl
set_option maxRecDepth 100000 in
theorem ww_387 : Cond.fieldLink RX5 65 (mm_fld 7 6).1 (mm_fld 7 6).2.1 (mm_fld 7 6).2.2.1 ∈ mm_gw := by
  rw [fd_7_6]
  exact mm_gw_in (mm_ch2 (List.mem_of_getElem? (i := 38) (by rfl))) rfl
set_option maxRecDepth 100000 in
theorem ww_388 : Cond.fieldLink RX9 146 (mm_fld 7 6).1 (mm_fld 7 6).2.1 (mm_fld 7 6).2.2.1 ∈ mm_gw := by
  rw [fd_7_6]
  exact mm_gw_in (mm_ch2 (List.mem_of_getElem? (i := 39) (by rfl))) rfl
set_option maxRecDepth 100000 in
theorem ww_389 : Cond.fieldLink RX11 319 (mm_fld 7 6).1 (mm_fld 7 6).2.1 (mm_fld 7 6).2.2.1 ∈ mm_gw := by
  rw [fd_7_6]
  exact mm_gw_in (mm_ch2 (List.mem_of_getElem? (i := 40) (by rfl))) rfl
theorem fd_7_7 : mm_fld 7 7 = ("PaidSecrets$Town", "secretName", "[J", true) := by decide +kernel
set_option maxRecDepth 100000 in
theorem ww_390 : Cond.fieldLink RX8 35 (mm_fld 7 7).1 (mm_fld 7 7).2.1 (mm_fld 7 7).2.2.1 ∈ mm_gw := by
  rw [fd_7_7]
  exact mm_gw_in (mm_ch2 (List.mem_of_getElem? (i := 41) (by rfl))) rfl
set_option maxRecDepth 100000 in
theorem ww_391 : Cond.fieldLink RX9 149 (mm_fld 7 7).1 (mm_fld 7 7).2.1 (mm_fld 7 7).2.2.1 ∈ mm_gw := by
  rw [fd_7_7]
  exact mm_gw_in (mm_ch2 (List.mem_of_getElem? (i := 42) (by rfl))) rfl
theorem fd_7_8 : mm_fld 7 8 = ("PaidSecrets$Town", "falsehoods", "I", false) := by decide +kernel
set_option maxRecDepth 100000 in
theorem ww_392 : Cond.fieldLink RX8 38 (mm_fld 7 8).1 (mm_fld 7 8).2.1 (mm_fld 7 8).2.2.1 ∈ mm_gw := by
  rw [fd_7_8]
  exact mm_gw_in (mm_ch2 (List.mem_of_getElem? (i := 43) (by rfl))) rfl
set_option maxRecDepth 100000 in
theorem ww_393 : Cond.fieldLink RX11 177 (mm_fld 7 8).1 (mm_fld 7 8).2.1 (mm_fld 7 8).2.2.1 ∈ mm_gw := by
  rw [fd_7_8]
  exact mm_gw_in (mm_ch2 (List.mem_of_getElem? (i := 44) (by rfl))) rfl
set_option maxRecDepth 100000 in
theorem ww_394 : Cond.fieldLink RX9 158 (mm_fld 7 8).1 (mm_fld 7 8).2.1 (mm_fld 7 8).2.2.1 ∈ mm_gw := by
  rw [fd_7_8]
  exact mm_gw_in (mm_ch2 (List.mem_of_getElem? (i := 45) (by rfl))) rfl
set_option maxRecDepth 100000 in
theorem ww_395 : Cond.fieldLink RX5 121 (mm_fld 7 8).1 (mm_fld 7 8).2.1 (mm_fld 7 8).2.2.1 ∈ mm_gw := by
  rw [fd_7_8]
  exact mm_gw_in (mm_ch2 (List.mem_of_getElem? (i := 46) (by rfl))) rfl
theorem fd_7_9 : mm_fld 7 9 = ("PaidSecrets$Town", "ofWhom", "[I", true) := by decide +kernel
set_option maxRecDepth 100000 in
theorem ww_397 : Cond.fieldLink RX5 89 (mm_fld 7 9).1 (mm_fld 7 9).2.1 (mm_fld 7 9).2.2.1 ∈ mm_gw := by
  rw [fd_7_9]
  exact mm_gw_in (mm_ch2 (List.mem_of_getElem? (i := 48) (by rfl))) rfl
set_option maxRecDepth 100000 in
theorem ww_398 : Cond.fieldLink RX11 180 (mm_fld 7 9).1 (mm_fld 7 9).2.1 (mm_fld 7 9).2.2.1 ∈ mm_gw := by
  rw [fd_7_9]
  exact mm_gw_in (mm_ch2 (List.mem_of_getElem? (i := 49) (by rfl))) rfl
set_option maxRecDepth 100000 in
theorem ww_399 : Cond.fieldLink RX9 181 (mm_fld 7 9).1 (mm_fld 7 9).2.1 (mm_fld 7 9).2.2.1 ∈ mm_gw := by
  rw [fd_7_9]
  exact mm_gw_in (mm_ch2 (List.mem_of_getElem? (i := 50) (by rfl))) rfl
theorem fd_7_10 : mm_fld 7 10 = ("PaidSecrets$Town", "cost", "[I", true) := by decide +kernel
set_option maxRecDepth 100000 in
theorem ww_401 : Cond.fieldLink RX5 72 (mm_fld 7 10).1 (mm_fld 7 10).2.1 (mm_fld 7 10).2.2.1 ∈ mm_gw := by
  rw [fd_7_10]
  exact mm_gw_in (mm_ch2 (List.mem_of_getElem? (i := 52) (by rfl))) rfl
set_option maxRecDepth 100000 in
theorem ww_402 : Cond.fieldLink RX11 183 (mm_fld 7 10).1 (mm_fld 7 10).2.1 (mm_fld 7 10).2.2.1 ∈ mm_gw := by
  rw [fd_7_10]
  exact mm_gw_in (mm_ch2 (List.mem_of_getElem? (i := 53) (by rfl))) rfl
set_option maxRecDepth 100000 in
theorem ww_403 : Cond.fieldLink RX9 187 (mm_fld 7 10).1 (mm_fld 7 10).2.1 (mm_fld 7 10).2.2.1 ∈ mm_gw := by
  rw [fd_7_10]
  exact mm_gw_in (mm_ch2 (List.mem_of_getElem? (i := 54) (by rfl))) rfl
theorem fd_7_11 : mm_fld 7 11 = ("PaidSecrets$Town", "on", "[I", true) := by decide +kernel
set_option maxRecDepth 100000 in
theorem ww_405 : Cond.fieldLink RX11 186 (mm_fld 7 11).1 (mm_fld 7 11).2.1 (mm_fld 7 11).2.2.1 ∈ mm_gw := by
  rw [fd_7_11]
  exact mm_gw_in (mm_ch2 (List.mem_of_getElem? (i := 56) (by rfl))) rfl
set_option maxRecDepth 100000 in
theorem ww_406 : Cond.fieldLink RX5 99 (mm_fld 7 11).1 (mm_fld 7 11).2.1 (mm_fld 7 11).2.2.1 ∈ mm_gw := by
  rw [fd_7_11]
  exact mm_gw_in (mm_ch2 (List.mem_of_getElem? (i := 57) (by rfl))) rfl
set_option maxRecDepth 100000 in
theorem ww_407 : Cond.fieldLink RX9 193 (mm_fld 7 11).1 (mm_fld 7 11).2.1 (mm_fld 7 11).2.2.1 ∈ mm_gw := by
  rw [fd_7_11]
  exact mm_gw_in (mm_ch2 (List.mem_of_getElem? (i := 58) (by rfl))) rfl
theorem fd_7_12 : mm_fld 7 12 = ("PaidSecrets$Town", "knownBy", "[I", true) := by decide +kernel
set_option maxRecDepth 100000 in
theorem ww_409 : Cond.fieldLink RX5 44 (mm_fld 7 12).1 (mm_fld 7 12).2.1 (mm_fld 7 12).2.2.1 ∈ mm_gw := by
  rw [fd_7_12]
  exact mm_gw_in (mm_ch2 (List.mem_of_getElem? (i := 60) (by rfl))) rfl
set_option maxRecDepth 100000 in
theorem ww_410 : Cond.fieldLink RX9 171 (mm_fld 7 12).1 (mm_fld 7 12).2.1 (mm_fld 7 12).2.2.1 ∈ mm_gw := by
  rw [fd_7_12]
  exact mm_gw_in (mm_ch2 (List.mem_of_getElem? (i := 61) (by rfl))) rfl
theorem fd_7_13 : mm_fld 7 13 = ("PaidSecrets$Town", "ears", "I", false) := by decide +kernel
set_option maxRecDepth 100000 in
theorem ww_411 : Cond.fieldLink RX8 53 (mm_fld 7 13).1 (mm_fld 7 13).2.1 (mm_fld 7 13).2.2.1 ∈ mm_gw := by
  rw [fd_7_13]
  exact mm_gw_in (mm_ch2 (List.mem_of_getElem? (i := 62) (by rfl))) rfl
set_option maxRecDepth 100000 in
theorem ww_412 : Cond.fieldLink RX9 205 (mm_fld 7 13).1 (mm_fld 7 13).2.1 (mm_fld 7 13).2.2.1 ∈ mm_gw := by
  rw [fd_7_13]
  exact mm_gw_in (mm_ch2 (List.mem_of_getElem? (i := 63) (by rfl))) rfl
set_option maxRecDepth 100000 in
theorem ww_413 : Cond.fieldLink RX11 322 (mm_fld 7 13).1 (mm_fld 7 13).2.1 (mm_fld 7 13).2.2.1 ∈ mm_gw := by
  rw [fd_7_13]
  exact mm_gw_in (mm_ch2 (List.mem_of_getElem? (i := 64) (by rfl))) rfl
theorem fd_7_14 : mm_fld 7 14 = ("PaidSecrets$Town", "earFrom", "[I", true) := by decide +kernel
set_option maxRecDepth 100000 in
theorem ww_415 : Cond.fieldLink RX9 208 (mm_fld 7 14).1 (mm_fld 7 14).2.1 (mm_fld 7 14).2.2.1 ∈ mm_gw := by
  rw [fd_7_14]
  exact mm_gw_in (mm_ch2 (List.mem_of_getElem? (i := 66) (by rfl))) rfl
set_option maxRecDepth 100000 in
theorem ww_416 : Cond.fieldLink RX11 407 (mm_fld 7 14).1 (mm_fld 7 14).2.1 (mm_fld 7 14).2.2.1 ∈ mm_gw := by
  rw [fd_7_14]
  exact mm_gw_in (mm_ch2 (List.mem_of_getElem? (i := 67) (by rfl))) rfl
theorem fd_7_15 : mm_fld 7 15 = ("PaidSecrets$Town", "earTo", "[I", true) := by decide +kernel
set_option maxRecDepth 100000 in
theorem ww_418 : Cond.fieldLink RX9 211 (mm_fld 7 15).1 (mm_fld 7 15).2.1 (mm_fld 7 15).2.2.1 ∈ mm_gw := by
  rw [fd_7_15]
  exact mm_gw_in (mm_ch2 (List.mem_of_getElem? (i := 69) (by rfl))) rfl
set_option maxRecDepth 100000 in
theorem ww_419 : Cond.fieldLink RX11 410 (mm_fld 7 15).1 (mm_fld 7 15).2.1 (mm_fld 7 15).2.2.1 ∈ mm_gw := by
  rw [fd_7_15]
  exact mm_gw_in (mm_ch2 (List.mem_of_getElem? (i := 70) (by rfl))) rfl
theorem fd_7_16 : mm_fld 7 16 = ("PaidSecrets$Town", "earChance", "[I", true) := by decide +kernel
set_option maxRecDepth 100000 in
theorem ww_420 : Cond.fieldLink RX8 62 (mm_fld 7 16).1 (mm_fld 7 16).2.1 (mm_fld 7 16).2.2.1 ∈ mm_gw := by
  rw [fd_7_16]
  exact mm_gw_in (mm_ch2 (List.mem_of_getElem? (i := 71) (by rfl))) rfl
set_option maxRecDepth 100000 in
theorem ww_421 : Cond.fieldLink RX9 202 (mm_fld 7 16).1 (mm_fld 7 16).2.1 (mm_fld 7 16).2.2.1 ∈ mm_gw := by
  rw [fd_7_16]
  exact mm_gw_in (mm_ch2 (List.mem_of_getElem? (i := 72) (by rfl))) rfl
theorem fd_7_17 : mm_fld 7 17 = ("PaidSecrets$Town", "clashes", "I", false) := by decide +kernel
set_option maxRecDepth 100000 in
theorem ww_422 : Cond.fieldLink RX8 65 (mm_fld 7 17).1 (mm_fld 7 17).2.1 (mm_fld 7 17).2.2.1 ∈ mm_gw := by
  rw [fd_7_17]
  exact mm_gw_in (mm_ch2 (List.mem_of_getElem? (i := 73) (by rfl))) rfl
set_option maxRecDepth 100000 in
theorem ww_423 : Cond.fieldLink RX9 220 (mm_fld 7 17).1 (mm_fld 7 17).2.1 (mm_fld 7 17).2.2.1 ∈ mm_gw := by
  rw [fd_7_17]
  exact mm_gw_in (mm_ch2 (List.mem_of_getElem? (i := 74) (by rfl))) rfl
set_option maxRecDepth 100000 in
theorem ww_424 : Cond.fieldLink RX11 325 (mm_fld 7 17).1 (mm_fld 7 17).2.1 (mm_fld 7 17).2.2.1 ∈ mm_gw := by
  rw [fd_7_17]
  exact mm_gw_in (mm_ch2 (List.mem_of_getElem? (i := 75) (by rfl))) rfl
theorem fd_7_18 : mm_fld 7 18 = ("PaidSecrets$Town", "clashing", "[I", true) := by decide +kernel
set_option maxRecDepth 100000 in
theorem ww_425 : Cond.fieldLink RX8 68 (mm_fld 7 18).1 (mm_fld 7 18).2.1 (mm_fld 7 18).2.2.1 ∈ mm_gw := by
  rw [fd_7_18]
  exact mm_gw_in (mm_ch2 (List.mem_of_getElem? (i := 76) (by rfl))) rfl
set_option maxRecDepth 100000 in
theorem ww_426 : Cond.fieldLink RX11 202 (mm_fld 7 18).1 (mm_fld 7 18).2.1 (mm_fld 7 18).2.2.1 ∈ mm_gw := by
  rw [fd_7_18]
  exact mm_gw_in (mm_ch2 (List.mem_of_getElem? (i := 77) (by rfl))) rfl
set_option maxRecDepth 100000 in
theorem ww_427 : Cond.fieldLink RX9 214 (mm_fld 7 18).1 (mm_fld 7 18).2.1 (mm_fld 7 18).2.2.1 ∈ mm_gw := by
  rw [fd_7_18]
  exact mm_gw_in (mm_ch2 (List.mem_of_getElem? (i := 78) (by rfl))) rfl
theorem fd_7_19 : mm_fld 7 19 = ("PaidSecrets$Town", "law", "LPaidSecrets$Law;", true) := by decide +kernel
set_option maxRecDepth 100000 in
theorem ww_428 : Cond.fieldLink RX8 74 (mm_fld 7 19).1 (mm_fld 7 19).2.1 (mm_fld 7 19).2.2.1 ∈ mm_gw := by
  rw [fd_7_19]
  exact mm_gw_in (mm_ch2 (List.mem_of_getElem? (i := 79) (by rfl))) rfl
set_option maxRecDepth 100000 in
theorem ww_429 : Cond.fieldLink RX5 75 (mm_fld 7 19).1 (mm_fld 7 19).2.1 (mm_fld 7 19).2.2.1 ∈ mm_gw := by
  rw [fd_7_19]
  exact mm_gw_in (mm_ch2 (List.mem_of_getElem? (i := 80) (by rfl))) rfl
set_option maxRecDepth 100000 in
theorem ww_430 : Cond.fieldLink RX9 223 (mm_fld 7 19).1 (mm_fld 7 19).2.1 (mm_fld 7 19).2.2.1 ∈ mm_gw := by
  rw [fd_7_19]
  exact mm_gw_in (mm_ch2 (List.mem_of_getElem? (i := 81) (by rfl))) rfl
set_option maxRecDepth 100000 in
theorem ww_431 : Cond.lays RX8 "PaidSecrets$Town" "people" "I" ∈ mm_gw := mm_gw_in (mm_ch2 (List.mem_of_getElem? (i := 82) (by rfl))) rfl
set_option maxRecDepth 100000 in
theorem ww_433 : Cond.laysFinal RX8 "PaidSecrets$Town" "personName" "[J" ∈ mm_gw := mm_gw_in (mm_ch2 (List.mem_of_getElem? (i := 84) (by rfl))) rfl
set_option maxRecDepth 100000 in
theorem ww_435 : Cond.laysFinal RX8 "PaidSecrets$Town" "kind" "[I" ∈ mm_gw := mm_gw_in (mm_ch2 (List.mem_of_getElem? (i := 86) (by rfl))) rfl
set_option maxRecDepth 100000 in
theorem ww_437 : Cond.laysFinal RX8 "PaidSecrets$Town" "rank" "[I" ∈ mm_gw := mm_gw_in (mm_ch2 (List.mem_of_getElem? (i := 88) (by rfl))) rfl
set_option maxRecDepth 100000 in
theorem ww_439 : Cond.laysFinal RX8 "PaidSecrets$Town" "tax" "[I" ∈ mm_gw := mm_gw_in (mm_ch2 (List.mem_of_getElem? (i := 90) (by rfl))) rfl
set_option maxRecDepth 100000 in
theorem ww_441 : Cond.lays RX8 "PaidSecrets$Town" "priests" "I" ∈ mm_gw := mm_gw_in (mm_ch2 (List.mem_of_getElem? (i := 92) (by rfl))) rfl
set_option maxRecDepth 100000 in
theorem ww_443 : Cond.lays RX8 "PaidSecrets$Town" "secrets" "I" ∈ mm_gw := mm_gw_in (mm_ch2 (List.mem_of_getElem? (i := 94) (by rfl))) rfl
set_option maxRecDepth 100000 in
theorem ww_445 : Cond.laysFinal RX8 "PaidSecrets$Town" "secretName" "[J" ∈ mm_gw := mm_gw_in (mm_ch2 (List.mem_of_getElem? (i := 96) (by rfl))) rfl
set_option maxRecDepth 100000 in
theorem ww_447 : Cond.lays RX8 "PaidSecrets$Town" "falsehoods" "I" ∈ mm_gw := mm_gw_in (mm_ch2 (List.mem_of_getElem? (i := 98) (by rfl))) rfl
set_option maxRecDepth 100000 in
theorem ww_449 : Cond.laysFinal RX8 "PaidSecrets$Town" "ofWhom" "[I" ∈ mm_gw := mm_gw_in (mm_ch2 (List.mem_of_getElem? (i := 100) (by rfl))) rfl
set_option maxRecDepth 100000 in
theorem ww_451 : Cond.laysFinal RX8 "PaidSecrets$Town" "cost" "[I" ∈ mm_gw := mm_gw_in (mm_ch2 (List.mem_of_getElem? (i := 102) (by rfl))) rfl
set_option maxRecDepth 100000 in
theorem ww_453 : Cond.laysFinal RX8 "PaidSecrets$Town" "on" "[I" ∈ mm_gw := mm_gw_in (mm_ch2 (List.mem_of_getElem? (i := 104) (by rfl))) rfl
set_option maxRecDepth 100000 in
theorem ww_455 : Cond.laysFinal RX8 "PaidSecrets$Town" "knownBy" "[I" ∈ mm_gw := mm_gw_in (mm_ch2 (List.mem_of_getElem? (i := 106) (by rfl))) rfl
set_option maxRecDepth 100000 in
theorem ww_457 : Cond.lays RX8 "PaidSecrets$Town" "ears" "I" ∈ mm_gw := mm_gw_in (mm_ch2 (List.mem_of_getElem? (i := 108) (by rfl))) rfl
set_option maxRecDepth 100000 in
theorem ww_459 : Cond.laysFinal RX8 "PaidSecrets$Town" "earFrom" "[I" ∈ mm_gw := mm_gw_in (mm_ch2 (List.mem_of_getElem? (i := 110) (by rfl))) rfl
set_option maxRecDepth 100000 in
theorem ww_461 : Cond.laysFinal RX8 "PaidSecrets$Town" "earTo" "[I" ∈ mm_gw := mm_gw_in (mm_ch2 (List.mem_of_getElem? (i := 112) (by rfl))) rfl
set_option maxRecDepth 100000 in
theorem ww_463 : Cond.laysFinal RX8 "PaidSecrets$Town" "earChance" "[I" ∈ mm_gw := mm_gw_in (mm_ch2 (List.mem_of_getElem? (i := 114) (by rfl))) rfl
set_option maxRecDepth 100000 in
theorem ww_465 : Cond.lays RX8 "PaidSecrets$Town" "clashes" "I" ∈ mm_gw := mm_gw_in (mm_ch2 (List.mem_of_getElem? (i := 116) (by rfl))) rfl
set_option maxRecDepth 100000 in
theorem ww_467 : Cond.laysFinal RX8 "PaidSecrets$Town" "clashing" "[I" ∈ mm_gw := mm_gw_in (mm_ch2 (List.mem_of_getElem? (i := 118) (by rfl))) rfl
set_option maxRecDepth 100000 in
theorem ww_469 : Cond.laysFinal RX8 "PaidSecrets$Town" "law" "LPaidSecrets$Law;" ∈ mm_gw := mm_gw_in (mm_ch2 (List.mem_of_getElem? (i := 120) (by rfl))) rfl
theorem fd_8_0 : mm_fld 8 0 = ("PaidSecrets", "tape", "LPaidSecrets$Tape;", true) := by decide +kernel
set_option maxRecDepth 100000 in
theorem ww_472 : Cond.fieldLink RX11 12 (mm_fld 8 0).1 (mm_fld 8 0).2.1 (mm_fld 8 0).2.2.1 ∈ mm_gw := by
  rw [fd_8_0]
  exact mm_gw_in (mm_ch2 (List.mem_of_getElem? (i := 123) (by rfl))) rfl
theorem fd_8_1 : mm_fld 8 1 = ("PaidSecrets", "now", "LPaidSecrets$State;", true) := by decide +kernel
set_option maxRecDepth 100000 in
theorem ww_473 : Cond.fieldLink RX11 19 (mm_fld 8 1).1 (mm_fld 8 1).2.1 (mm_fld 8 1).2.2.1 ∈ mm_gw := by
  rw [fd_8_1]
  exact mm_gw_in (mm_ch2 (List.mem_of_getElem? (i := 124) (by rfl))) rfl
theorem fd_8_2 : mm_fld 8 2 = ("PaidSecrets", "trial", "LPaidSecrets$State;", true) := by decide +kernel
set_option maxRecDepth 100000 in
theorem ww_474 : Cond.fieldLink RX11 23 (mm_fld 8 2).1 (mm_fld 8 2).2.1 (mm_fld 8 2).2.2.1 ∈ mm_gw := by
  rw [fd_8_2]
  exact mm_gw_in (mm_ch2 (List.mem_of_getElem? (i := 125) (by rfl))) rfl
theorem fd_8_3 : mm_fld 8 3 = ("PaidSecrets", "talk", "LPaidSecrets$Talk;", true) := by decide +kernel
set_option maxRecDepth 100000 in
theorem ww_475 : Cond.fieldLink RX11 29 (mm_fld 8 3).1 (mm_fld 8 3).2.1 (mm_fld 8 3).2.2.1 ∈ mm_gw := by
  rw [fd_8_3]
  exact mm_gw_in (mm_ch2 (List.mem_of_getElem? (i := 126) (by rfl))) rfl
theorem fd_8_4 : mm_fld 8 4 = ("PaidSecrets", "draftTalk", "LPaidSecrets$Talk;", true) := by decide +kernel
set_option maxRecDepth 100000 in
theorem ww_476 : Cond.fieldLink RX11 33 (mm_fld 8 4).1 (mm_fld 8 4).2.1 (mm_fld 8 4).2.2.1 ∈ mm_gw := by
  rw [fd_8_4]
  exact mm_gw_in (mm_ch2 (List.mem_of_getElem? (i := 127) (by rfl))) rfl
theorem fd_8_5 : mm_fld 8 5 = ("PaidSecrets", "past", "[LPaidSecrets$State;", true) := by decide +kernel
set_option maxRecDepth 100000 in
theorem ww_477 : Cond.fieldLink RX11 36 (mm_fld 8 5).1 (mm_fld 8 5).2.1 (mm_fld 8 5).2.2.1 ∈ mm_gw := by
  rw [fd_8_5]
  exact mm_gw_in (mm_ch2 (List.mem_of_getElem? (i := 128) (by rfl))) rfl
theorem fd_8_6 : mm_fld 8 6 = ("PaidSecrets", "markStates", "[LPaidSecrets$State;", true) := by decide +kernel
set_option maxRecDepth 100000 in
theorem ww_478 : Cond.fieldLink RX11 40 (mm_fld 8 6).1 (mm_fld 8 6).2.1 (mm_fld 8 6).2.2.1 ∈ mm_gw := by
  rw [fd_8_6]
  exact mm_gw_in (mm_ch2 (List.mem_of_getElem? (i := 129) (by rfl))) rfl
theorem fd_8_7 : mm_fld 8 7 = ("PaidSecrets", "markTalks", "[LPaidSecrets$Talk;", true) := by decide +kernel
set_option maxRecDepth 100000 in
theorem ww_479 : Cond.fieldLink RX11 43 (mm_fld 8 7).1 (mm_fld 8 7).2.1 (mm_fld 8 7).2.2.1 ∈ mm_gw := by
  rw [fd_8_7]
  exact mm_gw_in (mm_ch2 (List.mem_of_getElem? (i := 130) (by rfl))) rfl
theorem fd_8_8 : mm_fld 8 8 = ("PaidSecrets", "collector", "LPaidSecrets$Collector;", true) := by decide +kernel
set_option maxRecDepth 100000 in
theorem ww_480 : Cond.fieldLink RX11 50 (mm_fld 8 8).1 (mm_fld 8 8).2.1 (mm_fld 8 8).2.2.1 ∈ mm_gw := by
  rw [fd_8_8]
  exact mm_gw_in (mm_ch2 (List.mem_of_getElem? (i := 131) (by rfl))) rfl
theorem fd_8_9 : mm_fld 8 9 = ("PaidSecrets", "feast", "LPaidSecrets$Feast;", true) := by decide +kernel
set_option maxRecDepth 100000 in
theorem ww_481 : Cond.fieldLink RX11 57 (mm_fld 8 9).1 (mm_fld 8 9).2.1 (mm_fld 8 9).2.2.1 ∈ mm_gw := by
  rw [fd_8_9]
  exact mm_gw_in (mm_ch2 (List.mem_of_getElem? (i := 132) (by rfl))) rfl
theorem fd_8_10 : mm_fld 8 10 = ("PaidSecrets", "passing", "LPaidSecrets$Nights;", true) := by decide +kernel
set_option maxRecDepth 100000 in
theorem ww_482 : Cond.fieldLink RX11 64 (mm_fld 8 10).1 (mm_fld 8 10).2.1 (mm_fld 8 10).2.2.1 ∈ mm_gw := by
  rw [fd_8_10]
  exact mm_gw_in (mm_ch2 (List.mem_of_getElem? (i := 133) (by rfl))) rfl
theorem fd_8_11 : mm_fld 8 11 = ("PaidSecrets", "worths", "[I", true) := by decide +kernel
set_option maxRecDepth 100000 in
theorem ww_483 : Cond.fieldLink RX11 68 (mm_fld 8 11).1 (mm_fld 8 11).2.1 (mm_fld 8 11).2.2.1 ∈ mm_gw := by
  rw [fd_8_11]
  exact mm_gw_in (mm_ch2 (List.mem_of_getElem? (i := 134) (by rfl))) rfl
theorem fd_8_12 : mm_fld 8 12 = ("PaidSecrets", "lawful", "[I", true) := by decide +kernel
set_option maxRecDepth 100000 in
theorem ww_484 : Cond.fieldLink RX11 72 (mm_fld 8 12).1 (mm_fld 8 12).2.1 (mm_fld 8 12).2.2.1 ∈ mm_gw := by
  rw [fd_8_12]
  exact mm_gw_in (mm_ch2 (List.mem_of_getElem? (i := 135) (by rfl))) rfl
theorem fd_8_13 : mm_fld 8 13 = ("PaidSecrets", "answers", "[I", true) := by decide +kernel
set_option maxRecDepth 100000 in
theorem ww_485 : Cond.fieldLink RX11 75 (mm_fld 8 13).1 (mm_fld 8 13).2.1 (mm_fld 8 13).2.2.1 ∈ mm_gw := by
  rw [fd_8_13]
  exact mm_gw_in (mm_ch2 (List.mem_of_getElem? (i := 136) (by rfl))) rfl
theorem fd_8_14 : mm_fld 8 14 = ("PaidSecrets", "here", "LPaidSecrets$Town;", false) := by decide +kernel
set_option maxRecDepth 100000 in
theorem ww_486 : Cond.fieldLink RX11 81 (mm_fld 8 14).1 (mm_fld 8 14).2.1 (mm_fld 8 14).2.2.1 ∈ mm_gw := by
  rw [fd_8_14]
  exact mm_gw_in (mm_ch2 (List.mem_of_getElem? (i := 137) (by rfl))) rfl
theorem fd_8_15 : mm_fld 8 15 = ("PaidSecrets", "draft", "LPaidSecrets$Town;", false) := by decide +kernel
set_option maxRecDepth 100000 in
theorem ww_487 : Cond.fieldLink RX11 85 (mm_fld 8 15).1 (mm_fld 8 15).2.1 (mm_fld 8 15).2.2.1 ∈ mm_gw := by
  rw [fd_8_15]
  exact mm_gw_in (mm_ch2 (List.mem_of_getElem? (i := 138) (by rfl))) rfl
theorem fd_8_16 : mm_fld 8 16 = ("PaidSecrets", "pasts", "I", false) := by decide +kernel
set_option maxRecDepth 100000 in
theorem ww_488 : Cond.fieldLink RX11 88 (mm_fld 8 16).1 (mm_fld 8 16).2.1 (mm_fld 8 16).2.2.1 ∈ mm_gw := by
  rw [fd_8_16]
  exact mm_gw_in (mm_ch2 (List.mem_of_getElem? (i := 139) (by rfl))) rfl
theorem fd_8_17 : mm_fld 8 17 = ("PaidSecrets", "pastEnd", "I", false) := by decide +kernel
set_option maxRecDepth 100000 in
theorem ww_489 : Cond.fieldLink RX11 92 (mm_fld 8 17).1 (mm_fld 8 17).2.1 (mm_fld 8 17).2.2.1 ∈ mm_gw := by
  rw [fd_8_17]
  exact mm_gw_in (mm_ch2 (List.mem_of_getElem? (i := 140) (by rfl))) rfl
theorem fd_8_18 : mm_fld 8 18 = ("PaidSecrets", "laid", "I", false) := by decide +kernel
set_option maxRecDepth 100000 in
theorem ww_490 : Cond.fieldLink RX11 95 (mm_fld 8 18).1 (mm_fld 8 18).2.1 (mm_fld 8 18).2.2.1 ∈ mm_gw := by
  rw [fd_8_18]
  exact mm_gw_in (mm_ch2 (List.mem_of_getElem? (i := 141) (by rfl))) rfl
theorem fd_8_19 : mm_fld 8 19 = ("PaidSecrets", "drawn", "J", false) := by decide +kernel
set_option maxRecDepth 100000 in
theorem ww_491 : Cond.fieldLink RX11 98 (mm_fld 8 19).1 (mm_fld 8 19).2.1 (mm_fld 8 19).2.2.1 ∈ mm_gw := by
  rw [fd_8_19]
  exact mm_gw_in (mm_ch2 (List.mem_of_getElem? (i := 142) (by rfl))) rfl
set_option maxRecDepth 100000 in
theorem ww_492 : Cond.laysFinal RX11 "PaidSecrets" "tape" "LPaidSecrets$Tape;" ∈ mm_gw := mm_gw_in (mm_ch2 (List.mem_of_getElem? (i := 143) (by rfl))) rfl
set_option maxRecDepth 100000 in
theorem ww_494 : Cond.laysFinal RX11 "PaidSecrets" "now" "LPaidSecrets$State;" ∈ mm_gw := mm_gw_in (mm_ch2 (List.mem_of_getElem? (i := 145) (by rfl))) rfl
set_option maxRecDepth 100000 in
theorem ww_496 : Cond.laysFinal RX11 "PaidSecrets" "trial" "LPaidSecrets$State;" ∈ mm_gw := mm_gw_in (mm_ch2 (List.mem_of_getElem? (i := 147) (by rfl))) rfl
set_option maxRecDepth 100000 in
theorem ww_498 : Cond.laysFinal RX11 "PaidSecrets" "talk" "LPaidSecrets$Talk;" ∈ mm_gw := mm_gw_in (mm_ch2 (List.mem_of_getElem? (i := 149) (by rfl))) rfl
set_option maxRecDepth 100000 in
theorem ww_500 : Cond.laysFinal RX11 "PaidSecrets" "draftTalk" "LPaidSecrets$Talk;" ∈ mm_gw := mm_gw_in (mm_ch2 (List.mem_of_getElem? (i := 151) (by rfl))) rfl
set_option maxRecDepth 100000 in
theorem ww_502 : Cond.laysFinal RX11 "PaidSecrets" "past" "[LPaidSecrets$State;" ∈ mm_gw := mm_gw_in (mm_ch2 (List.mem_of_getElem? (i := 153) (by rfl))) rfl
set_option maxRecDepth 100000 in
theorem ww_504 : Cond.laysFinal RX11 "PaidSecrets" "markStates" "[LPaidSecrets$State;" ∈ mm_gw := mm_gw_in (mm_ch2 (List.mem_of_getElem? (i := 155) (by rfl))) rfl
set_option maxRecDepth 100000 in
theorem ww_506 : Cond.laysFinal RX11 "PaidSecrets" "markTalks" "[LPaidSecrets$Talk;" ∈ mm_gw := mm_gw_in (mm_ch2 (List.mem_of_getElem? (i := 157) (by rfl))) rfl
set_option maxRecDepth 100000 in
theorem ww_508 : Cond.laysFinal RX11 "PaidSecrets" "collector" "LPaidSecrets$Collector;" ∈ mm_gw := mm_gw_in (mm_ch2 (List.mem_of_getElem? (i := 159) (by rfl))) rfl
set_option maxRecDepth 100000 in
theorem ww_510 : Cond.laysFinal RX11 "PaidSecrets" "feast" "LPaidSecrets$Feast;" ∈ mm_gw := mm_gw_in (mm_ch2 (List.mem_of_getElem? (i := 161) (by rfl))) rfl
set_option maxRecDepth 100000 in
theorem ww_512 : Cond.laysFinal RX11 "PaidSecrets" "passing" "LPaidSecrets$Nights;" ∈ mm_gw := mm_gw_in (mm_ch2 (List.mem_of_getElem? (i := 163) (by rfl))) rfl
set_option maxRecDepth 100000 in
theorem ww_514 : Cond.laysFinal RX11 "PaidSecrets" "worths" "[I" ∈ mm_gw := mm_gw_in (mm_ch2 (List.mem_of_getElem? (i := 165) (by rfl))) rfl
set_option maxRecDepth 100000 in
theorem ww_516 : Cond.laysFinal RX11 "PaidSecrets" "lawful" "[I" ∈ mm_gw := mm_gw_in (mm_ch2 (List.mem_of_getElem? (i := 167) (by rfl))) rfl
set_option maxRecDepth 100000 in
theorem ww_518 : Cond.laysFinal RX11 "PaidSecrets" "answers" "[I" ∈ mm_gw := mm_gw_in (mm_ch2 (List.mem_of_getElem? (i := 169) (by rfl))) rfl
set_option maxRecDepth 100000 in
theorem ww_520 : Cond.lays RX11 "PaidSecrets" "here" "LPaidSecrets$Town;" ∈ mm_gw := mm_gw_in (mm_ch2 (List.mem_of_getElem? (i := 171) (by rfl))) rfl
set_option maxRecDepth 100000 in
theorem ww_522 : Cond.lays RX11 "PaidSecrets" "draft" "LPaidSecrets$Town;" ∈ mm_gw := mm_gw_in (mm_ch2 (List.mem_of_getElem? (i := 173) (by rfl))) rfl
set_option maxRecDepth 100000 in
theorem ww_524 : Cond.lays RX11 "PaidSecrets" "pasts" "I" ∈ mm_gw := mm_gw_in (mm_ch2 (List.mem_of_getElem? (i := 175) (by rfl))) rfl
set_option maxRecDepth 100000 in
theorem ww_526 : Cond.lays RX11 "PaidSecrets" "pastEnd" "I" ∈ mm_gw := mm_gw_in (mm_ch2 (List.mem_of_getElem? (i := 177) (by rfl))) rfl
set_option maxRecDepth 100000 in
theorem ww_528 : Cond.lays RX11 "PaidSecrets" "laid" "I" ∈ mm_gw := mm_gw_in (mm_ch2 (List.mem_of_getElem? (i := 179) (by rfl))) rfl
set_option maxRecDepth 100000 in
theorem ww_530 : Cond.lays RX11 "PaidSecrets" "drawn" "J" ∈ mm_gw := mm_gw_in (mm_ch2 (List.mem_of_getElem? (i := 181) (by rfl))) rfl
set_option maxRecDepth 100000 in
theorem ww_537 : Cond.methodLink RX11 102 yX7_add ∈ mm_gw := mm_gw_in (mm_ch2 (List.mem_of_getElem? (i := 188) (by rfl))) rfl
set_option maxRecDepth 100000 in
theorem ww_538 : Cond.instanceMethod yX7_add ∈ mm_gw := mm_gw_in (mm_ch2 (List.mem_of_getElem? (i := 189) (by rfl))) rfl
set_option maxRecDepth 100000 in
theorem ww_539 : Cond.selects RX7 yX7_add yX7_add ∈ mm_gw := mm_gw_in (mm_ch2 (List.mem_of_getElem? (i := 190) (by rfl))) rfl
set_option maxRecDepth 100000 in
theorem ww_540 : Cond.code yX7_add cX7_add 6 (none) ∈ mm_gw := mm_gw_in (mm_ch2 (List.mem_of_getElem? (i := 191) (by rfl))) rfl
set_option maxRecDepth 100000 in
theorem ww_545 : Cond.methodLink RX11 109 yX9_readTown ∈ mm_gw := mm_gw_in (mm_ch2 (List.mem_of_getElem? (i := 196) (by rfl))) rfl
set_option maxRecDepth 100000 in
theorem ww_546 : Cond.static yX9_readTown ∈ mm_gw := mm_gw_in (mm_ch2 (List.mem_of_getElem? (i := 197) (by rfl))) rfl
set_option maxRecDepth 100000 in
theorem ww_547 : Cond.code yX9_readTown cX9_readTown 3 (some .int) ∈ mm_gw := mm_gw_in (mm_ch2 (List.mem_of_getElem? (i := 198) (by rfl))) rfl
set_option maxRecDepth 100000 in
theorem ww_548 : Cond.methodLink RX9 9 yX8_clear ∈ mm_gw := mm_gw_in (mm_ch2 (List.mem_of_getElem? (i := 199) (by rfl))) rfl
set_option maxRecDepth 100000 in
theorem ww_549 : Cond.instanceMethod yX8_clear ∈ mm_gw := mm_gw_in (mm_ch2 (List.mem_of_getElem? (i := 200) (by rfl))) rfl
set_option maxRecDepth 100000 in
theorem ww_550 : Cond.selects RX8 yX8_clear yX8_clear ∈ mm_gw := mm_gw_in (mm_ch2 (List.mem_of_getElem? (i := 201) (by rfl))) rfl
set_option maxRecDepth 100000 in
theorem ww_551 : Cond.code yX8_clear cX8_clear 1 (none) ∈ mm_gw := mm_gw_in (mm_ch2 (List.mem_of_getElem? (i := 202) (by rfl))) rfl
set_option maxRecDepth 100000 in
theorem ww_552 : Cond.methodLink RX8 81 yJ7_fill_53178 ∈ mm_gw := mm_gw_in (mm_ch2 (List.mem_of_getElem? (i := 203) (by rfl))) rfl
set_option maxRecDepth 100000 in
theorem ww_553 : Cond.static yJ7_fill_53178 ∈ mm_gw := mm_gw_in (mm_ch2 (List.mem_of_getElem? (i := 204) (by rfl))) rfl
set_option maxRecDepth 100000 in
theorem ww_554 : Cond.code yJ7_fill_53178 cJ7_fill_53178 4 (none) ∈ mm_gw := mm_gw_in (mm_ch2 (List.mem_of_getElem? (i := 205) (by rfl))) rfl
set_option maxRecDepth 100000 in
theorem ww_555 : Cond.methodLink RX9 14 yX7_rewind ∈ mm_gw := mm_gw_in (mm_ch2 (List.mem_of_getElem? (i := 206) (by rfl))) rfl
set_option maxRecDepth 100000 in
theorem ww_556 : Cond.instanceMethod yX7_rewind ∈ mm_gw := mm_gw_in (mm_ch2 (List.mem_of_getElem? (i := 207) (by rfl))) rfl
set_option maxRecDepth 100000 in
theorem ww_557 : Cond.selects RX7 yX7_rewind yX7_rewind ∈ mm_gw := mm_gw_in (mm_ch2 (List.mem_of_getElem? (i := 208) (by rfl))) rfl
set_option maxRecDepth 100000 in
theorem ww_558 : Cond.code yX7_rewind cX7_rewind 1 (none) ∈ mm_gw := mm_gw_in (mm_ch2 (List.mem_of_getElem? (i := 209) (by rfl))) rfl
set_option maxRecDepth 100000 in
theorem ww_559 : Cond.methodLink RX7 46 yX7_next ∈ mm_gw := mm_gw_in (mm_ch2 (List.mem_of_getElem? (i := 210) (by rfl))) rfl
set_option maxRecDepth 100000 in
theorem ww_560 : Cond.instanceMethod yX7_next ∈ mm_gw := mm_gw_in (mm_ch2 (List.mem_of_getElem? (i := 211) (by rfl))) rfl
set_option maxRecDepth 100000 in
theorem ww_561 : Cond.selects RX7 yX7_next yX7_next ∈ mm_gw := mm_gw_in (mm_ch2 (List.mem_of_getElem? (i := 212) (by rfl))) rfl
set_option maxRecDepth 100000 in
theorem ww_562 : Cond.code yX7_next cX7_next 2 (none) ∈ mm_gw := mm_gw_in (mm_ch2 (List.mem_of_getElem? (i := 213) (by rfl))) rfl
set_option maxRecDepth 100000 in
theorem ww_563 : Cond.methodLink RX7 49 yX7_scanWord ∈ mm_gw := mm_gw_in (mm_ch2 (List.mem_of_getElem? (i := 214) (by rfl))) rfl
set_option maxRecDepth 100000 in
theorem ww_565 : Cond.instanceMethod yX7_scanWord ∈ mm_gw := mm_gw_in (mm_ch2 (List.mem_of_getElem? (i := 216) (by rfl))) rfl
set_option maxRecDepth 100000 in
theorem ww_566 : Cond.code yX7_scanWord cX7_scanWord 2 (none) ∈ mm_gw := mm_gw_in (mm_ch2 (List.mem_of_getElem? (i := 217) (by rfl))) rfl
set_option maxRecDepth 100000 in
theorem ww_567 : Cond.constantLong RX7 63 32 ∈ mm_gw := mm_gw_in (mm_ch2 (List.mem_of_getElem? (i := 218) (by rfl))) rfl
set_option maxRecDepth 100000 in
theorem ww_568n : Cond.fieldLinkNest RX7 65 "PaidSecrets" "WORDS" "[LPaidSecrets$Word;" "PaidSecrets" ∈ mm_nw := mm_nw_in rfl (mm_ch2 (List.mem_of_getElem? (i := 219) (by rfl)))
set_option maxRecDepth 100000 in
theorem ww_570 : Cond.methodLink RX7 52 yX7_scanNumber ∈ mm_gw := mm_gw_in (mm_ch2 (List.mem_of_getElem? (i := 221) (by rfl))) rfl
set_option maxRecDepth 100000 in
theorem ww_572 : Cond.instanceMethod yX7_scanNumber ∈ mm_gw := mm_gw_in (mm_ch2 (List.mem_of_getElem? (i := 223) (by rfl))) rfl
set_option maxRecDepth 100000 in
theorem ww_573 : Cond.code yX7_scanNumber cX7_scanNumber 1 (none) ∈ mm_gw := mm_gw_in (mm_ch2 (List.mem_of_getElem? (i := 224) (by rfl))) rfl
set_option maxRecDepth 100000 in
theorem ww_575 : Cond.methodLink RX7 57 yJ0_indexOf_0f7a4 ∈ mm_gw := mm_gw_in (mm_ch2 (List.mem_of_getElem? (i := 226) (by rfl))) rfl
set_option maxRecDepth 100000 in
theorem ww_576 : Cond.instanceMethod yJ0_indexOf_0f7a4 ∈ mm_gw := mm_gw_in (mm_ch2 (List.mem_of_getElem? (i := 227) (by rfl))) rfl
set_option maxRecDepth 100000 in
theorem ww_577 : Cond.selects RJ0 yJ0_indexOf_0f7a4 yJ0_indexOf_0f7a4 ∈ mm_gw := mm_gw_in (mm_ch2 (List.mem_of_getElem? (i := 228) (by rfl))) rfl
set_option maxRecDepth 100000 in
theorem ww_578 : Cond.code yJ0_indexOf_0f7a4 cJ0_indexOf_0f7a4 2 (some .int) ∈ mm_gw := mm_gw_in (mm_ch2 (List.mem_of_getElem? (i := 229) (by rfl))) rfl
set_option maxRecDepth 100000 in
theorem ww_579 : Cond.methodLink RJ0 633 yJ0_indexOf_7cf53 ∈ mm_gw := mm_gw_in (mm_ch2 (List.mem_of_getElem? (i := 230) (by rfl))) rfl
set_option maxRecDepth 100000 in
theorem ww_580 : Cond.instanceMethod yJ0_indexOf_7cf53 ∈ mm_gw := mm_gw_in (mm_ch2 (List.mem_of_getElem? (i := 231) (by rfl))) rfl
set_option maxRecDepth 100000 in
theorem ww_581 : Cond.selects RJ0 yJ0_indexOf_7cf53 yJ0_indexOf_7cf53 ∈ mm_gw := mm_gw_in (mm_ch2 (List.mem_of_getElem? (i := 232) (by rfl))) rfl
set_option maxRecDepth 100000 in
theorem ww_582 : Cond.code yJ0_indexOf_7cf53 cJ0_indexOf_7cf53 3 (some .int) ∈ mm_gw := mm_gw_in (mm_ch2 (List.mem_of_getElem? (i := 233) (by rfl))) rfl
set_option maxRecDepth 100000 in
theorem ww_583 : Cond.methodLink RJ0 492 yJ0_isLatin1_aae02 ∈ mm_gw := mm_gw_in (mm_ch2 (List.mem_of_getElem? (i := 234) (by rfl))) rfl
set_option maxRecDepth 100000 in
theorem ww_584 : Cond.instanceMethod yJ0_isLatin1_aae02 ∈ mm_gw := mm_gw_in (mm_ch2 (List.mem_of_getElem? (i := 235) (by rfl))) rfl
set_option maxRecDepth 100000 in
theorem ww_585 : Cond.selects RJ0 yJ0_isLatin1_aae02 yJ0_isLatin1_aae02 ∈ mm_gw := mm_gw_in (mm_ch2 (List.mem_of_getElem? (i := 236) (by rfl))) rfl
set_option maxRecDepth 100000 in
theorem ww_586 : Cond.code yJ0_isLatin1_aae02 cJ0_isLatin1_aae02 1 (some .boolean) ∈ mm_gw := mm_gw_in (mm_ch2 (List.mem_of_getElem? (i := 237) (by rfl))) rfl
set_option maxRecDepth 100000 in
theorem ww_587 : Cond.fieldLink RJ0 38 "java/lang/String" "COMPACT_STRINGS" "Z" ∈ mm_gw := mm_gw_in (mm_ch2 (List.mem_of_getElem? (i := 238) (by rfl))) rfl
set_option maxRecDepth 100000 in
theorem ww_589 : Cond.methodLink RJ0 505 yJ0_length_8abf5 ∈ mm_gw := mm_gw_in (mm_ch3 (List.mem_of_getElem? (i := 0) (by rfl))) rfl
set_option maxRecDepth 100000 in
theorem ww_590 : Cond.instanceMethod yJ0_length_8abf5 ∈ mm_gw := mm_gw_in (mm_ch3 (List.mem_of_getElem? (i := 1) (by rfl))) rfl
set_option maxRecDepth 100000 in
theorem ww_591 : Cond.selects RJ0 yJ0_length_8abf5 yJ0_length_8abf5 ∈ mm_gw := mm_gw_in (mm_ch3 (List.mem_of_getElem? (i := 2) (by rfl))) rfl
set_option maxRecDepth 100000 in
theorem ww_592 : Cond.code yJ0_length_8abf5 cJ0_length_8abf5 1 (some .int) ∈ mm_gw := mm_gw_in (mm_ch3 (List.mem_of_getElem? (i := 3) (by rfl))) rfl
set_option maxRecDepth 100000 in
theorem ww_593 : Cond.methodLink RJ0 335 yJ0_coder_7d493 ∈ mm_gw := mm_gw_in (mm_ch3 (List.mem_of_getElem? (i := 4) (by rfl))) rfl
set_option maxRecDepth 100000 in
theorem ww_594 : Cond.instanceMethod yJ0_coder_7d493 ∈ mm_gw := mm_gw_in (mm_ch3 (List.mem_of_getElem? (i := 5) (by rfl))) rfl
set_option maxRecDepth 100000 in
theorem ww_595 : Cond.selects RJ0 yJ0_coder_7d493 yJ0_coder_7d493 ∈ mm_gw := mm_gw_in (mm_ch3 (List.mem_of_getElem? (i := 6) (by rfl))) rfl
set_option maxRecDepth 100000 in
theorem ww_596 : Cond.code yJ0_coder_7d493 cJ0_coder_7d493 1 (some .byte) ∈ mm_gw := mm_gw_in (mm_ch3 (List.mem_of_getElem? (i := 7) (by rfl))) rfl
set_option maxRecDepth 100000 in
theorem ww_597 : Cond.methodLink RJ0 637 yJ1_indexOf_4cfef ∈ mm_gw := mm_gw_in (mm_ch3 (List.mem_of_getElem? (i := 8) (by rfl))) rfl
set_option maxRecDepth 100000 in
theorem ww_598 : Cond.static yJ1_indexOf_4cfef ∈ mm_gw := mm_gw_in (mm_ch3 (List.mem_of_getElem? (i := 9) (by rfl))) rfl
set_option maxRecDepth 100000 in
theorem ww_599 : Cond.code yJ1_indexOf_4cfef cJ1_indexOf_4cfef 4 (some .int) ∈ mm_gw := mm_gw_in (mm_ch3 (List.mem_of_getElem? (i := 10) (by rfl))) rfl
set_option maxRecDepth 100000 in
theorem ww_600 : Cond.methodLink RJ1 88 yJ1_canEncode_9a6ad ∈ mm_gw := mm_gw_in (mm_ch3 (List.mem_of_getElem? (i := 11) (by rfl))) rfl
set_option maxRecDepth 100000 in
theorem ww_601 : Cond.static yJ1_canEncode_9a6ad ∈ mm_gw := mm_gw_in (mm_ch3 (List.mem_of_getElem? (i := 12) (by rfl))) rfl
set_option maxRecDepth 100000 in
theorem ww_602 : Cond.code yJ1_canEncode_9a6ad cJ1_canEncode_9a6ad 1 (some .boolean) ∈ mm_gw := mm_gw_in (mm_ch3 (List.mem_of_getElem? (i := 13) (by rfl))) rfl
set_option maxRecDepth 100000 in
theorem ww_603 : Cond.methodLink RJ1 92 yJ9_max_7cf53 ∈ mm_gw := mm_gw_in (mm_ch3 (List.mem_of_getElem? (i := 14) (by rfl))) rfl
set_option maxRecDepth 100000 in
theorem ww_604 : Cond.static yJ9_max_7cf53 ∈ mm_gw := mm_gw_in (mm_ch3 (List.mem_of_getElem? (i := 15) (by rfl))) rfl
set_option maxRecDepth 100000 in
theorem ww_605 : Cond.code yJ9_max_7cf53 cJ9_max_7cf53 2 (some .int) ∈ mm_gw := mm_gw_in (mm_ch3 (List.mem_of_getElem? (i := 16) (by rfl))) rfl
set_option maxRecDepth 100000 in
theorem ww_606 : Cond.methodLink RJ1 38 yJ9_min_7cf53 ∈ mm_gw := mm_gw_in (mm_ch3 (List.mem_of_getElem? (i := 17) (by rfl))) rfl
set_option maxRecDepth 100000 in
theorem ww_607 : Cond.static yJ9_min_7cf53 ∈ mm_gw := mm_gw_in (mm_ch3 (List.mem_of_getElem? (i := 18) (by rfl))) rfl
set_option maxRecDepth 100000 in
theorem ww_608 : Cond.code yJ9_min_7cf53 cJ9_min_7cf53 2 (some .int) ∈ mm_gw := mm_gw_in (mm_ch3 (List.mem_of_getElem? (i := 19) (by rfl))) rfl
set_option maxRecDepth 100000 in
theorem ww_609 : Cond.methodLink RJ1 95 yJ1_indexOfChar_4cfef ∈ mm_gw := mm_gw_in (mm_ch3 (List.mem_of_getElem? (i := 20) (by rfl))) rfl
set_option maxRecDepth 100000 in
theorem ww_610 : Cond.static yJ1_indexOfChar_4cfef ∈ mm_gw := mm_gw_in (mm_ch3 (List.mem_of_getElem? (i := 21) (by rfl))) rfl
set_option maxRecDepth 100000 in
theorem ww_611 : Cond.code yJ1_indexOfChar_4cfef cJ1_indexOfChar_4cfef 6 (some .int) ∈ mm_gw := mm_gw_in (mm_ch3 (List.mem_of_getElem? (i := 22) (by rfl))) rfl
set_option maxRecDepth 100000 in
theorem ww_661 : Cond.methodLink RX9 23 yX9_readLine ∈ mm_gw := mm_gw_in (mm_ch3 (List.mem_of_getElem? (i := 72) (by rfl))) rfl
set_option maxRecDepth 100000 in
theorem ww_662 : Cond.static yX9_readLine ∈ mm_gw := mm_gw_in (mm_ch3 (List.mem_of_getElem? (i := 73) (by rfl))) rfl
set_option maxRecDepth 100000 in
theorem ww_663 : Cond.code yX9_readLine cX9_readLine 2 (some .boolean) ∈ mm_gw := mm_gw_in (mm_ch3 (List.mem_of_getElem? (i := 74) (by rfl))) rfl
set_option maxRecDepth 100000 in
theorem ww_664 : Cond.fieldLink RX9 36 "PaidSecrets$Word" "PERSON" "LPaidSecrets$Word;" ∈ mm_gw := mm_gw_in (mm_ch3 (List.mem_of_getElem? (i := 75) (by rfl))) rfl
set_option maxRecDepth 100000 in
theorem ww_666 : Cond.methodLink RX9 41 yX9_readPerson ∈ mm_gw := mm_gw_in (mm_ch3 (List.mem_of_getElem? (i := 77) (by rfl))) rfl
set_option maxRecDepth 100000 in
theorem ww_667 : Cond.static yX9_readPerson ∈ mm_gw := mm_gw_in (mm_ch3 (List.mem_of_getElem? (i := 78) (by rfl))) rfl
set_option maxRecDepth 100000 in
theorem ww_668 : Cond.code yX9_readPerson cX9_readPerson 3 (some .boolean) ∈ mm_gw := mm_gw_in (mm_ch3 (List.mem_of_getElem? (i := 79) (by rfl))) rfl
set_option maxRecDepth 100000 in
theorem ww_669 : Cond.methodLink RX9 68 yX7_wrong ∈ mm_gw := mm_gw_in (mm_ch3 (List.mem_of_getElem? (i := 80) (by rfl))) rfl
set_option maxRecDepth 100000 in
theorem ww_670 : Cond.instanceMethod yX7_wrong ∈ mm_gw := mm_gw_in (mm_ch3 (List.mem_of_getElem? (i := 81) (by rfl))) rfl
set_option maxRecDepth 100000 in
theorem ww_671 : Cond.selects RX7 yX7_wrong yX7_wrong ∈ mm_gw := mm_gw_in (mm_ch3 (List.mem_of_getElem? (i := 82) (by rfl))) rfl
set_option maxRecDepth 100000 in
theorem ww_672 : Cond.code yX7_wrong cX7_wrong 2 (some .boolean) ∈ mm_gw := mm_gw_in (mm_ch3 (List.mem_of_getElem? (i := 83) (by rfl))) rfl
set_option maxRecDepth 100000 in
theorem ww_673 : Cond.methodLink RX9 87 yX7_next ∈ mm_gw := mm_gw_in (mm_ch3 (List.mem_of_getElem? (i := 84) (by rfl))) rfl
set_option maxRecDepth 100000 in
theorem ww_674 : Cond.methodLink RX9 109 yX9_takeNewName ∈ mm_gw := mm_gw_in (mm_ch3 (List.mem_of_getElem? (i := 85) (by rfl))) rfl
set_option maxRecDepth 100000 in
theorem ww_675 : Cond.static yX9_takeNewName ∈ mm_gw := mm_gw_in (mm_ch3 (List.mem_of_getElem? (i := 86) (by rfl))) rfl
set_option maxRecDepth 100000 in
theorem ww_676 : Cond.code yX9_takeNewName cX9_takeNewName 2 (some .boolean) ∈ mm_gw := mm_gw_in (mm_ch3 (List.mem_of_getElem? (i := 87) (by rfl))) rfl
set_option maxRecDepth 100000 in
theorem ww_677 : Cond.methodLink RX9 72 yX7_isName ∈ mm_gw := mm_gw_in (mm_ch3 (List.mem_of_getElem? (i := 88) (by rfl))) rfl
set_option maxRecDepth 100000 in
theorem ww_678 : Cond.instanceMethod yX7_isName ∈ mm_gw := mm_gw_in (mm_ch3 (List.mem_of_getElem? (i := 89) (by rfl))) rfl
set_option maxRecDepth 100000 in
theorem ww_679 : Cond.selects RX7 yX7_isName yX7_isName ∈ mm_gw := mm_gw_in (mm_ch3 (List.mem_of_getElem? (i := 90) (by rfl))) rfl
set_option maxRecDepth 100000 in
theorem ww_680 : Cond.code yX7_isName cX7_isName 1 (some .boolean) ∈ mm_gw := mm_gw_in (mm_ch3 (List.mem_of_getElem? (i := 91) (by rfl))) rfl
set_option maxRecDepth 100000 in
theorem ww_681 : Cond.methodLink RX9 80 yX8_findPerson ∈ mm_gw := mm_gw_in (mm_ch3 (List.mem_of_getElem? (i := 92) (by rfl))) rfl
set_option maxRecDepth 100000 in
theorem ww_682 : Cond.instanceMethod yX8_findPerson ∈ mm_gw := mm_gw_in (mm_ch3 (List.mem_of_getElem? (i := 93) (by rfl))) rfl
set_option maxRecDepth 100000 in
theorem ww_683 : Cond.selects RX8 yX8_findPerson yX8_findPerson ∈ mm_gw := mm_gw_in (mm_ch3 (List.mem_of_getElem? (i := 94) (by rfl))) rfl
set_option maxRecDepth 100000 in
theorem ww_684 : Cond.code yX8_findPerson cX8_findPerson 4 (some .int) ∈ mm_gw := mm_gw_in (mm_ch3 (List.mem_of_getElem? (i := 95) (by rfl))) rfl
set_option maxRecDepth 100000 in
theorem ww_685 : Cond.methodLink RX9 84 yX8_findSecret ∈ mm_gw := mm_gw_in (mm_ch3 (List.mem_of_getElem? (i := 96) (by rfl))) rfl
set_option maxRecDepth 100000 in
theorem ww_686 : Cond.instanceMethod yX8_findSecret ∈ mm_gw := mm_gw_in (mm_ch3 (List.mem_of_getElem? (i := 97) (by rfl))) rfl
set_option maxRecDepth 100000 in
theorem ww_687 : Cond.selects RX8 yX8_findSecret yX8_findSecret ∈ mm_gw := mm_gw_in (mm_ch3 (List.mem_of_getElem? (i := 98) (by rfl))) rfl
set_option maxRecDepth 100000 in
theorem ww_688 : Cond.code yX8_findSecret cX8_findSecret 4 (some .int) ∈ mm_gw := mm_gw_in (mm_ch3 (List.mem_of_getElem? (i := 99) (by rfl))) rfl
set_option maxRecDepth 100000 in
theorem ww_689 : Cond.methodLink RX9 115 yX9_kindOf ∈ mm_gw := mm_gw_in (mm_ch3 (List.mem_of_getElem? (i := 100) (by rfl))) rfl
set_option maxRecDepth 100000 in
theorem ww_690 : Cond.static yX9_kindOf ∈ mm_gw := mm_gw_in (mm_ch3 (List.mem_of_getElem? (i := 101) (by rfl))) rfl
set_option maxRecDepth 100000 in
theorem ww_691 : Cond.code yX9_kindOf cX9_kindOf 1 (some .int) ∈ mm_gw := mm_gw_in (mm_ch3 (List.mem_of_getElem? (i := 102) (by rfl))) rfl
set_option maxRecDepth 100000 in
theorem ww_692 : Cond.fieldLink RX9 90 "PaidSecrets$Word" "PLAIN" "LPaidSecrets$Word;" ∈ mm_gw := mm_gw_in (mm_ch3 (List.mem_of_getElem? (i := 103) (by rfl))) rfl
set_option maxRecDepth 100000 in
theorem ww_694 : Cond.fieldLink RX9 93 "PaidSecrets$Word" "GOSSIP" "LPaidSecrets$Word;" ∈ mm_gw := mm_gw_in (mm_ch3 (List.mem_of_getElem? (i := 105) (by rfl))) rfl
set_option maxRecDepth 100000 in
theorem ww_696 : Cond.fieldLink RX9 96 "PaidSecrets$Word" "DEAF" "LPaidSecrets$Word;" ∈ mm_gw := mm_gw_in (mm_ch3 (List.mem_of_getElem? (i := 107) (by rfl))) rfl
set_option maxRecDepth 100000 in
theorem ww_698 : Cond.fieldLink RX9 99 "PaidSecrets$Word" "PRIEST" "LPaidSecrets$Word;" ∈ mm_gw := mm_gw_in (mm_ch3 (List.mem_of_getElem? (i := 109) (by rfl))) rfl
set_option maxRecDepth 100000 in
theorem ww_700 : Cond.fieldLink RX9 122 "PaidSecrets$Word" "RANK" "LPaidSecrets$Word;" ∈ mm_gw := mm_gw_in (mm_ch3 (List.mem_of_getElem? (i := 111) (by rfl))) rfl
set_option maxRecDepth 100000 in
theorem ww_702 : Cond.methodLink RX9 125 yX7_takeWord ∈ mm_gw := mm_gw_in (mm_ch3 (List.mem_of_getElem? (i := 113) (by rfl))) rfl
set_option maxRecDepth 100000 in
theorem ww_703 : Cond.instanceMethod yX7_takeWord ∈ mm_gw := mm_gw_in (mm_ch3 (List.mem_of_getElem? (i := 114) (by rfl))) rfl
set_option maxRecDepth 100000 in
theorem ww_704 : Cond.selects RX7 yX7_takeWord yX7_takeWord ∈ mm_gw := mm_gw_in (mm_ch3 (List.mem_of_getElem? (i := 115) (by rfl))) rfl
set_option maxRecDepth 100000 in
theorem ww_705 : Cond.code yX7_takeWord cX7_takeWord 2 (some .boolean) ∈ mm_gw := mm_gw_in (mm_ch3 (List.mem_of_getElem? (i := 116) (by rfl))) rfl
set_option maxRecDepth 100000 in
theorem ww_706 : Cond.methodLink RX7 75 yX7_wrong ∈ mm_gw := mm_gw_in (mm_ch3 (List.mem_of_getElem? (i := 117) (by rfl))) rfl
set_option maxRecDepth 100000 in
theorem ww_707 : Cond.methodLink RX9 129 yX7_takeNumber ∈ mm_gw := mm_gw_in (mm_ch3 (List.mem_of_getElem? (i := 118) (by rfl))) rfl
set_option maxRecDepth 100000 in
theorem ww_708 : Cond.instanceMethod yX7_takeNumber ∈ mm_gw := mm_gw_in (mm_ch3 (List.mem_of_getElem? (i := 119) (by rfl))) rfl
set_option maxRecDepth 100000 in
theorem ww_709 : Cond.selects RX7 yX7_takeNumber yX7_takeNumber ∈ mm_gw := mm_gw_in (mm_ch3 (List.mem_of_getElem? (i := 120) (by rfl))) rfl
set_option maxRecDepth 100000 in
theorem ww_710 : Cond.code yX7_takeNumber cX7_takeNumber 4 (some .int) ∈ mm_gw := mm_gw_in (mm_ch3 (List.mem_of_getElem? (i := 121) (by rfl))) rfl
set_option maxRecDepth 100000 in
theorem ww_711 : Cond.fieldLink RX9 136 "PaidSecrets$Word" "TAX" "LPaidSecrets$Word;" ∈ mm_gw := mm_gw_in (mm_ch3 (List.mem_of_getElem? (i := 122) (by rfl))) rfl
set_option maxRecDepth 100000 in
theorem ww_713 : Cond.methodLink RX9 139 yX7_takeSign ∈ mm_gw := mm_gw_in (mm_ch3 (List.mem_of_getElem? (i := 124) (by rfl))) rfl
set_option maxRecDepth 100000 in
theorem ww_714 : Cond.instanceMethod yX7_takeSign ∈ mm_gw := mm_gw_in (mm_ch3 (List.mem_of_getElem? (i := 125) (by rfl))) rfl
set_option maxRecDepth 100000 in
theorem ww_715 : Cond.selects RX7 yX7_takeSign yX7_takeSign ∈ mm_gw := mm_gw_in (mm_ch3 (List.mem_of_getElem? (i := 126) (by rfl))) rfl
set_option maxRecDepth 100000 in
theorem ww_716 : Cond.code yX7_takeSign cX7_takeSign 2 (some .boolean) ∈ mm_gw := mm_gw_in (mm_ch3 (List.mem_of_getElem? (i := 127) (by rfl))) rfl
set_option maxRecDepth 100000 in
theorem ww_717 : Cond.methodLink RX7 79 yX7_isSign ∈ mm_gw := mm_gw_in (mm_ch3 (List.mem_of_getElem? (i := 128) (by rfl))) rfl
set_option maxRecDepth 100000 in
theorem ww_718 : Cond.instanceMethod yX7_isSign ∈ mm_gw := mm_gw_in (mm_ch3 (List.mem_of_getElem? (i := 129) (by rfl))) rfl
set_option maxRecDepth 100000 in
theorem ww_719 : Cond.selects RX7 yX7_isSign yX7_isSign ∈ mm_gw := mm_gw_in (mm_ch3 (List.mem_of_getElem? (i := 130) (by rfl))) rfl
set_option maxRecDepth 100000 in
theorem ww_720 : Cond.code yX7_isSign cX7_isSign 2 (some .boolean) ∈ mm_gw := mm_gw_in (mm_ch3 (List.mem_of_getElem? (i := 131) (by rfl))) rfl
set_option maxRecDepth 100000 in
theorem ww_721 : Cond.fieldLink RX9 44 "PaidSecrets$Word" "SECRET" "LPaidSecrets$Word;" ∈ mm_gw := mm_gw_in (mm_ch3 (List.mem_of_getElem? (i := 132) (by rfl))) rfl
set_option maxRecDepth 100000 in
theorem ww_723 : Cond.methodLink RX9 47 yX9_readSecret ∈ mm_gw := mm_gw_in (mm_ch3 (List.mem_of_getElem? (i := 134) (by rfl))) rfl
set_option maxRecDepth 100000 in
theorem ww_724 : Cond.static yX9_readSecret ∈ mm_gw := mm_gw_in (mm_ch3 (List.mem_of_getElem? (i := 135) (by rfl))) rfl
set_option maxRecDepth 100000 in
theorem ww_725 : Cond.code yX9_readSecret cX9_readSecret 3 (some .boolean) ∈ mm_gw := mm_gw_in (mm_ch3 (List.mem_of_getElem? (i := 136) (by rfl))) rfl
set_option maxRecDepth 100000 in
theorem ww_726 : Cond.fieldLink RX9 152 "PaidSecrets$Word" "TRUE" "LPaidSecrets$Word;" ∈ mm_gw := mm_gw_in (mm_ch3 (List.mem_of_getElem? (i := 137) (by rfl))) rfl
set_option maxRecDepth 100000 in
theorem ww_728 : Cond.fieldLink RX9 155 "PaidSecrets$Word" "FALSE" "LPaidSecrets$Word;" ∈ mm_gw := mm_gw_in (mm_ch3 (List.mem_of_getElem? (i := 139) (by rfl))) rfl
set_option maxRecDepth 100000 in
theorem ww_730 : Cond.methodLink RX9 161 yX9_readOf ∈ mm_gw := mm_gw_in (mm_ch3 (List.mem_of_getElem? (i := 141) (by rfl))) rfl
set_option maxRecDepth 100000 in
theorem ww_731 : Cond.static yX9_readOf ∈ mm_gw := mm_gw_in (mm_ch3 (List.mem_of_getElem? (i := 142) (by rfl))) rfl
set_option maxRecDepth 100000 in
theorem ww_732 : Cond.code yX9_readOf cX9_readOf 3 (some .boolean) ∈ mm_gw := mm_gw_in (mm_ch3 (List.mem_of_getElem? (i := 143) (by rfl))) rfl
set_option maxRecDepth 100000 in
theorem ww_733 : Cond.fieldLink RX9 178 "PaidSecrets$Word" "OF" "LPaidSecrets$Word;" ∈ mm_gw := mm_gw_in (mm_ch3 (List.mem_of_getElem? (i := 144) (by rfl))) rfl
set_option maxRecDepth 100000 in
theorem ww_735 : Cond.methodLink RX9 184 yX8_takeTold ∈ mm_gw := mm_gw_in (mm_ch3 (List.mem_of_getElem? (i := 146) (by rfl))) rfl
set_option maxRecDepth 100000 in
theorem ww_736 : Cond.instanceMethod yX8_takeTold ∈ mm_gw := mm_gw_in (mm_ch3 (List.mem_of_getElem? (i := 147) (by rfl))) rfl
set_option maxRecDepth 100000 in
theorem ww_737 : Cond.selects RX8 yX8_takeTold yX8_takeTold ∈ mm_gw := mm_gw_in (mm_ch3 (List.mem_of_getElem? (i := 148) (by rfl))) rfl
set_option maxRecDepth 100000 in
theorem ww_738 : Cond.code yX8_takeTold cX8_takeTold 4 (some .int) ∈ mm_gw := mm_gw_in (mm_ch3 (List.mem_of_getElem? (i := 149) (by rfl))) rfl
set_option maxRecDepth 100000 in
theorem ww_739 : Cond.methodLink RX8 126 yX8_findTold ∈ mm_gw := mm_gw_in (mm_ch3 (List.mem_of_getElem? (i := 150) (by rfl))) rfl
set_option maxRecDepth 100000 in
theorem ww_740 : Cond.instanceMethod yX8_findTold ∈ mm_gw := mm_gw_in (mm_ch3 (List.mem_of_getElem? (i := 151) (by rfl))) rfl
set_option maxRecDepth 100000 in
theorem ww_741 : Cond.selects RX8 yX8_findTold yX8_findTold ∈ mm_gw := mm_gw_in (mm_ch3 (List.mem_of_getElem? (i := 152) (by rfl))) rfl
set_option maxRecDepth 100000 in
theorem ww_742 : Cond.code yX8_findTold cX8_findTold 4 (some .int) ∈ mm_gw := mm_gw_in (mm_ch3 (List.mem_of_getElem? (i := 153) (by rfl))) rfl
set_option maxRecDepth 100000 in
theorem ww_743 : Cond.methodLink RX8 106 yX7_isName ∈ mm_gw := mm_gw_in (mm_ch3 (List.mem_of_getElem? (i := 154) (by rfl))) rfl
set_option maxRecDepth 100000 in
theorem ww_744 : Cond.methodLink RX8 112 yX7_wrong ∈ mm_gw := mm_gw_in (mm_ch3 (List.mem_of_getElem? (i := 155) (by rfl))) rfl
set_option maxRecDepth 100000 in
theorem ww_745 : Cond.methodLink RX8 119 yX8_findPerson ∈ mm_gw := mm_gw_in (mm_ch3 (List.mem_of_getElem? (i := 156) (by rfl))) rfl
set_option maxRecDepth 100000 in
theorem ww_746 : Cond.methodLink RX8 123 yX8_findSecret ∈ mm_gw := mm_gw_in (mm_ch3 (List.mem_of_getElem? (i := 157) (by rfl))) rfl
set_option maxRecDepth 100000 in
theorem ww_747 : Cond.methodLink RX8 130 yX7_next ∈ mm_gw := mm_gw_in (mm_ch3 (List.mem_of_getElem? (i := 158) (by rfl))) rfl
set_option maxRecDepth 100000 in
theorem ww_748 : Cond.fieldLink RX9 190 "PaidSecrets$Word" "COSTS" "LPaidSecrets$Word;" ∈ mm_gw := mm_gw_in (mm_ch3 (List.mem_of_getElem? (i := 159) (by rfl))) rfl
set_option maxRecDepth 100000 in
theorem ww_750 : Cond.methodLink RX9 165 yX9_readOn ∈ mm_gw := mm_gw_in (mm_ch3 (List.mem_of_getElem? (i := 161) (by rfl))) rfl
set_option maxRecDepth 100000 in
theorem ww_751 : Cond.static yX9_readOn ∈ mm_gw := mm_gw_in (mm_ch3 (List.mem_of_getElem? (i := 162) (by rfl))) rfl
set_option maxRecDepth 100000 in
theorem ww_752 : Cond.code yX9_readOn cX9_readOn 3 (some .boolean) ∈ mm_gw := mm_gw_in (mm_ch3 (List.mem_of_getElem? (i := 163) (by rfl))) rfl
set_option maxRecDepth 100000 in
theorem ww_753 : Cond.fieldLink RX9 196 "PaidSecrets$Word" "ON" "LPaidSecrets$Word;" ∈ mm_gw := mm_gw_in (mm_ch3 (List.mem_of_getElem? (i := 164) (by rfl))) rfl
set_option maxRecDepth 100000 in
theorem ww_755 : Cond.fieldLink RX9 168 "PaidSecrets$Word" "BY" "LPaidSecrets$Word;" ∈ mm_gw := mm_gw_in (mm_ch3 (List.mem_of_getElem? (i := 166) (by rfl))) rfl
set_option maxRecDepth 100000 in
theorem ww_757 : Cond.methodLink RX9 174 yX8_takeSet ∈ mm_gw := mm_gw_in (mm_ch3 (List.mem_of_getElem? (i := 168) (by rfl))) rfl
set_option maxRecDepth 100000 in
theorem ww_758 : Cond.instanceMethod yX8_takeSet ∈ mm_gw := mm_gw_in (mm_ch3 (List.mem_of_getElem? (i := 169) (by rfl))) rfl
set_option maxRecDepth 100000 in
theorem ww_759 : Cond.selects RX8 yX8_takeSet yX8_takeSet ∈ mm_gw := mm_gw_in (mm_ch3 (List.mem_of_getElem? (i := 170) (by rfl))) rfl
set_option maxRecDepth 100000 in
theorem ww_760 : Cond.code yX8_takeSet cX8_takeSet 6 (some .int) ∈ mm_gw := mm_gw_in (mm_ch3 (List.mem_of_getElem? (i := 171) (by rfl))) rfl
set_option maxRecDepth 100000 in
theorem ww_761 : Cond.methodLink RX8 133 yX7_isSign ∈ mm_gw := mm_gw_in (mm_ch3 (List.mem_of_getElem? (i := 172) (by rfl))) rfl
set_option maxRecDepth 100000 in
theorem ww_762n : Cond.methodLinkNest RX8 103 yX11_bit "PaidSecrets" ∈ mm_nw := mm_nw_in rfl (mm_ch3 (List.mem_of_getElem? (i := 173) (by rfl)))
set_option maxRecDepth 100000 in
theorem ww_763 : Cond.static yX11_bit ∈ mm_gw := mm_gw_in (mm_ch3 (List.mem_of_getElem? (i := 174) (by rfl))) rfl
set_option maxRecDepth 100000 in
theorem ww_764 : Cond.code yX11_bit cX11_bit 2 (some .int) ∈ mm_gw := mm_gw_in (mm_ch3 (List.mem_of_getElem? (i := 175) (by rfl))) rfl
set_option maxRecDepth 100000 in
theorem ww_765 : Cond.methodLink RX8 137 yX7_takeSign ∈ mm_gw := mm_gw_in (mm_ch3 (List.mem_of_getElem? (i := 176) (by rfl))) rfl
set_option maxRecDepth 100000 in
theorem ww_766 : Cond.fieldLink RX9 50 "PaidSecrets$Word" "EAR" "LPaidSecrets$Word;" ∈ mm_gw := mm_gw_in (mm_ch3 (List.mem_of_getElem? (i := 177) (by rfl))) rfl
set_option maxRecDepth 100000 in
theorem ww_768 : Cond.methodLink RX9 53 yX9_readEar ∈ mm_gw := mm_gw_in (mm_ch3 (List.mem_of_getElem? (i := 179) (by rfl))) rfl
set_option maxRecDepth 100000 in
theorem ww_769 : Cond.static yX9_readEar ∈ mm_gw := mm_gw_in (mm_ch3 (List.mem_of_getElem? (i := 180) (by rfl))) rfl
set_option maxRecDepth 100000 in
theorem ww_770 : Cond.code yX9_readEar cX9_readEar 5 (some .boolean) ∈ mm_gw := mm_gw_in (mm_ch3 (List.mem_of_getElem? (i := 181) (by rfl))) rfl
set_option maxRecDepth 100000 in
theorem ww_771 : Cond.methodLink RX9 199 yX8_findTold ∈ mm_gw := mm_gw_in (mm_ch3 (List.mem_of_getElem? (i := 182) (by rfl))) rfl
set_option maxRecDepth 100000 in
theorem ww_772 : Cond.fieldLink RX9 56 "PaidSecrets$Word" "CLASH" "LPaidSecrets$Word;" ∈ mm_gw := mm_gw_in (mm_ch3 (List.mem_of_getElem? (i := 183) (by rfl))) rfl
set_option maxRecDepth 100000 in
theorem ww_774 : Cond.methodLink RX9 59 yX9_readClash ∈ mm_gw := mm_gw_in (mm_ch3 (List.mem_of_getElem? (i := 185) (by rfl))) rfl
set_option maxRecDepth 100000 in
theorem ww_775 : Cond.static yX9_readClash ∈ mm_gw := mm_gw_in (mm_ch3 (List.mem_of_getElem? (i := 186) (by rfl))) rfl
set_option maxRecDepth 100000 in
theorem ww_776 : Cond.code yX9_readClash cX9_readClash 4 (some .boolean) ∈ mm_gw := mm_gw_in (mm_ch3 (List.mem_of_getElem? (i := 187) (by rfl))) rfl
set_option maxRecDepth 100000 in
theorem ww_777n : Cond.methodLinkNest RX9 217 yX11_bit "PaidSecrets" ∈ mm_nw := mm_nw_in rfl (mm_ch3 (List.mem_of_getElem? (i := 188) (by rfl)))
set_option maxRecDepth 100000 in
theorem ww_778 : Cond.fieldLink RX9 62 "PaidSecrets$Word" "WORTH" "LPaidSecrets$Word;" ∈ mm_gw := mm_gw_in (mm_ch3 (List.mem_of_getElem? (i := 189) (by rfl))) rfl
set_option maxRecDepth 100000 in
theorem ww_780 : Cond.methodLink RX9 65 yX9_readWorth ∈ mm_gw := mm_gw_in (mm_ch3 (List.mem_of_getElem? (i := 191) (by rfl))) rfl
set_option maxRecDepth 100000 in
theorem ww_781 : Cond.static yX9_readWorth ∈ mm_gw := mm_gw_in (mm_ch3 (List.mem_of_getElem? (i := 192) (by rfl))) rfl
set_option maxRecDepth 100000 in
theorem ww_782 : Cond.code yX9_readWorth cX9_readWorth 2 (some .boolean) ∈ mm_gw := mm_gw_in (mm_ch3 (List.mem_of_getElem? (i := 193) (by rfl))) rfl
set_option maxRecDepth 100000 in
theorem ww_783n : Cond.methodLinkNest RX9 232 yX3_readAll "PaidSecrets" ∈ mm_nw := mm_nw_in rfl (mm_ch3 (List.mem_of_getElem? (i := 194) (by rfl)))
set_option maxRecDepth 100000 in
theorem ww_785 : Cond.instanceMethod yX3_readAll ∈ mm_gw := mm_gw_in (mm_ch3 (List.mem_of_getElem? (i := 196) (by rfl))) rfl
set_option maxRecDepth 100000 in
theorem ww_786 : Cond.code yX3_readAll cX3_readAll 5 (some .boolean) ∈ mm_gw := mm_gw_in (mm_ch3 (List.mem_of_getElem? (i := 197) (by rfl))) rfl
set_option maxRecDepth 100000 in
theorem ww_787 : Cond.methodLink RX3 22 yX3_readTest ∈ mm_gw := mm_gw_in (mm_ch3 (List.mem_of_getElem? (i := 198) (by rfl))) rfl
set_option maxRecDepth 100000 in
theorem ww_789 : Cond.instanceMethod yX3_readTest ∈ mm_gw := mm_gw_in (mm_ch3 (List.mem_of_getElem? (i := 200) (by rfl))) rfl
set_option maxRecDepth 100000 in
theorem ww_790 : Cond.code yX3_readTest cX3_readTest 4 (some .boolean) ∈ mm_gw := mm_gw_in (mm_ch3 (List.mem_of_getElem? (i := 201) (by rfl))) rfl
set_option maxRecDepth 100000 in
theorem ww_791 : Cond.methodLink RX3 45 yX3_readSum ∈ mm_gw := mm_gw_in (mm_ch3 (List.mem_of_getElem? (i := 202) (by rfl))) rfl
set_option maxRecDepth 100000 in
theorem ww_793 : Cond.instanceMethod yX3_readSum ∈ mm_gw := mm_gw_in (mm_ch3 (List.mem_of_getElem? (i := 204) (by rfl))) rfl
set_option maxRecDepth 100000 in
theorem ww_794 : Cond.code yX3_readSum cX3_readSum 5 (some .boolean) ∈ mm_gw := mm_gw_in (mm_ch3 (List.mem_of_getElem? (i := 205) (by rfl))) rfl
set_option maxRecDepth 100000 in
theorem ww_795 : Cond.methodLink RX3 52 yX3_readProduct ∈ mm_gw := mm_gw_in (mm_ch3 (List.mem_of_getElem? (i := 206) (by rfl))) rfl
set_option maxRecDepth 100000 in
theorem ww_797 : Cond.instanceMethod yX3_readProduct ∈ mm_gw := mm_gw_in (mm_ch3 (List.mem_of_getElem? (i := 208) (by rfl))) rfl
set_option maxRecDepth 100000 in
theorem ww_798 : Cond.code yX3_readProduct cX3_readProduct 4 (some .boolean) ∈ mm_gw := mm_gw_in (mm_ch3 (List.mem_of_getElem? (i := 209) (by rfl))) rfl
set_option maxRecDepth 100000 in
theorem ww_799 : Cond.methodLink RX3 55 yX3_readPart ∈ mm_gw := mm_gw_in (mm_ch3 (List.mem_of_getElem? (i := 210) (by rfl))) rfl
set_option maxRecDepth 100000 in
theorem ww_801 : Cond.instanceMethod yX3_readPart ∈ mm_gw := mm_gw_in (mm_ch3 (List.mem_of_getElem? (i := 212) (by rfl))) rfl
set_option maxRecDepth 100000 in
theorem ww_802 : Cond.code yX3_readPart cX3_readPart 6 (some .boolean) ∈ mm_gw := mm_gw_in (mm_ch3 (List.mem_of_getElem? (i := 213) (by rfl))) rfl
set_option maxRecDepth 100000 in
theorem ww_803 : Cond.fieldLink RX3 58 "PaidSecrets$Word" "NOT" "LPaidSecrets$Word;" ∈ mm_gw := mm_gw_in (mm_ch3 (List.mem_of_getElem? (i := 214) (by rfl))) rfl
set_option maxRecDepth 100000 in
theorem ww_805 : Cond.methodLink RX3 48 yX7_isSign ∈ mm_gw := mm_gw_in (mm_ch3 (List.mem_of_getElem? (i := 216) (by rfl))) rfl
set_option maxRecDepth 100000 in
theorem ww_806 : Cond.methodLink RX3 67 yX7_wrong ∈ mm_gw := mm_gw_in (mm_ch3 (List.mem_of_getElem? (i := 217) (by rfl))) rfl
set_option maxRecDepth 100000 in
theorem ww_807 : Cond.methodLink RX3 38 yX7_next ∈ mm_gw := mm_gw_in (mm_ch3 (List.mem_of_getElem? (i := 218) (by rfl))) rfl
set_option maxRecDepth 100000 in
theorem ww_808 : Cond.methodLink RX3 41 yX3_put ∈ mm_gw := mm_gw_in (mm_ch3 (List.mem_of_getElem? (i := 219) (by rfl))) rfl
set_option maxRecDepth 100000 in
theorem ww_810 : Cond.instanceMethod yX3_put ∈ mm_gw := mm_gw_in (mm_ch3 (List.mem_of_getElem? (i := 221) (by rfl))) rfl
set_option maxRecDepth 100000 in
theorem ww_811 : Cond.code yX3_put cX3_put 2 (none) ∈ mm_gw := mm_gw_in (mm_ch3 (List.mem_of_getElem? (i := 222) (by rfl))) rfl
set_option maxRecDepth 100000 in
theorem ww_812 : Cond.methodLink RX3 71 yX3_readAll ∈ mm_gw := mm_gw_in (mm_ch3 (List.mem_of_getElem? (i := 223) (by rfl))) rfl
set_option maxRecDepth 100000 in
theorem ww_813 : Cond.methodLink RX3 74 yX7_takeSign ∈ mm_gw := mm_gw_in (mm_ch3 (List.mem_of_getElem? (i := 224) (by rfl))) rfl
set_option maxRecDepth 100000 in
theorem ww_814 : Cond.fieldLink RX3 30 "PaidSecrets$Word" "AND" "LPaidSecrets$Word;" ∈ mm_gw := mm_gw_in (mm_ch3 (List.mem_of_getElem? (i := 225) (by rfl))) rfl
set_option maxRecDepth 100000 in
theorem ww_816 : Cond.fieldLink RX3 35 "PaidSecrets$Word" "OR" "LPaidSecrets$Word;" ∈ mm_gw := mm_gw_in (mm_ch3 (List.mem_of_getElem? (i := 227) (by rfl))) rfl
set_option maxRecDepth 100000 in
theorem ww_818 : Cond.methodLink RX11 115 yX7_clear ∈ mm_gw := mm_gw_in (mm_ch3 (List.mem_of_getElem? (i := 229) (by rfl))) rfl
set_option maxRecDepth 100000 in
theorem ww_819 : Cond.instanceMethod yX7_clear ∈ mm_gw := mm_gw_in (mm_ch3 (List.mem_of_getElem? (i := 230) (by rfl))) rfl
set_option maxRecDepth 100000 in
theorem ww_820 : Cond.selects RX7 yX7_clear yX7_clear ∈ mm_gw := mm_gw_in (mm_ch3 (List.mem_of_getElem? (i := 231) (by rfl))) rfl
set_option maxRecDepth 100000 in
theorem ww_821 : Cond.code yX7_clear cX7_clear 1 (none) ∈ mm_gw := mm_gw_in (mm_ch3 (List.mem_of_getElem? (i := 232) (by rfl))) rfl
set_option maxRecDepth 100000 in
theorem ww_822 : Cond.methodLink RX11 118 yX5_begin ∈ mm_gw := mm_gw_in (mm_ch3 (List.mem_of_getElem? (i := 233) (by rfl))) rfl
set_option maxRecDepth 100000 in
theorem ww_823 : Cond.instanceMethod yX5_begin ∈ mm_gw := mm_gw_in (mm_ch3 (List.mem_of_getElem? (i := 234) (by rfl))) rfl
set_option maxRecDepth 100000 in
theorem ww_824 : Cond.selects RX5 yX5_begin yX5_begin ∈ mm_gw := mm_gw_in (mm_ch3 (List.mem_of_getElem? (i := 235) (by rfl))) rfl
set_option maxRecDepth 100000 in
theorem ww_825 : Cond.code yX5_begin cX5_begin 2 (none) ∈ mm_gw := mm_gw_in (mm_ch3 (List.mem_of_getElem? (i := 236) (by rfl))) rfl
set_option maxRecDepth 100000 in
theorem ww_826 : Cond.methodLink RX5 49 arraycopyName ∈ mm_gw := mm_gw_in (mm_ch3 (List.mem_of_getElem? (i := 237) (by rfl))) rfl
set_option maxRecDepth 100000 in
theorem ww_827 : Cond.static arraycopyName ∈ mm_gw := mm_gw_in (mm_ch3 (List.mem_of_getElem? (i := 238) (by rfl))) rfl
set_option maxRecDepth 100000 in
theorem ww_828 : Cond.native arraycopyName ∈ mm_gw := mm_gw_in (mm_ch3 (List.mem_of_getElem? (i := 239) (by rfl))) rfl
set_option maxRecDepth 100000 in
theorem ww_829 : Cond.methodLink RX5 56 yJ7_fill_d0a16 ∈ mm_gw := mm_gw_in (mm_ch4 (List.mem_of_getElem? (i := 0) (by rfl))) rfl
set_option maxRecDepth 100000 in
theorem ww_830 : Cond.static yJ7_fill_d0a16 ∈ mm_gw := mm_gw_in (mm_ch4 (List.mem_of_getElem? (i := 1) (by rfl))) rfl
set_option maxRecDepth 100000 in
theorem ww_831 : Cond.code yJ7_fill_d0a16 cJ7_fill_d0a16 5 (none) ∈ mm_gw := mm_gw_in (mm_ch4 (List.mem_of_getElem? (i := 2) (by rfl))) rfl
set_option maxRecDepth 100000 in
theorem ww_832 : Cond.methodLink RX5 62 yJ7_fill_53178 ∈ mm_gw := mm_gw_in (mm_ch4 (List.mem_of_getElem? (i := 3) (by rfl))) rfl
set_option maxRecDepth 100000 in
theorem ww_833 : Cond.methodLink RX11 122 yX6_clear ∈ mm_gw := mm_gw_in (mm_ch4 (List.mem_of_getElem? (i := 4) (by rfl))) rfl
set_option maxRecDepth 100000 in
theorem ww_834 : Cond.instanceMethod yX6_clear ∈ mm_gw := mm_gw_in (mm_ch4 (List.mem_of_getElem? (i := 5) (by rfl))) rfl
set_option maxRecDepth 100000 in
theorem ww_835 : Cond.selects RX6 yX6_clear yX6_clear ∈ mm_gw := mm_gw_in (mm_ch4 (List.mem_of_getElem? (i := 6) (by rfl))) rfl
set_option maxRecDepth 100000 in
theorem ww_836 : Cond.code yX6_clear cX6_clear 1 (none) ∈ mm_gw := mm_gw_in (mm_ch4 (List.mem_of_getElem? (i := 7) (by rfl))) rfl
set_option maxRecDepth 100000 in
theorem ww_842 : Cond.methodLink RX11 123 yX2_readGossip ∈ mm_gw := mm_gw_in (mm_ch4 (List.mem_of_getElem? (i := 13) (by rfl))) rfl
set_option maxRecDepth 100000 in
theorem ww_843 : Cond.static yX2_readGossip ∈ mm_gw := mm_gw_in (mm_ch4 (List.mem_of_getElem? (i := 14) (by rfl))) rfl
set_option maxRecDepth 100000 in
theorem ww_844 : Cond.code yX2_readGossip cX2_readGossip 4 (some .int) ∈ mm_gw := mm_gw_in (mm_ch4 (List.mem_of_getElem? (i := 15) (by rfl))) rfl
set_option maxRecDepth 100000 in
theorem ww_845 : Cond.methodLink RX2 9 yX6_clear ∈ mm_gw := mm_gw_in (mm_ch4 (List.mem_of_getElem? (i := 16) (by rfl))) rfl
set_option maxRecDepth 100000 in
theorem ww_846 : Cond.methodLink RX2 14 yX7_rewind ∈ mm_gw := mm_gw_in (mm_ch4 (List.mem_of_getElem? (i := 17) (by rfl))) rfl
set_option maxRecDepth 100000 in
theorem ww_847 : Cond.methodLink RX2 23 yX2_readLine ∈ mm_gw := mm_gw_in (mm_ch4 (List.mem_of_getElem? (i := 18) (by rfl))) rfl
set_option maxRecDepth 100000 in
theorem ww_848 : Cond.static yX2_readLine ∈ mm_gw := mm_gw_in (mm_ch4 (List.mem_of_getElem? (i := 19) (by rfl))) rfl
set_option maxRecDepth 100000 in
theorem ww_849 : Cond.code yX2_readLine cX2_readLine 5 (some .boolean) ∈ mm_gw := mm_gw_in (mm_ch4 (List.mem_of_getElem? (i := 20) (by rfl))) rfl
set_option maxRecDepth 100000 in
theorem ww_850 : Cond.fieldLink RX2 36 "PaidSecrets$Word" "TELL" "LPaidSecrets$Word;" ∈ mm_gw := mm_gw_in (mm_ch4 (List.mem_of_getElem? (i := 21) (by rfl))) rfl
set_option maxRecDepth 100000 in
theorem ww_852 : Cond.fieldLink RX2 41 "PaidSecrets$Word" "PAY" "LPaidSecrets$Word;" ∈ mm_gw := mm_gw_in (mm_ch4 (List.mem_of_getElem? (i := 23) (by rfl))) rfl
set_option maxRecDepth 100000 in
theorem ww_854 : Cond.fieldLink RX2 44 "PaidSecrets$Word" "RISE" "LPaidSecrets$Word;" ∈ mm_gw := mm_gw_in (mm_ch4 (List.mem_of_getElem? (i := 25) (by rfl))) rfl
set_option maxRecDepth 100000 in
theorem ww_856 : Cond.fieldLink RX2 47 "PaidSecrets$Word" "QUARTER" "LPaidSecrets$Word;" ∈ mm_gw := mm_gw_in (mm_ch4 (List.mem_of_getElem? (i := 27) (by rfl))) rfl
set_option maxRecDepth 100000 in
theorem ww_858 : Cond.methodLink RX2 50 yX7_wrong ∈ mm_gw := mm_gw_in (mm_ch4 (List.mem_of_getElem? (i := 29) (by rfl))) rfl
set_option maxRecDepth 100000 in
theorem ww_859 : Cond.methodLink RX2 57 yX7_next ∈ mm_gw := mm_gw_in (mm_ch4 (List.mem_of_getElem? (i := 30) (by rfl))) rfl
set_option maxRecDepth 100000 in
theorem ww_860 : Cond.methodLink RX2 60 yX6_addLine ∈ mm_gw := mm_gw_in (mm_ch4 (List.mem_of_getElem? (i := 31) (by rfl))) rfl
set_option maxRecDepth 100000 in
theorem ww_861 : Cond.instanceMethod yX6_addLine ∈ mm_gw := mm_gw_in (mm_ch4 (List.mem_of_getElem? (i := 32) (by rfl))) rfl
set_option maxRecDepth 100000 in
theorem ww_862 : Cond.selects RX6 yX6_addLine yX6_addLine ∈ mm_gw := mm_gw_in (mm_ch4 (List.mem_of_getElem? (i := 33) (by rfl))) rfl
set_option maxRecDepth 100000 in
theorem ww_863 : Cond.code yX6_addLine cX6_addLine 5 (none) ∈ mm_gw := mm_gw_in (mm_ch4 (List.mem_of_getElem? (i := 34) (by rfl))) rfl
set_option maxRecDepth 100000 in
theorem ww_864 : Cond.methodLink RX2 64 yX7_takeSign ∈ mm_gw := mm_gw_in (mm_ch4 (List.mem_of_getElem? (i := 35) (by rfl))) rfl
set_option maxRecDepth 100000 in
theorem ww_865 : Cond.methodLink RX2 68 yX8_takeTold ∈ mm_gw := mm_gw_in (mm_ch4 (List.mem_of_getElem? (i := 36) (by rfl))) rfl
set_option maxRecDepth 100000 in
theorem ww_866 : Cond.methodLink RX2 74 yX2_readTell ∈ mm_gw := mm_gw_in (mm_ch4 (List.mem_of_getElem? (i := 37) (by rfl))) rfl
set_option maxRecDepth 100000 in
theorem ww_867 : Cond.static yX2_readTell ∈ mm_gw := mm_gw_in (mm_ch4 (List.mem_of_getElem? (i := 38) (by rfl))) rfl
set_option maxRecDepth 100000 in
theorem ww_868 : Cond.code yX2_readTell cX2_readTell 6 (some .boolean) ∈ mm_gw := mm_gw_in (mm_ch4 (List.mem_of_getElem? (i := 39) (by rfl))) rfl
set_option maxRecDepth 100000 in
theorem ww_869 : Cond.methodLink RX2 81 yX8_findTold ∈ mm_gw := mm_gw_in (mm_ch4 (List.mem_of_getElem? (i := 40) (by rfl))) rfl
set_option maxRecDepth 100000 in
theorem ww_870 : Cond.methodLink RX2 78 yX2_readPay ∈ mm_gw := mm_gw_in (mm_ch4 (List.mem_of_getElem? (i := 41) (by rfl))) rfl
set_option maxRecDepth 100000 in
theorem ww_871 : Cond.static yX2_readPay ∈ mm_gw := mm_gw_in (mm_ch4 (List.mem_of_getElem? (i := 42) (by rfl))) rfl
set_option maxRecDepth 100000 in
theorem ww_872 : Cond.code yX2_readPay cX2_readPay 5 (some .boolean) ∈ mm_gw := mm_gw_in (mm_ch4 (List.mem_of_getElem? (i := 43) (by rfl))) rfl
set_option maxRecDepth 100000 in
theorem ww_873 : Cond.methodLink RX2 84 yX8_takeSet ∈ mm_gw := mm_gw_in (mm_ch4 (List.mem_of_getElem? (i := 44) (by rfl))) rfl
set_option maxRecDepth 100000 in
theorem ww_874 : Cond.methodLink RX11 129 yX6_copyLines ∈ mm_gw := mm_gw_in (mm_ch4 (List.mem_of_getElem? (i := 45) (by rfl))) rfl
set_option maxRecDepth 100000 in
theorem ww_875 : Cond.instanceMethod yX6_copyLines ∈ mm_gw := mm_gw_in (mm_ch4 (List.mem_of_getElem? (i := 46) (by rfl))) rfl
set_option maxRecDepth 100000 in
theorem ww_876 : Cond.selects RX6 yX6_copyLines yX6_copyLines ∈ mm_gw := mm_gw_in (mm_ch4 (List.mem_of_getElem? (i := 47) (by rfl))) rfl
set_option maxRecDepth 100000 in
theorem ww_877 : Cond.code yX6_copyLines cX6_copyLines 2 (none) ∈ mm_gw := mm_gw_in (mm_ch4 (List.mem_of_getElem? (i := 48) (by rfl))) rfl
set_option maxRecDepth 100000 in
theorem ww_878 : Cond.methodLink RX6 37 arraycopyName ∈ mm_gw := mm_gw_in (mm_ch4 (List.mem_of_getElem? (i := 49) (by rfl))) rfl
set_option maxRecDepth 100000 in
theorem ww_883 : Cond.methodLink RX11 174 yX8_hasSecret ∈ mm_gw := mm_gw_in (mm_ch4 (List.mem_of_getElem? (i := 54) (by rfl))) rfl
set_option maxRecDepth 100000 in
theorem ww_884 : Cond.instanceMethod yX8_hasSecret ∈ mm_gw := mm_gw_in (mm_ch4 (List.mem_of_getElem? (i := 55) (by rfl))) rfl
set_option maxRecDepth 100000 in
theorem ww_885 : Cond.selects RX8 yX8_hasSecret yX8_hasSecret ∈ mm_gw := mm_gw_in (mm_ch4 (List.mem_of_getElem? (i := 56) (by rfl))) rfl
set_option maxRecDepth 100000 in
theorem ww_886 : Cond.code yX8_hasSecret cX8_hasSecret 2 (some .boolean) ∈ mm_gw := mm_gw_in (mm_ch4 (List.mem_of_getElem? (i := 57) (by rfl))) rfl
set_option maxRecDepth 100000 in
theorem ww_887 : Cond.methodLink RX11 164 yX11_bit ∈ mm_gw := mm_gw_in (mm_ch4 (List.mem_of_getElem? (i := 58) (by rfl))) rfl
set_option maxRecDepth 100000 in
theorem ww_888 : Cond.methodLink RX11 192 yX8_knowers ∈ mm_gw := mm_gw_in (mm_ch4 (List.mem_of_getElem? (i := 59) (by rfl))) rfl
set_option maxRecDepth 100000 in
theorem ww_889 : Cond.instanceMethod yX8_knowers ∈ mm_gw := mm_gw_in (mm_ch4 (List.mem_of_getElem? (i := 60) (by rfl))) rfl
set_option maxRecDepth 100000 in
theorem ww_890 : Cond.selects RX8 yX8_knowers yX8_knowers ∈ mm_gw := mm_gw_in (mm_ch4 (List.mem_of_getElem? (i := 61) (by rfl))) rfl
set_option maxRecDepth 100000 in
theorem ww_891 : Cond.code yX8_knowers cX8_knowers 2 (some .int) ∈ mm_gw := mm_gw_in (mm_ch4 (List.mem_of_getElem? (i := 62) (by rfl))) rfl
set_option maxRecDepth 100000 in
theorem ww_892 : Cond.methodLink RX8 91 yJ6_bitCount_0f7a4 ∈ mm_gw := mm_gw_in (mm_ch4 (List.mem_of_getElem? (i := 63) (by rfl))) rfl
set_option maxRecDepth 100000 in
theorem ww_893 : Cond.static yJ6_bitCount_0f7a4 ∈ mm_gw := mm_gw_in (mm_ch4 (List.mem_of_getElem? (i := 64) (by rfl))) rfl
set_option maxRecDepth 100000 in
theorem ww_894 : Cond.code yJ6_bitCount_0f7a4 cJ6_bitCount_0f7a4 1 (some .int) ∈ mm_gw := mm_gw_in (mm_ch4 (List.mem_of_getElem? (i := 65) (by rfl))) rfl
set_option maxRecDepth 100000 in
theorem ww_895 : Cond.constant RJ6 265 1431655765 ∈ mm_gw := mm_gw_in (mm_ch4 (List.mem_of_getElem? (i := 66) (by rfl))) rfl
set_option maxRecDepth 100000 in
theorem ww_896 : Cond.constant RJ6 266 858993459 ∈ mm_gw := mm_gw_in (mm_ch4 (List.mem_of_getElem? (i := 67) (by rfl))) rfl
set_option maxRecDepth 100000 in
theorem ww_897 : Cond.constant RJ6 267 252645135 ∈ mm_gw := mm_gw_in (mm_ch4 (List.mem_of_getElem? (i := 68) (by rfl))) rfl
set_option maxRecDepth 100000 in
theorem ww_898 : Cond.methodLink RX11 153 yX11_weighed ∈ mm_gw := mm_gw_in (mm_ch4 (List.mem_of_getElem? (i := 69) (by rfl))) rfl
set_option maxRecDepth 100000 in
theorem ww_900 : Cond.instanceMethod yX11_weighed ∈ mm_gw := mm_gw_in (mm_ch4 (List.mem_of_getElem? (i := 71) (by rfl))) rfl
set_option maxRecDepth 100000 in
theorem ww_901 : Cond.code yX11_weighed cX11_weighed 2 (some (.array .int)) ∈ mm_gw := mm_gw_in (mm_ch4 (List.mem_of_getElem? (i := 72) (by rfl))) rfl
set_option maxRecDepth 100000 in
theorem ww_902 : Cond.methodLink RX11 344 yX5_weigh ∈ mm_gw := mm_gw_in (mm_ch4 (List.mem_of_getElem? (i := 73) (by rfl))) rfl
set_option maxRecDepth 100000 in
theorem ww_903 : Cond.instanceMethod yX5_weigh ∈ mm_gw := mm_gw_in (mm_ch4 (List.mem_of_getElem? (i := 74) (by rfl))) rfl
set_option maxRecDepth 100000 in
theorem ww_904 : Cond.selects RX5 yX5_weigh yX5_weigh ∈ mm_gw := mm_gw_in (mm_ch4 (List.mem_of_getElem? (i := 75) (by rfl))) rfl
set_option maxRecDepth 100000 in
theorem ww_905 : Cond.code yX5_weigh cX5_weigh 5 (none) ∈ mm_gw := mm_gw_in (mm_ch4 (List.mem_of_getElem? (i := 76) (by rfl))) rfl
set_option maxRecDepth 100000 in
theorem ww_906n : Cond.methodLinkNest RX5 68 yX11_bit "PaidSecrets" ∈ mm_nw := mm_nw_in rfl (mm_ch4 (List.mem_of_getElem? (i := 77) (by rfl)))
set_option maxRecDepth 100000 in
theorem ww_907 : Cond.methodLink RX5 102 yX8_knowers ∈ mm_gw := mm_gw_in (mm_ch4 (List.mem_of_getElem? (i := 78) (by rfl))) rfl
set_option maxRecDepth 100000 in
theorem ww_908 : Cond.methodLink RX5 106 yX5_lawWorth ∈ mm_gw := mm_gw_in (mm_ch4 (List.mem_of_getElem? (i := 79) (by rfl))) rfl
set_option maxRecDepth 100000 in
theorem ww_909 : Cond.instanceMethod yX5_lawWorth ∈ mm_gw := mm_gw_in (mm_ch4 (List.mem_of_getElem? (i := 80) (by rfl))) rfl
set_option maxRecDepth 100000 in
theorem ww_910 : Cond.selects RX5 yX5_lawWorth yX5_lawWorth ∈ mm_gw := mm_gw_in (mm_ch4 (List.mem_of_getElem? (i := 81) (by rfl))) rfl
set_option maxRecDepth 100000 in
theorem ww_911 : Cond.code yX5_lawWorth cX5_lawWorth 6 (some .int) ∈ mm_gw := mm_gw_in (mm_ch4 (List.mem_of_getElem? (i := 82) (by rfl))) rfl
set_option maxRecDepth 100000 in
theorem ww_912 : Cond.methodLink RX5 84 yJ9_max_7cf53 ∈ mm_gw := mm_gw_in (mm_ch4 (List.mem_of_getElem? (i := 83) (by rfl))) rfl
set_option maxRecDepth 100000 in
theorem ww_913 : Cond.methodLink RX5 92 yX3_value ∈ mm_gw := mm_gw_in (mm_ch4 (List.mem_of_getElem? (i := 84) (by rfl))) rfl
set_option maxRecDepth 100000 in
theorem ww_914 : Cond.instanceMethod yX3_value ∈ mm_gw := mm_gw_in (mm_ch4 (List.mem_of_getElem? (i := 85) (by rfl))) rfl
set_option maxRecDepth 100000 in
theorem ww_915 : Cond.selects RX3 yX3_value yX3_value ∈ mm_gw := mm_gw_in (mm_ch4 (List.mem_of_getElem? (i := 86) (by rfl))) rfl
set_option maxRecDepth 100000 in
theorem ww_916 : Cond.code yX3_value cX3_value 8 (some .int) ∈ mm_gw := mm_gw_in (mm_ch4 (List.mem_of_getElem? (i := 87) (by rfl))) rfl
set_option maxRecDepth 100000 in
theorem ww_917 : Cond.methodLink RX3 80 yX3_operand ∈ mm_gw := mm_gw_in (mm_ch4 (List.mem_of_getElem? (i := 88) (by rfl))) rfl
set_option maxRecDepth 100000 in
theorem ww_918 : Cond.static yX3_operand ∈ mm_gw := mm_gw_in (mm_ch4 (List.mem_of_getElem? (i := 89) (by rfl))) rfl
set_option maxRecDepth 100000 in
theorem ww_919 : Cond.code yX3_operand cX3_operand 5 (some .int) ∈ mm_gw := mm_gw_in (mm_ch4 (List.mem_of_getElem? (i := 90) (by rfl))) rfl
set_option maxRecDepth 100000 in
theorem ww_920 : Cond.methodLink RX3 84 yX3_joined ∈ mm_gw := mm_gw_in (mm_ch4 (List.mem_of_getElem? (i := 91) (by rfl))) rfl
set_option maxRecDepth 100000 in
theorem ww_921 : Cond.static yX3_joined ∈ mm_gw := mm_gw_in (mm_ch4 (List.mem_of_getElem? (i := 92) (by rfl))) rfl
set_option maxRecDepth 100000 in
theorem ww_922 : Cond.code yX3_joined cX3_joined 3 (some .int) ∈ mm_gw := mm_gw_in (mm_ch4 (List.mem_of_getElem? (i := 93) (by rfl))) rfl
set_option maxRecDepth 100000 in
theorem ww_923 : Cond.methodLink RX5 96 yJ9_min_7cf53 ∈ mm_gw := mm_gw_in (mm_ch4 (List.mem_of_getElem? (i := 94) (by rfl))) rfl
set_option maxRecDepth 100000 in
theorem ww_928 : Cond.methodLink RX11 205 yX8_hasPair ∈ mm_gw := mm_gw_in (mm_ch4 (List.mem_of_getElem? (i := 99) (by rfl))) rfl
set_option maxRecDepth 100000 in
theorem ww_929 : Cond.instanceMethod yX8_hasPair ∈ mm_gw := mm_gw_in (mm_ch4 (List.mem_of_getElem? (i := 100) (by rfl))) rfl
set_option maxRecDepth 100000 in
theorem ww_930 : Cond.selects RX8 yX8_hasPair yX8_hasPair ∈ mm_gw := mm_gw_in (mm_ch4 (List.mem_of_getElem? (i := 101) (by rfl))) rfl
set_option maxRecDepth 100000 in
theorem ww_931 : Cond.code yX8_hasPair cX8_hasPair 3 (some .boolean) ∈ mm_gw := mm_gw_in (mm_ch4 (List.mem_of_getElem? (i := 102) (by rfl))) rfl
set_option maxRecDepth 100000 in
theorem ww_932 : Cond.methodLink RX8 87 yX8_hasPerson ∈ mm_gw := mm_gw_in (mm_ch4 (List.mem_of_getElem? (i := 103) (by rfl))) rfl
set_option maxRecDepth 100000 in
theorem ww_933 : Cond.instanceMethod yX8_hasPerson ∈ mm_gw := mm_gw_in (mm_ch4 (List.mem_of_getElem? (i := 104) (by rfl))) rfl
set_option maxRecDepth 100000 in
theorem ww_934 : Cond.selects RX8 yX8_hasPerson yX8_hasPerson ∈ mm_gw := mm_gw_in (mm_ch4 (List.mem_of_getElem? (i := 105) (by rfl))) rfl
set_option maxRecDepth 100000 in
theorem ww_935 : Cond.code yX8_hasPerson cX8_hasPerson 2 (some .boolean) ∈ mm_gw := mm_gw_in (mm_ch4 (List.mem_of_getElem? (i := 106) (by rfl))) rfl
set_option maxRecDepth 100000 in
theorem ww_936 : Cond.methodLink RX11 209 yX5_isAware ∈ mm_gw := mm_gw_in (mm_ch4 (List.mem_of_getElem? (i := 107) (by rfl))) rfl
set_option maxRecDepth 100000 in
theorem ww_937 : Cond.instanceMethod yX5_isAware ∈ mm_gw := mm_gw_in (mm_ch4 (List.mem_of_getElem? (i := 108) (by rfl))) rfl
set_option maxRecDepth 100000 in
theorem ww_938 : Cond.selects RX5 yX5_isAware yX5_isAware ∈ mm_gw := mm_gw_in (mm_ch4 (List.mem_of_getElem? (i := 109) (by rfl))) rfl
set_option maxRecDepth 100000 in
theorem ww_939 : Cond.code yX5_isAware cX5_isAware 4 (some .boolean) ∈ mm_gw := mm_gw_in (mm_ch4 (List.mem_of_getElem? (i := 110) (by rfl))) rfl
set_option maxRecDepth 100000 in
theorem ww_944 : Cond.methodLink RX11 213 yX8_chance ∈ mm_gw := mm_gw_in (mm_ch4 (List.mem_of_getElem? (i := 115) (by rfl))) rfl
set_option maxRecDepth 100000 in
theorem ww_945 : Cond.instanceMethod yX8_chance ∈ mm_gw := mm_gw_in (mm_ch4 (List.mem_of_getElem? (i := 116) (by rfl))) rfl
set_option maxRecDepth 100000 in
theorem ww_946 : Cond.selects RX8 yX8_chance yX8_chance ∈ mm_gw := mm_gw_in (mm_ch4 (List.mem_of_getElem? (i := 117) (by rfl))) rfl
set_option maxRecDepth 100000 in
theorem ww_947 : Cond.code yX8_chance cX8_chance 4 (some .int) ∈ mm_gw := mm_gw_in (mm_ch4 (List.mem_of_getElem? (i := 118) (by rfl))) rfl
set_option maxRecDepth 100000 in
theorem ww_948 : Cond.methodLink RX8 97 yJ9_min_7cf53 ∈ mm_gw := mm_gw_in (mm_ch4 (List.mem_of_getElem? (i := 119) (by rfl))) rfl
set_option maxRecDepth 100000 in
theorem ww_953 : Cond.methodLink RX11 216 yX5_mayTell ∈ mm_gw := mm_gw_in (mm_ch4 (List.mem_of_getElem? (i := 124) (by rfl))) rfl
set_option maxRecDepth 100000 in
theorem ww_954 : Cond.instanceMethod yX5_mayTell ∈ mm_gw := mm_gw_in (mm_ch4 (List.mem_of_getElem? (i := 125) (by rfl))) rfl
set_option maxRecDepth 100000 in
theorem ww_955 : Cond.selects RX5 yX5_mayTell yX5_mayTell ∈ mm_gw := mm_gw_in (mm_ch4 (List.mem_of_getElem? (i := 126) (by rfl))) rfl
set_option maxRecDepth 100000 in
theorem ww_956 : Cond.code yX5_mayTell cX5_mayTell 5 (some .boolean) ∈ mm_gw := mm_gw_in (mm_ch4 (List.mem_of_getElem? (i := 127) (by rfl))) rfl
set_option maxRecDepth 100000 in
theorem ww_957 : Cond.methodLink RX5 110 yX8_hasPair ∈ mm_gw := mm_gw_in (mm_ch4 (List.mem_of_getElem? (i := 128) (by rfl))) rfl
set_option maxRecDepth 100000 in
theorem ww_958 : Cond.methodLink RX5 114 yX8_hasSecret ∈ mm_gw := mm_gw_in (mm_ch4 (List.mem_of_getElem? (i := 129) (by rfl))) rfl
set_option maxRecDepth 100000 in
theorem ww_959 : Cond.methodLink RX5 118 yX8_speaks ∈ mm_gw := mm_gw_in (mm_ch4 (List.mem_of_getElem? (i := 130) (by rfl))) rfl
set_option maxRecDepth 100000 in
theorem ww_960 : Cond.instanceMethod yX8_speaks ∈ mm_gw := mm_gw_in (mm_ch4 (List.mem_of_getElem? (i := 131) (by rfl))) rfl
set_option maxRecDepth 100000 in
theorem ww_961 : Cond.selects RX8 yX8_speaks yX8_speaks ∈ mm_gw := mm_gw_in (mm_ch4 (List.mem_of_getElem? (i := 132) (by rfl))) rfl
set_option maxRecDepth 100000 in
theorem ww_962 : Cond.code yX8_speaks cX8_speaks 2 (some .boolean) ∈ mm_gw := mm_gw_in (mm_ch4 (List.mem_of_getElem? (i := 133) (by rfl))) rfl
set_option maxRecDepth 100000 in
theorem ww_963 : Cond.methodLink RX11 220 yX11_remember ∈ mm_gw := mm_gw_in (mm_ch4 (List.mem_of_getElem? (i := 134) (by rfl))) rfl
set_option maxRecDepth 100000 in
theorem ww_965 : Cond.instanceMethod yX11_remember ∈ mm_gw := mm_gw_in (mm_ch4 (List.mem_of_getElem? (i := 136) (by rfl))) rfl
set_option maxRecDepth 100000 in
theorem ww_966 : Cond.code yX11_remember cX11_remember 1 (none) ∈ mm_gw := mm_gw_in (mm_ch4 (List.mem_of_getElem? (i := 137) (by rfl))) rfl
set_option maxRecDepth 100000 in
theorem ww_967 : Cond.methodLink RX11 251 yX5_copyFrom ∈ mm_gw := mm_gw_in (mm_ch4 (List.mem_of_getElem? (i := 138) (by rfl))) rfl
set_option maxRecDepth 100000 in
theorem ww_968 : Cond.instanceMethod yX5_copyFrom ∈ mm_gw := mm_gw_in (mm_ch4 (List.mem_of_getElem? (i := 139) (by rfl))) rfl
set_option maxRecDepth 100000 in
theorem ww_969 : Cond.selects RX5 yX5_copyFrom yX5_copyFrom ∈ mm_gw := mm_gw_in (mm_ch4 (List.mem_of_getElem? (i := 140) (by rfl))) rfl
set_option maxRecDepth 100000 in
theorem ww_970 : Cond.code yX5_copyFrom cX5_copyFrom 2 (none) ∈ mm_gw := mm_gw_in (mm_ch4 (List.mem_of_getElem? (i := 141) (by rfl))) rfl
set_option maxRecDepth 100000 in
theorem ww_971 : Cond.methodLink RX11 347 yJ9_min_7cf53 ∈ mm_gw := mm_gw_in (mm_ch4 (List.mem_of_getElem? (i := 142) (by rfl))) rfl
set_option maxRecDepth 100000 in
theorem ww_972 : Cond.methodLink RX11 223 yX5_whisper ∈ mm_gw := mm_gw_in (mm_ch4 (List.mem_of_getElem? (i := 143) (by rfl))) rfl
set_option maxRecDepth 100000 in
theorem ww_973 : Cond.instanceMethod yX5_whisper ∈ mm_gw := mm_gw_in (mm_ch4 (List.mem_of_getElem? (i := 144) (by rfl))) rfl
set_option maxRecDepth 100000 in
theorem ww_974 : Cond.selects RX5 yX5_whisper yX5_whisper ∈ mm_gw := mm_gw_in (mm_ch4 (List.mem_of_getElem? (i := 145) (by rfl))) rfl
set_option maxRecDepth 100000 in
theorem ww_975 : Cond.code yX5_whisper cX5_whisper 5 (none) ∈ mm_gw := mm_gw_in (mm_ch4 (List.mem_of_getElem? (i := 146) (by rfl))) rfl
set_option maxRecDepth 100000 in
theorem ww_980 : Cond.methodLink RX11 133 yX8_hasPerson ∈ mm_gw := mm_gw_in (mm_ch4 (List.mem_of_getElem? (i := 151) (by rfl))) rfl
set_option maxRecDepth 100000 in
theorem ww_981 : Cond.methodLink RX11 227 yX5_mayPay ∈ mm_gw := mm_gw_in (mm_ch4 (List.mem_of_getElem? (i := 152) (by rfl))) rfl
set_option maxRecDepth 100000 in
theorem ww_982 : Cond.instanceMethod yX5_mayPay ∈ mm_gw := mm_gw_in (mm_ch4 (List.mem_of_getElem? (i := 153) (by rfl))) rfl
set_option maxRecDepth 100000 in
theorem ww_983 : Cond.selects RX5 yX5_mayPay yX5_mayPay ∈ mm_gw := mm_gw_in (mm_ch4 (List.mem_of_getElem? (i := 154) (by rfl))) rfl
set_option maxRecDepth 100000 in
theorem ww_984 : Cond.code yX5_mayPay cX5_mayPay 5 (some .boolean) ∈ mm_gw := mm_gw_in (mm_ch4 (List.mem_of_getElem? (i := 155) (by rfl))) rfl
set_option maxRecDepth 100000 in
theorem ww_985 : Cond.methodLink RX5 128 yX5_payable ∈ mm_gw := mm_gw_in (mm_ch4 (List.mem_of_getElem? (i := 156) (by rfl))) rfl
set_option maxRecDepth 100000 in
theorem ww_986 : Cond.instanceMethod yX5_payable ∈ mm_gw := mm_gw_in (mm_ch4 (List.mem_of_getElem? (i := 157) (by rfl))) rfl
set_option maxRecDepth 100000 in
theorem ww_987 : Cond.selects RX5 yX5_payable yX5_payable ∈ mm_gw := mm_gw_in (mm_ch4 (List.mem_of_getElem? (i := 158) (by rfl))) rfl
set_option maxRecDepth 100000 in
theorem ww_988 : Cond.code yX5_payable cX5_payable 3 (some .int) ∈ mm_gw := mm_gw_in (mm_ch4 (List.mem_of_getElem? (i := 159) (by rfl))) rfl
set_option maxRecDepth 100000 in
theorem ww_989 : Cond.methodLink RX5 124 yX5_known ∈ mm_gw := mm_gw_in (mm_ch4 (List.mem_of_getElem? (i := 160) (by rfl))) rfl
set_option maxRecDepth 100000 in
theorem ww_990 : Cond.instanceMethod yX5_known ∈ mm_gw := mm_gw_in (mm_ch4 (List.mem_of_getElem? (i := 161) (by rfl))) rfl
set_option maxRecDepth 100000 in
theorem ww_991 : Cond.selects RX5 yX5_known yX5_known ∈ mm_gw := mm_gw_in (mm_ch4 (List.mem_of_getElem? (i := 162) (by rfl))) rfl
set_option maxRecDepth 100000 in
theorem ww_992 : Cond.code yX5_known cX5_known 5 (some .int) ∈ mm_gw := mm_gw_in (mm_ch4 (List.mem_of_getElem? (i := 163) (by rfl))) rfl
set_option maxRecDepth 100000 in
theorem ww_993n : Cond.methodLinkNest RX5 131 yX11_together "PaidSecrets" ∈ mm_nw := mm_nw_in rfl (mm_ch4 (List.mem_of_getElem? (i := 164) (by rfl)))
set_option maxRecDepth 100000 in
theorem ww_994 : Cond.static yX11_together ∈ mm_gw := mm_gw_in (mm_ch4 (List.mem_of_getElem? (i := 165) (by rfl))) rfl
set_option maxRecDepth 100000 in
theorem ww_995 : Cond.code yX11_together cX11_together 4 (some .int) ∈ mm_gw := mm_gw_in (mm_ch4 (List.mem_of_getElem? (i := 166) (by rfl))) rfl
set_option maxRecDepth 100000 in
theorem ww_996 : Cond.methodLink RX11 231 yX5_take ∈ mm_gw := mm_gw_in (mm_ch4 (List.mem_of_getElem? (i := 167) (by rfl))) rfl
set_option maxRecDepth 100000 in
theorem ww_997 : Cond.instanceMethod yX5_take ∈ mm_gw := mm_gw_in (mm_ch4 (List.mem_of_getElem? (i := 168) (by rfl))) rfl
set_option maxRecDepth 100000 in
theorem ww_998 : Cond.selects RX5 yX5_take yX5_take ∈ mm_gw := mm_gw_in (mm_ch4 (List.mem_of_getElem? (i := 169) (by rfl))) rfl
set_option maxRecDepth 100000 in
theorem ww_999 : Cond.code yX5_take cX5_take 3 (none) ∈ mm_gw := mm_gw_in (mm_ch4 (List.mem_of_getElem? (i := 170) (by rfl))) rfl
set_option maxRecDepth 100000 in
theorem ww_1000 : Cond.methodLink RX11 157 yX11_together ∈ mm_gw := mm_gw_in (mm_ch4 (List.mem_of_getElem? (i := 171) (by rfl))) rfl
set_option maxRecDepth 100000 in
theorem ww_1009 : Cond.methodLink RX11 235 yX5_endQuarter ∈ mm_gw := mm_gw_in (mm_ch4 (List.mem_of_getElem? (i := 180) (by rfl))) rfl
set_option maxRecDepth 100000 in
theorem ww_1010 : Cond.instanceMethod yX5_endQuarter ∈ mm_gw := mm_gw_in (mm_ch4 (List.mem_of_getElem? (i := 181) (by rfl))) rfl
set_option maxRecDepth 100000 in
theorem ww_1011 : Cond.selects RX5 yX5_endQuarter yX5_endQuarter ∈ mm_gw := mm_gw_in (mm_ch4 (List.mem_of_getElem? (i := 182) (by rfl))) rfl
set_option maxRecDepth 100000 in
theorem ww_1012 : Cond.code yX5_endQuarter cX5_endQuarter 4 (some .int) ∈ mm_gw := mm_gw_in (mm_ch4 (List.mem_of_getElem? (i := 183) (by rfl))) rfl
set_option maxRecDepth 100000 in
theorem ww_1017 : Cond.methodLink RX11 239 yX5_mayLend ∈ mm_gw := mm_gw_in (mm_ch4 (List.mem_of_getElem? (i := 188) (by rfl))) rfl
set_option maxRecDepth 100000 in
theorem ww_1018 : Cond.instanceMethod yX5_mayLend ∈ mm_gw := mm_gw_in (mm_ch4 (List.mem_of_getElem? (i := 189) (by rfl))) rfl
set_option maxRecDepth 100000 in
theorem ww_1019 : Cond.selects RX5 yX5_mayLend yX5_mayLend ∈ mm_gw := mm_gw_in (mm_ch4 (List.mem_of_getElem? (i := 190) (by rfl))) rfl
set_option maxRecDepth 100000 in
theorem ww_1020 : Cond.code yX5_mayLend cX5_mayLend 5 (some .boolean) ∈ mm_gw := mm_gw_in (mm_ch4 (List.mem_of_getElem? (i := 191) (by rfl))) rfl
set_option maxRecDepth 100000 in
theorem ww_1021 : Cond.methodLink RX11 242 yX5_owe ∈ mm_gw := mm_gw_in (mm_ch4 (List.mem_of_getElem? (i := 192) (by rfl))) rfl
set_option maxRecDepth 100000 in
theorem ww_1022 : Cond.instanceMethod yX5_owe ∈ mm_gw := mm_gw_in (mm_ch4 (List.mem_of_getElem? (i := 193) (by rfl))) rfl
set_option maxRecDepth 100000 in
theorem ww_1023 : Cond.selects RX5 yX5_owe yX5_owe ∈ mm_gw := mm_gw_in (mm_ch4 (List.mem_of_getElem? (i := 194) (by rfl))) rfl
set_option maxRecDepth 100000 in
theorem ww_1024 : Cond.code yX5_owe cX5_owe 4 (none) ∈ mm_gw := mm_gw_in (mm_ch4 (List.mem_of_getElem? (i := 195) (by rfl))) rfl
set_option maxRecDepth 100000 in
theorem ww_1029 : Cond.methodLink RX11 246 yJ9_floorMod_7cf53 ∈ mm_gw := mm_gw_in (mm_ch4 (List.mem_of_getElem? (i := 200) (by rfl))) rfl
set_option maxRecDepth 100000 in
theorem ww_1030 : Cond.static yJ9_floorMod_7cf53 ∈ mm_gw := mm_gw_in (mm_ch4 (List.mem_of_getElem? (i := 201) (by rfl))) rfl
set_option maxRecDepth 100000 in
theorem ww_1031 : Cond.code yJ9_floorMod_7cf53 cJ9_floorMod_7cf53 3 (some .int) ∈ mm_gw := mm_gw_in (mm_ch4 (List.mem_of_getElem? (i := 202) (by rfl))) rfl
set_option maxRecDepth 100000 in
theorem ww_1036 : Cond.methodLink RX11 255 yX11_judge ∈ mm_gw := mm_gw_in (mm_ch4 (List.mem_of_getElem? (i := 207) (by rfl))) rfl
set_option maxRecDepth 100000 in
theorem ww_1038 : Cond.instanceMethod yX11_judge ∈ mm_gw := mm_gw_in (mm_ch4 (List.mem_of_getElem? (i := 209) (by rfl))) rfl
set_option maxRecDepth 100000 in
theorem ww_1039 : Cond.code yX11_judge cX11_judge 2 (none) ∈ mm_gw := mm_gw_in (mm_ch4 (List.mem_of_getElem? (i := 210) (by rfl))) rfl
set_option maxRecDepth 100000 in
theorem ww_1040 : Cond.methodLink RX11 299 yJ6_bitCount_0f7a4 ∈ mm_gw := mm_gw_in (mm_ch4 (List.mem_of_getElem? (i := 211) (by rfl))) rfl
set_option maxRecDepth 100000 in
theorem ww_1041 : Cond.methodLink RX11 353 yX11_tryLine ∈ mm_gw := mm_gw_in (mm_ch4 (List.mem_of_getElem? (i := 212) (by rfl))) rfl
set_option maxRecDepth 100000 in
theorem ww_1043 : Cond.instanceMethod yX11_tryLine ∈ mm_gw := mm_gw_in (mm_ch4 (List.mem_of_getElem? (i := 214) (by rfl))) rfl
set_option maxRecDepth 100000 in
theorem ww_1044 : Cond.code yX11_tryLine cX11_tryLine 5 (some .boolean) ∈ mm_gw := mm_gw_in (mm_ch4 (List.mem_of_getElem? (i := 215) (by rfl))) rfl
set_option maxRecDepth 100000 in
theorem ww_1045 : Cond.methodLink RX11 331 yX8_allSecrets ∈ mm_gw := mm_gw_in (mm_ch4 (List.mem_of_getElem? (i := 216) (by rfl))) rfl
set_option maxRecDepth 100000 in
theorem ww_1046 : Cond.instanceMethod yX8_allSecrets ∈ mm_gw := mm_gw_in (mm_ch4 (List.mem_of_getElem? (i := 217) (by rfl))) rfl
set_option maxRecDepth 100000 in
theorem ww_1047 : Cond.selects RX8 yX8_allSecrets yX8_allSecrets ∈ mm_gw := mm_gw_in (mm_ch4 (List.mem_of_getElem? (i := 218) (by rfl))) rfl
set_option maxRecDepth 100000 in
theorem ww_1048 : Cond.code yX8_allSecrets cX8_allSecrets 1 (some .int) ∈ mm_gw := mm_gw_in (mm_ch4 (List.mem_of_getElem? (i := 219) (by rfl))) rfl
set_option maxRecDepth 100000 in
theorem ww_1053 : Cond.methodLink RX11 258 yX0_weighSets ∈ mm_gw := mm_gw_in (mm_ch4 (List.mem_of_getElem? (i := 224) (by rfl))) rfl
set_option maxRecDepth 100000 in
theorem ww_1054 : Cond.instanceMethod yX0_weighSets ∈ mm_gw := mm_gw_in (mm_ch4 (List.mem_of_getElem? (i := 225) (by rfl))) rfl
set_option maxRecDepth 100000 in
theorem ww_1055 : Cond.selects RX0 yX0_weighSets yX0_weighSets ∈ mm_gw := mm_gw_in (mm_ch4 (List.mem_of_getElem? (i := 226) (by rfl))) rfl
set_option maxRecDepth 100000 in
theorem ww_1056 : Cond.code yX0_weighSets cX0_weighSets 6 (none) ∈ mm_gw := mm_gw_in (mm_ch4 (List.mem_of_getElem? (i := 227) (by rfl))) rfl
set_option maxRecDepth 100000 in
theorem ww_1057 : Cond.methodLink RX11 262 yX0_fewest ∈ mm_gw := mm_gw_in (mm_ch4 (List.mem_of_getElem? (i := 228) (by rfl))) rfl
set_option maxRecDepth 100000 in
theorem ww_1058 : Cond.instanceMethod yX0_fewest ∈ mm_gw := mm_gw_in (mm_ch4 (List.mem_of_getElem? (i := 229) (by rfl))) rfl
set_option maxRecDepth 100000 in
theorem ww_1059 : Cond.selects RX0 yX0_fewest yX0_fewest ∈ mm_gw := mm_gw_in (mm_ch4 (List.mem_of_getElem? (i := 230) (by rfl))) rfl
set_option maxRecDepth 100000 in
theorem ww_1060 : Cond.code yX0_fewest cX0_fewest 7 (some .int) ∈ mm_gw := mm_gw_in (mm_ch4 (List.mem_of_getElem? (i := 231) (by rfl))) rfl
set_option maxRecDepth 100000 in
theorem ww_1061n : Cond.methodLinkNest RX0 33 yX11_bit "PaidSecrets" ∈ mm_nw := mm_nw_in rfl (mm_ch4 (List.mem_of_getElem? (i := 232) (by rfl)))
set_option maxRecDepth 100000 in
theorem ww_1062 : Cond.methodLink RX0 37 yX5_payable ∈ mm_gw := mm_gw_in (mm_ch4 (List.mem_of_getElem? (i := 233) (by rfl))) rfl
set_option maxRecDepth 100000 in
theorem ww_1063 : Cond.methodLink RX0 43 yX0_isLesser ∈ mm_gw := mm_gw_in (mm_ch4 (List.mem_of_getElem? (i := 234) (by rfl))) rfl
set_option maxRecDepth 100000 in
theorem ww_1065 : Cond.instanceMethod yX0_isLesser ∈ mm_gw := mm_gw_in (mm_ch4 (List.mem_of_getElem? (i := 236) (by rfl))) rfl
set_option maxRecDepth 100000 in
theorem ww_1066 : Cond.code yX0_isLesser cX0_isLesser 5 (some .boolean) ∈ mm_gw := mm_gw_in (mm_ch4 (List.mem_of_getElem? (i := 237) (by rfl))) rfl
set_option maxRecDepth 100000 in
theorem ww_1067 : Cond.methodLink RX0 47 yJ6_bitCount_0f7a4 ∈ mm_gw := mm_gw_in (mm_ch4 (List.mem_of_getElem? (i := 238) (by rfl))) rfl
set_option maxRecDepth 100000 in
theorem ww_1072 : Cond.methodLink RX11 266 yX0_mostAtOnce ∈ mm_gw := mm_gw_in (mm_ch5 (List.mem_of_getElem? (i := 3) (by rfl))) rfl
set_option maxRecDepth 100000 in
theorem ww_1073 : Cond.instanceMethod yX0_mostAtOnce ∈ mm_gw := mm_gw_in (mm_ch5 (List.mem_of_getElem? (i := 4) (by rfl))) rfl
set_option maxRecDepth 100000 in
theorem ww_1074 : Cond.selects RX0 yX0_mostAtOnce yX0_mostAtOnce ∈ mm_gw := mm_gw_in (mm_ch5 (List.mem_of_getElem? (i := 5) (by rfl))) rfl
set_option maxRecDepth 100000 in
theorem ww_1075 : Cond.code yX0_mostAtOnce cX0_mostAtOnce 7 (some .int) ∈ mm_gw := mm_gw_in (mm_ch5 (List.mem_of_getElem? (i := 6) (by rfl))) rfl
set_option maxRecDepth 100000 in
theorem ww_1076 : Cond.methodLink RX0 53 yX8_allSecrets ∈ mm_gw := mm_gw_in (mm_ch5 (List.mem_of_getElem? (i := 7) (by rfl))) rfl
set_option maxRecDepth 100000 in
theorem ww_1077 : Cond.methodLink RX0 57 yJ7_fill_d0a16 ∈ mm_gw := mm_gw_in (mm_ch5 (List.mem_of_getElem? (i := 8) (by rfl))) rfl
set_option maxRecDepth 100000 in
theorem ww_1078 : Cond.methodLink RX0 66 yX0_admit ∈ mm_gw := mm_gw_in (mm_ch5 (List.mem_of_getElem? (i := 9) (by rfl))) rfl
set_option maxRecDepth 100000 in
theorem ww_1080 : Cond.instanceMethod yX0_admit ∈ mm_gw := mm_gw_in (mm_ch5 (List.mem_of_getElem? (i := 11) (by rfl))) rfl
set_option maxRecDepth 100000 in
theorem ww_1081 : Cond.code yX0_admit cX0_admit 8 (none) ∈ mm_gw := mm_gw_in (mm_ch5 (List.mem_of_getElem? (i := 12) (by rfl))) rfl
set_option maxRecDepth 100000 in
theorem ww_1086 : Cond.methodLink RX11 273 yX6_addSeen ∈ mm_gw := mm_gw_in (mm_ch5 (List.mem_of_getElem? (i := 17) (by rfl))) rfl
set_option maxRecDepth 100000 in
theorem ww_1087 : Cond.instanceMethod yX6_addSeen ∈ mm_gw := mm_gw_in (mm_ch5 (List.mem_of_getElem? (i := 18) (by rfl))) rfl
set_option maxRecDepth 100000 in
theorem ww_1088 : Cond.selects RX6 yX6_addSeen yX6_addSeen ∈ mm_gw := mm_gw_in (mm_ch5 (List.mem_of_getElem? (i := 19) (by rfl))) rfl
set_option maxRecDepth 100000 in
theorem ww_1089 : Cond.code yX6_addSeen cX6_addSeen 3 (some .boolean) ∈ mm_gw := mm_gw_in (mm_ch5 (List.mem_of_getElem? (i := 20) (by rfl))) rfl
set_option maxRecDepth 100000 in
theorem ww_1094 : Cond.methodLink RX11 277 yX11_findLeaks ∈ mm_gw := mm_gw_in (mm_ch5 (List.mem_of_getElem? (i := 25) (by rfl))) rfl
set_option maxRecDepth 100000 in
theorem ww_1096 : Cond.instanceMethod yX11_findLeaks ∈ mm_gw := mm_gw_in (mm_ch5 (List.mem_of_getElem? (i := 27) (by rfl))) rfl
set_option maxRecDepth 100000 in
theorem ww_1097 : Cond.code yX11_findLeaks cX11_findLeaks 2 (none) ∈ mm_gw := mm_gw_in (mm_ch5 (List.mem_of_getElem? (i := 28) (by rfl))) rfl
set_option maxRecDepth 100000 in
theorem ww_1098 : Cond.methodLink RX11 388 yX11_explains ∈ mm_gw := mm_gw_in (mm_ch5 (List.mem_of_getElem? (i := 29) (by rfl))) rfl
set_option maxRecDepth 100000 in
theorem ww_1100 : Cond.instanceMethod yX11_explains ∈ mm_gw := mm_gw_in (mm_ch5 (List.mem_of_getElem? (i := 31) (by rfl))) rfl
set_option maxRecDepth 100000 in
theorem ww_1101 : Cond.code yX11_explains cX11_explains 4 (some .boolean) ∈ mm_gw := mm_gw_in (mm_ch5 (List.mem_of_getElem? (i := 32) (by rfl))) rfl
set_option maxRecDepth 100000 in
theorem ww_1106 : Cond.methodLink RX11 280 yX11_findLies ∈ mm_gw := mm_gw_in (mm_ch5 (List.mem_of_getElem? (i := 37) (by rfl))) rfl
set_option maxRecDepth 100000 in
theorem ww_1108 : Cond.instanceMethod yX11_findLies ∈ mm_gw := mm_gw_in (mm_ch5 (List.mem_of_getElem? (i := 39) (by rfl))) rfl
set_option maxRecDepth 100000 in
theorem ww_1109 : Cond.code yX11_findLies cX11_findLies 3 (none) ∈ mm_gw := mm_gw_in (mm_ch5 (List.mem_of_getElem? (i := 40) (by rfl))) rfl
set_option maxRecDepth 100000 in
theorem ww_1110 : Cond.methodLink RX11 397 yX8_agrees ∈ mm_gw := mm_gw_in (mm_ch5 (List.mem_of_getElem? (i := 41) (by rfl))) rfl
set_option maxRecDepth 100000 in
theorem ww_1111 : Cond.instanceMethod yX8_agrees ∈ mm_gw := mm_gw_in (mm_ch5 (List.mem_of_getElem? (i := 42) (by rfl))) rfl
set_option maxRecDepth 100000 in
theorem ww_1112 : Cond.selects RX8 yX8_agrees yX8_agrees ∈ mm_gw := mm_gw_in (mm_ch5 (List.mem_of_getElem? (i := 43) (by rfl))) rfl
set_option maxRecDepth 100000 in
theorem ww_1113 : Cond.code yX8_agrees cX8_agrees 3 (some .boolean) ∈ mm_gw := mm_gw_in (mm_ch5 (List.mem_of_getElem? (i := 44) (by rfl))) rfl
set_option maxRecDepth 100000 in
theorem ww_1118 : Cond.methodLink RX11 283 yX11_passNights ∈ mm_gw := mm_gw_in (mm_ch5 (List.mem_of_getElem? (i := 49) (by rfl))) rfl
set_option maxRecDepth 100000 in
theorem ww_1120 : Cond.instanceMethod yX11_passNights ∈ mm_gw := mm_gw_in (mm_ch5 (List.mem_of_getElem? (i := 51) (by rfl))) rfl
set_option maxRecDepth 100000 in
theorem ww_1121 : Cond.code yX11_passNights cX11_passNights 3 (some .boolean) ∈ mm_gw := mm_gw_in (mm_ch5 (List.mem_of_getElem? (i := 52) (by rfl))) rfl
set_option maxRecDepth 100000 in
theorem ww_1122 : Cond.methodLink RX11 400 yX4_pass ∈ mm_gw := mm_gw_in (mm_ch5 (List.mem_of_getElem? (i := 53) (by rfl))) rfl
set_option maxRecDepth 100000 in
theorem ww_1123 : Cond.instanceMethod yX4_pass ∈ mm_gw := mm_gw_in (mm_ch5 (List.mem_of_getElem? (i := 54) (by rfl))) rfl
set_option maxRecDepth 100000 in
theorem ww_1124 : Cond.selects RX4 yX4_pass yX4_pass ∈ mm_gw := mm_gw_in (mm_ch5 (List.mem_of_getElem? (i := 55) (by rfl))) rfl
set_option maxRecDepth 100000 in
theorem ww_1125 : Cond.code yX4_pass cX4_pass 5 (none) ∈ mm_gw := mm_gw_in (mm_ch5 (List.mem_of_getElem? (i := 56) (by rfl))) rfl
set_option maxRecDepth 100000 in
theorem ww_1126 : Cond.methodLink RX4 25 yJ7_fill_d0a16 ∈ mm_gw := mm_gw_in (mm_ch5 (List.mem_of_getElem? (i := 57) (by rfl))) rfl
set_option maxRecDepth 100000 in
theorem ww_1127 : Cond.constantLong RX4 31 1000000 ∈ mm_gw := mm_gw_in (mm_ch5 (List.mem_of_getElem? (i := 58) (by rfl))) rfl
set_option maxRecDepth 100000 in
theorem ww_1128 : Cond.methodLink RX4 33 yX4_passOne ∈ mm_gw := mm_gw_in (mm_ch5 (List.mem_of_getElem? (i := 59) (by rfl))) rfl
set_option maxRecDepth 100000 in
theorem ww_1130 : Cond.instanceMethod yX4_passOne ∈ mm_gw := mm_gw_in (mm_ch5 (List.mem_of_getElem? (i := 61) (by rfl))) rfl
set_option maxRecDepth 100000 in
theorem ww_1131 : Cond.code yX4_passOne cX4_passOne 4 (none) ∈ mm_gw := mm_gw_in (mm_ch5 (List.mem_of_getElem? (i := 62) (by rfl))) rfl
set_option maxRecDepth 100000 in
theorem ww_1132 : Cond.methodLink RX4 43 yX4_listen ∈ mm_gw := mm_gw_in (mm_ch5 (List.mem_of_getElem? (i := 63) (by rfl))) rfl
set_option maxRecDepth 100000 in
theorem ww_1134 : Cond.instanceMethod yX4_listen ∈ mm_gw := mm_gw_in (mm_ch5 (List.mem_of_getElem? (i := 65) (by rfl))) rfl
set_option maxRecDepth 100000 in
theorem ww_1135 : Cond.code yX4_listen cX4_listen 7 (none) ∈ mm_gw := mm_gw_in (mm_ch5 (List.mem_of_getElem? (i := 66) (by rfl))) rfl
set_option maxRecDepth 100000 in
theorem ww_1136n : Cond.methodLinkNest RX4 57 yX11_bit "PaidSecrets" ∈ mm_nw := mm_nw_in rfl (mm_ch5 (List.mem_of_getElem? (i := 67) (by rfl)))
set_option maxRecDepth 100000 in
theorem ww_1137 : Cond.methodLink RX4 61 yX8_speaks ∈ mm_gw := mm_gw_in (mm_ch5 (List.mem_of_getElem? (i := 68) (by rfl))) rfl
set_option maxRecDepth 100000 in
theorem ww_1138 : Cond.methodLink RX4 65 yX8_chance ∈ mm_gw := mm_gw_in (mm_ch5 (List.mem_of_getElem? (i := 69) (by rfl))) rfl
set_option maxRecDepth 100000 in
theorem ww_1139 : Cond.methodLink RX4 68 yJ9_max_7cf53 ∈ mm_gw := mm_gw_in (mm_ch5 (List.mem_of_getElem? (i := 70) (by rfl))) rfl
set_option maxRecDepth 100000 in
theorem ww_1140 : Cond.constantLong RX4 73 10 ∈ mm_gw := mm_gw_in (mm_ch5 (List.mem_of_getElem? (i := 71) (by rfl))) rfl
set_option maxRecDepth 100000 in
theorem ww_1141 : Cond.methodLink RX4 47 yX4_spread ∈ mm_gw := mm_gw_in (mm_ch5 (List.mem_of_getElem? (i := 72) (by rfl))) rfl
set_option maxRecDepth 100000 in
theorem ww_1143 : Cond.instanceMethod yX4_spread ∈ mm_gw := mm_gw_in (mm_ch5 (List.mem_of_getElem? (i := 74) (by rfl))) rfl
set_option maxRecDepth 100000 in
theorem ww_1144 : Cond.code yX4_spread cX4_spread 5 (none) ∈ mm_gw := mm_gw_in (mm_ch5 (List.mem_of_getElem? (i := 75) (by rfl))) rfl
set_option maxRecDepth 100000 in
theorem ww_1145 : Cond.methodLink RX4 75 yX4_share ∈ mm_gw := mm_gw_in (mm_ch5 (List.mem_of_getElem? (i := 76) (by rfl))) rfl
set_option maxRecDepth 100000 in
theorem ww_1147 : Cond.instanceMethod yX4_share ∈ mm_gw := mm_gw_in (mm_ch5 (List.mem_of_getElem? (i := 78) (by rfl))) rfl
set_option maxRecDepth 100000 in
theorem ww_1148 : Cond.code yX4_share cX4_share 9 (some .long) ∈ mm_gw := mm_gw_in (mm_ch5 (List.mem_of_getElem? (i := 79) (by rfl))) rfl
set_option maxRecDepth 100000 in
theorem ww_1149 : Cond.methodLink RX4 51 arraycopyName ∈ mm_gw := mm_gw_in (mm_ch5 (List.mem_of_getElem? (i := 80) (by rfl))) rfl
set_option maxRecDepth 100000 in
theorem ww_1150 : Cond.methodLink RX11 404 yX4_weighCounts ∈ mm_gw := mm_gw_in (mm_ch5 (List.mem_of_getElem? (i := 81) (by rfl))) rfl
set_option maxRecDepth 100000 in
theorem ww_1151 : Cond.instanceMethod yX4_weighCounts ∈ mm_gw := mm_gw_in (mm_ch5 (List.mem_of_getElem? (i := 82) (by rfl))) rfl
set_option maxRecDepth 100000 in
theorem ww_1152 : Cond.selects RX4 yX4_weighCounts yX4_weighCounts ∈ mm_gw := mm_gw_in (mm_ch5 (List.mem_of_getElem? (i := 83) (by rfl))) rfl
set_option maxRecDepth 100000 in
theorem ww_1153 : Cond.code yX4_weighCounts cX4_weighCounts 5 (none) ∈ mm_gw := mm_gw_in (mm_ch5 (List.mem_of_getElem? (i := 84) (by rfl))) rfl
set_option maxRecDepth 100000 in
theorem ww_1154 : Cond.methodLink RX4 79 yX5_lawWorth ∈ mm_gw := mm_gw_in (mm_ch5 (List.mem_of_getElem? (i := 85) (by rfl))) rfl
set_option maxRecDepth 100000 in
theorem ww_1155 : Cond.methodLink RX11 286 yX4_expected ∈ mm_gw := mm_gw_in (mm_ch5 (List.mem_of_getElem? (i := 86) (by rfl))) rfl
set_option maxRecDepth 100000 in
theorem ww_1156 : Cond.instanceMethod yX4_expected ∈ mm_gw := mm_gw_in (mm_ch5 (List.mem_of_getElem? (i := 87) (by rfl))) rfl
set_option maxRecDepth 100000 in
theorem ww_1157 : Cond.selects RX4 yX4_expected yX4_expected ∈ mm_gw := mm_gw_in (mm_ch5 (List.mem_of_getElem? (i := 88) (by rfl))) rfl
set_option maxRecDepth 100000 in
theorem ww_1158 : Cond.code yX4_expected cX4_expected 5 (some .long) ∈ mm_gw := mm_gw_in (mm_ch5 (List.mem_of_getElem? (i := 89) (by rfl))) rfl
set_option maxRecDepth 100000 in
theorem ww_1159 : Cond.methodLink RX4 85 yX8_knowers ∈ mm_gw := mm_gw_in (mm_ch5 (List.mem_of_getElem? (i := 90) (by rfl))) rfl
set_option maxRecDepth 100000 in
theorem ww_1160 : Cond.constantLong RX11 290 1000 ∈ mm_gw := mm_gw_in (mm_ch5 (List.mem_of_getElem? (i := 91) (by rfl))) rfl
set_option maxRecDepth 100000 in
theorem ww_1165 : Cond.methodLink RX11 292 yX4_surety ∈ mm_gw := mm_gw_in (mm_ch5 (List.mem_of_getElem? (i := 96) (by rfl))) rfl
set_option maxRecDepth 100000 in
theorem ww_1166 : Cond.instanceMethod yX4_surety ∈ mm_gw := mm_gw_in (mm_ch5 (List.mem_of_getElem? (i := 97) (by rfl))) rfl
set_option maxRecDepth 100000 in
theorem ww_1167 : Cond.selects RX4 yX4_surety yX4_surety ∈ mm_gw := mm_gw_in (mm_ch5 (List.mem_of_getElem? (i := 98) (by rfl))) rfl
set_option maxRecDepth 100000 in
theorem ww_1168 : Cond.code yX4_surety cX4_surety 7 (some .long) ∈ mm_gw := mm_gw_in (mm_ch5 (List.mem_of_getElem? (i := 99) (by rfl))) rfl
set_option maxRecDepth 100000 in
theorem ww_1173 : Cond.methodLink RX11 296 yX0_fewestPayments ∈ mm_gw := mm_gw_in (mm_ch5 (List.mem_of_getElem? (i := 104) (by rfl))) rfl
set_option maxRecDepth 100000 in
theorem ww_1174 : Cond.instanceMethod yX0_fewestPayments ∈ mm_gw := mm_gw_in (mm_ch5 (List.mem_of_getElem? (i := 105) (by rfl))) rfl
set_option maxRecDepth 100000 in
theorem ww_1175 : Cond.selects RX0 yX0_fewestPayments yX0_fewestPayments ∈ mm_gw := mm_gw_in (mm_ch5 (List.mem_of_getElem? (i := 106) (by rfl))) rfl
set_option maxRecDepth 100000 in
theorem ww_1176 : Cond.code yX0_fewestPayments cX0_fewestPayments 8 (some .int) ∈ mm_gw := mm_gw_in (mm_ch5 (List.mem_of_getElem? (i := 107) (by rfl))) rfl
set_option maxRecDepth 100000 in
theorem ww_1177 : Cond.methodLink RX0 70 yJ9_max_7cf53 ∈ mm_gw := mm_gw_in (mm_ch5 (List.mem_of_getElem? (i := 108) (by rfl))) rfl
set_option maxRecDepth 100000 in
theorem ww_1182 : Cond.methodLink RX11 307 yX1_invite ∈ mm_gw := mm_gw_in (mm_ch5 (List.mem_of_getElem? (i := 113) (by rfl))) rfl
set_option maxRecDepth 100000 in
theorem ww_1183 : Cond.instanceMethod yX1_invite ∈ mm_gw := mm_gw_in (mm_ch5 (List.mem_of_getElem? (i := 114) (by rfl))) rfl
set_option maxRecDepth 100000 in
theorem ww_1184 : Cond.selects RX1 yX1_invite yX1_invite ∈ mm_gw := mm_gw_in (mm_ch5 (List.mem_of_getElem? (i := 115) (by rfl))) rfl
set_option maxRecDepth 100000 in
theorem ww_1185 : Cond.code yX1_invite cX1_invite 5 (none) ∈ mm_gw := mm_gw_in (mm_ch5 (List.mem_of_getElem? (i := 116) (by rfl))) rfl
set_option maxRecDepth 100000 in
theorem ww_1186n : Cond.methodLinkNest RX1 27 yX11_bit "PaidSecrets" ∈ mm_nw := mm_nw_in rfl (mm_ch5 (List.mem_of_getElem? (i := 117) (by rfl)))
set_option maxRecDepth 100000 in
theorem ww_1187 : Cond.methodLink RX1 31 yX5_known ∈ mm_gw := mm_gw_in (mm_ch5 (List.mem_of_getElem? (i := 118) (by rfl))) rfl
set_option maxRecDepth 100000 in
theorem ww_1188 : Cond.methodLink RX11 311 yX1_atRest ∈ mm_gw := mm_gw_in (mm_ch5 (List.mem_of_getElem? (i := 119) (by rfl))) rfl
set_option maxRecDepth 100000 in
theorem ww_1189 : Cond.instanceMethod yX1_atRest ∈ mm_gw := mm_gw_in (mm_ch5 (List.mem_of_getElem? (i := 120) (by rfl))) rfl
set_option maxRecDepth 100000 in
theorem ww_1190 : Cond.selects RX1 yX1_atRest yX1_atRest ∈ mm_gw := mm_gw_in (mm_ch5 (List.mem_of_getElem? (i := 121) (by rfl))) rfl
set_option maxRecDepth 100000 in
theorem ww_1191 : Cond.code yX1_atRest cX1_atRest 6 (some .int) ∈ mm_gw := mm_gw_in (mm_ch5 (List.mem_of_getElem? (i := 122) (by rfl))) rfl
set_option maxRecDepth 100000 in
theorem ww_1192 : Cond.methodLink RX1 36 yX1_choose ∈ mm_gw := mm_gw_in (mm_ch5 (List.mem_of_getElem? (i := 123) (by rfl))) rfl
set_option maxRecDepth 100000 in
theorem ww_1194 : Cond.instanceMethod yX1_choose ∈ mm_gw := mm_gw_in (mm_ch5 (List.mem_of_getElem? (i := 125) (by rfl))) rfl
set_option maxRecDepth 100000 in
theorem ww_1195 : Cond.code yX1_choose cX1_choose 4 (some .boolean) ∈ mm_gw := mm_gw_in (mm_ch5 (List.mem_of_getElem? (i := 126) (by rfl))) rfl
set_option maxRecDepth 100000 in
theorem ww_1196 : Cond.methodLink RX1 44 yX1_mayChoose ∈ mm_gw := mm_gw_in (mm_ch5 (List.mem_of_getElem? (i := 127) (by rfl))) rfl
set_option maxRecDepth 100000 in
theorem ww_1198 : Cond.instanceMethod yX1_mayChoose ∈ mm_gw := mm_gw_in (mm_ch5 (List.mem_of_getElem? (i := 129) (by rfl))) rfl
set_option maxRecDepth 100000 in
theorem ww_1199 : Cond.code yX1_mayChoose cX1_mayChoose 3 (some .boolean) ∈ mm_gw := mm_gw_in (mm_ch5 (List.mem_of_getElem? (i := 130) (by rfl))) rfl
set_option maxRecDepth 100000 in
theorem ww_1200 : Cond.methodLink RX1 40 yX1_rest ∈ mm_gw := mm_gw_in (mm_ch5 (List.mem_of_getElem? (i := 131) (by rfl))) rfl
set_option maxRecDepth 100000 in
theorem ww_1202 : Cond.instanceMethod yX1_rest ∈ mm_gw := mm_gw_in (mm_ch5 (List.mem_of_getElem? (i := 133) (by rfl))) rfl
set_option maxRecDepth 100000 in
theorem ww_1203 : Cond.code yX1_rest cX1_rest 5 (some .boolean) ∈ mm_gw := mm_gw_in (mm_ch5 (List.mem_of_getElem? (i := 134) (by rfl))) rfl
set_option maxRecDepth 100000 in
theorem ww_1204 : Cond.methodLink RX1 48 yX1_share ∈ mm_gw := mm_gw_in (mm_ch5 (List.mem_of_getElem? (i := 135) (by rfl))) rfl
set_option maxRecDepth 100000 in
theorem ww_1206 : Cond.instanceMethod yX1_share ∈ mm_gw := mm_gw_in (mm_ch5 (List.mem_of_getElem? (i := 137) (by rfl))) rfl
set_option maxRecDepth 100000 in
theorem ww_1207 : Cond.code yX1_share cX1_share 6 (some .int) ∈ mm_gw := mm_gw_in (mm_ch5 (List.mem_of_getElem? (i := 138) (by rfl))) rfl
set_option maxRecDepth 100000 in
theorem ww_1212 : Cond.methodLink RX11 314 yX11_live ∈ mm_gw := mm_gw_in (mm_ch5 (List.mem_of_getElem? (i := 143) (by rfl))) rfl
set_option maxRecDepth 100000 in
theorem ww_1214 : Cond.instanceMethod yX11_live ∈ mm_gw := mm_gw_in (mm_ch5 (List.mem_of_getElem? (i := 145) (by rfl))) rfl
set_option maxRecDepth 100000 in
theorem ww_1215 : Cond.code yX11_live cX11_live 5 (none) ∈ mm_gw := mm_gw_in (mm_ch5 (List.mem_of_getElem? (i := 146) (by rfl))) rfl
set_option maxRecDepth 100000 in
theorem ww_1216 : Cond.methodLink RX11 413 yX11_useEar ∈ mm_gw := mm_gw_in (mm_ch5 (List.mem_of_getElem? (i := 147) (by rfl))) rfl
set_option maxRecDepth 100000 in
theorem ww_1218 : Cond.instanceMethod yX11_useEar ∈ mm_gw := mm_gw_in (mm_ch5 (List.mem_of_getElem? (i := 149) (by rfl))) rfl
set_option maxRecDepth 100000 in
theorem ww_1219 : Cond.code yX11_useEar cX11_useEar 4 (some .int) ∈ mm_gw := mm_gw_in (mm_ch5 (List.mem_of_getElem? (i := 150) (by rfl))) rfl
set_option maxRecDepth 100000 in
theorem ww_1220 : Cond.methodLink RX11 419 yX11_draw ∈ mm_gw := mm_gw_in (mm_ch5 (List.mem_of_getElem? (i := 151) (by rfl))) rfl
set_option maxRecDepth 100000 in
theorem ww_1222 : Cond.instanceMethod yX11_draw ∈ mm_gw := mm_gw_in (mm_ch5 (List.mem_of_getElem? (i := 153) (by rfl))) rfl
set_option maxRecDepth 100000 in
theorem ww_1223 : Cond.code yX11_draw cX11_draw 2 (some .int) ∈ mm_gw := mm_gw_in (mm_ch5 (List.mem_of_getElem? (i := 154) (by rfl))) rfl
set_option maxRecDepth 100000 in
theorem ww_1224 : Cond.constantLong RX11 422 1103515245 ∈ mm_gw := mm_gw_in (mm_ch5 (List.mem_of_getElem? (i := 155) (by rfl))) rfl
set_option maxRecDepth 100000 in
theorem ww_1225 : Cond.constantLong RX11 424 12345 ∈ mm_gw := mm_gw_in (mm_ch5 (List.mem_of_getElem? (i := 156) (by rfl))) rfl
set_option maxRecDepth 100000 in
theorem ww_1226 : Cond.constantLong RX11 426 2147483647 ∈ mm_gw := mm_gw_in (mm_ch5 (List.mem_of_getElem? (i := 157) (by rfl))) rfl
set_option maxRecDepth 100000 in
theorem ww_1227 : Cond.constantLong RX11 428 65536 ∈ mm_gw := mm_gw_in (mm_ch5 (List.mem_of_getElem? (i := 158) (by rfl))) rfl
set_option maxRecDepth 100000 in
theorem ww_1228 : Cond.methodLink RX11 416 yX11_quarterDay ∈ mm_gw := mm_gw_in (mm_ch5 (List.mem_of_getElem? (i := 159) (by rfl))) rfl
set_option maxRecDepth 100000 in
theorem ww_1230 : Cond.instanceMethod yX11_quarterDay ∈ mm_gw := mm_gw_in (mm_ch5 (List.mem_of_getElem? (i := 161) (by rfl))) rfl
set_option maxRecDepth 100000 in
theorem ww_1231 : Cond.code yX11_quarterDay cX11_quarterDay 3 (some .int) ∈ mm_gw := mm_gw_in (mm_ch5 (List.mem_of_getElem? (i := 162) (by rfl))) rfl
set_option maxRecDepth 100000 in
theorem ww_1236 : Cond.methodLink RX11 317 yX6_copyFrom ∈ mm_gw := mm_gw_in (mm_ch5 (List.mem_of_getElem? (i := 167) (by rfl))) rfl
set_option maxRecDepth 100000 in
theorem ww_1237 : Cond.instanceMethod yX6_copyFrom ∈ mm_gw := mm_gw_in (mm_ch5 (List.mem_of_getElem? (i := 168) (by rfl))) rfl
set_option maxRecDepth 100000 in
theorem ww_1238 : Cond.selects RX6 yX6_copyFrom yX6_copyFrom ∈ mm_gw := mm_gw_in (mm_ch5 (List.mem_of_getElem? (i := 169) (by rfl))) rfl
set_option maxRecDepth 100000 in
theorem ww_1239 : Cond.code yX6_copyFrom cX6_copyFrom 2 (none) ∈ mm_gw := mm_gw_in (mm_ch5 (List.mem_of_getElem? (i := 170) (by rfl))) rfl
set_option maxRecDepth 100000 in
theorem ww_1240 : Cond.methodLink RX6 43 yX6_copyLines ∈ mm_gw := mm_gw_in (mm_ch5 (List.mem_of_getElem? (i := 171) (by rfl))) rfl
set_option maxRecDepth 100000 in
theorem ww_1314 : Cond.methodLink RX11 149 yX5_known ∈ mm_gw := mm_gw_in (mm_ch6 (List.mem_of_getElem? (i := 5) (by rfl))) rfl
set_option maxRecDepth 100000 in
theorem ww_1322 : Cond.methodLink RX11 270 yX11_scheme ∈ mm_gw := mm_gw_in (mm_ch6 (List.mem_of_getElem? (i := 13) (by rfl))) rfl
set_option maxRecDepth 100000 in
theorem ww_1324 : Cond.instanceMethod yX11_scheme ∈ mm_gw := mm_gw_in (mm_ch6 (List.mem_of_getElem? (i := 15) (by rfl))) rfl
set_option maxRecDepth 100000 in
theorem ww_1325 : Cond.code yX11_scheme cX11_scheme 6 (none) ∈ mm_gw := mm_gw_in (mm_ch6 (List.mem_of_getElem? (i := 16) (by rfl))) rfl
set_option maxRecDepth 100000 in
theorem ww_1326 : Cond.methodLink RX11 365 yX11_fillLawful ∈ mm_gw := mm_gw_in (mm_ch6 (List.mem_of_getElem? (i := 17) (by rfl))) rfl
set_option maxRecDepth 100000 in
theorem ww_1328 : Cond.instanceMethod yX11_fillLawful ∈ mm_gw := mm_gw_in (mm_ch6 (List.mem_of_getElem? (i := 19) (by rfl))) rfl
set_option maxRecDepth 100000 in
theorem ww_1329 : Cond.code yX11_fillLawful cX11_fillLawful 3 (none) ∈ mm_gw := mm_gw_in (mm_ch6 (List.mem_of_getElem? (i := 20) (by rfl))) rfl
set_option maxRecDepth 100000 in
theorem ww_1330 : Cond.methodLink RX11 384 yX5_lawWorth ∈ mm_gw := mm_gw_in (mm_ch6 (List.mem_of_getElem? (i := 21) (by rfl))) rfl
set_option maxRecDepth 100000 in
theorem ww_1331 : Cond.methodLink RX11 368 yX11_gain ∈ mm_gw := mm_gw_in (mm_ch6 (List.mem_of_getElem? (i := 22) (by rfl))) rfl
set_option maxRecDepth 100000 in
theorem ww_1333 : Cond.instanceMethod yX11_gain ∈ mm_gw := mm_gw_in (mm_ch6 (List.mem_of_getElem? (i := 24) (by rfl))) rfl
set_option maxRecDepth 100000 in
theorem ww_1334 : Cond.code yX11_gain cX11_gain 7 (some .int) ∈ mm_gw := mm_gw_in (mm_ch6 (List.mem_of_getElem? (i := 25) (by rfl))) rfl
set_option maxRecDepth 100000 in
theorem ww_1335 : Cond.methodLink RX11 371 yX11_tryFirst ∈ mm_gw := mm_gw_in (mm_ch6 (List.mem_of_getElem? (i := 26) (by rfl))) rfl
set_option maxRecDepth 100000 in
theorem ww_1337 : Cond.instanceMethod yX11_tryFirst ∈ mm_gw := mm_gw_in (mm_ch6 (List.mem_of_getElem? (i := 28) (by rfl))) rfl
set_option maxRecDepth 100000 in
theorem ww_1338 : Cond.code yX11_tryFirst cX11_tryFirst 8 (none) ∈ mm_gw := mm_gw_in (mm_ch6 (List.mem_of_getElem? (i := 29) (by rfl))) rfl
set_option maxRecDepth 100000 in
theorem ww_1339 : Cond.methodLink RX11 375 yX11_keepGain ∈ mm_gw := mm_gw_in (mm_ch6 (List.mem_of_getElem? (i := 30) (by rfl))) rfl
set_option maxRecDepth 100000 in
theorem ww_1341 : Cond.instanceMethod yX11_keepGain ∈ mm_gw := mm_gw_in (mm_ch6 (List.mem_of_getElem? (i := 32) (by rfl))) rfl
set_option maxRecDepth 100000 in
theorem ww_1342 : Cond.code yX11_keepGain cX11_keepGain 5 (none) ∈ mm_gw := mm_gw_in (mm_ch6 (List.mem_of_getElem? (i := 33) (by rfl))) rfl
set_option maxRecDepth 100000 in
theorem ww_1343 : Cond.methodLink RX11 378 yX11_trySeconds ∈ mm_gw := mm_gw_in (mm_ch6 (List.mem_of_getElem? (i := 34) (by rfl))) rfl
set_option maxRecDepth 100000 in
theorem ww_1345 : Cond.instanceMethod yX11_trySeconds ∈ mm_gw := mm_gw_in (mm_ch6 (List.mem_of_getElem? (i := 36) (by rfl))) rfl
set_option maxRecDepth 100000 in
theorem ww_1346 : Cond.code yX11_trySeconds cX11_trySeconds 8 (none) ∈ mm_gw := mm_gw_in (mm_ch6 (List.mem_of_getElem? (i := 37) (by rfl))) rfl
set_option maxRecDepth 100000 in
theorem ww_1347 : Cond.methodLink RX11 381 yX5_forget ∈ mm_gw := mm_gw_in (mm_ch6 (List.mem_of_getElem? (i := 38) (by rfl))) rfl
set_option maxRecDepth 100000 in
theorem ww_1348 : Cond.instanceMethod yX5_forget ∈ mm_gw := mm_gw_in (mm_ch6 (List.mem_of_getElem? (i := 39) (by rfl))) rfl
set_option maxRecDepth 100000 in
theorem ww_1349 : Cond.selects RX5 yX5_forget yX5_forget ∈ mm_gw := mm_gw_in (mm_ch6 (List.mem_of_getElem? (i := 40) (by rfl))) rfl
set_option maxRecDepth 100000 in
theorem ww_1350 : Cond.code yX5_forget cX5_forget 4 (none) ∈ mm_gw := mm_gw_in (mm_ch6 (List.mem_of_getElem? (i := 41) (by rfl))) rfl
theorem fd_9_0 : mm_fld 9 0 = ("PaidSecretsModel", "thrown", "I", false) := by decide +kernel
set_option maxRecDepth 100000 in
theorem ww_1358 : Cond.fieldLink RX12 175 (mm_fld 9 0).1 (mm_fld 9 0).2.1 (mm_fld 9 0).2.2.1 ∈ mm_gw := by
  rw [fd_9_0]
  exact mm_gw_in (mm_ch6 (List.mem_of_getElem? (i := 49) (by rfl))) rfl
theorem fd_9_1 : mm_fld 9 1 = ("PaidSecretsModel", "taped", "I", false) := by decide +kernel
set_option maxRecDepth 100000 in
theorem ww_1359 : Cond.fieldLink RX12 181 (mm_fld 9 1).1 (mm_fld 9 1).2.1 (mm_fld 9 1).2.2.1 ∈ mm_gw := by
  rw [fd_9_1]
  exact mm_gw_in (mm_ch6 (List.mem_of_getElem? (i := 50) (by rfl))) rfl
theorem fd_9_2 : mm_fld 9 2 = ("PaidSecretsModel", "tape", "[I", true) := by decide +kernel
set_option maxRecDepth 100000 in
theorem ww_1360 : Cond.fieldLink RX12 7 (mm_fld 9 2).1 (mm_fld 9 2).2.1 (mm_fld 9 2).2.2.1 ∈ mm_gw := by
  rw [fd_9_2]
  exact mm_gw_in (mm_ch6 (List.mem_of_getElem? (i := 51) (by rfl))) rfl
theorem fd_9_3 : mm_fld 9 3 = ("PaidSecretsModel", "size", "I", false) := by decide +kernel
set_option maxRecDepth 100000 in
theorem ww_1361 : Cond.fieldLink RX12 184 (mm_fld 9 3).1 (mm_fld 9 3).2.1 (mm_fld 9 3).2.2.1 ∈ mm_gw := by
  rw [fd_9_3]
  exact mm_gw_in (mm_ch6 (List.mem_of_getElem? (i := 52) (by rfl))) rfl
theorem fd_9_4 : mm_fld 9 4 = ("PaidSecretsModel", "place", "I", false) := by decide +kernel
set_option maxRecDepth 100000 in
theorem ww_1362 : Cond.fieldLink RX12 187 (mm_fld 9 4).1 (mm_fld 9 4).2.1 (mm_fld 9 4).2.2.1 ∈ mm_gw := by
  rw [fd_9_4]
  exact mm_gw_in (mm_ch6 (List.mem_of_getElem? (i := 53) (by rfl))) rfl
theorem fd_9_5 : mm_fld 9 5 = ("PaidSecretsModel", "begin", "I", false) := by decide +kernel
set_option maxRecDepth 100000 in
theorem ww_1363 : Cond.fieldLink RX12 190 (mm_fld 9 5).1 (mm_fld 9 5).2.1 (mm_fld 9 5).2.2.1 ∈ mm_gw := by
  rw [fd_9_5]
  exact mm_gw_in (mm_ch6 (List.mem_of_getElem? (i := 54) (by rfl))) rfl
theorem fd_9_6 : mm_fld 9 6 = ("PaidSecretsModel", "token", "I", false) := by decide +kernel
set_option maxRecDepth 100000 in
theorem ww_1364 : Cond.fieldLink RX12 200 (mm_fld 9 6).1 (mm_fld 9 6).2.1 (mm_fld 9 6).2.2.1 ∈ mm_gw := by
  rw [fd_9_6]
  exact mm_gw_in (mm_ch6 (List.mem_of_getElem? (i := 55) (by rfl))) rfl
theorem fd_9_7 : mm_fld 9 7 = ("PaidSecretsModel", "word", "J", false) := by decide +kernel
set_option maxRecDepth 100000 in
theorem ww_1365 : Cond.fieldLink RX12 193 (mm_fld 9 7).1 (mm_fld 9 7).2.1 (mm_fld 9 7).2.2.1 ∈ mm_gw := by
  rw [fd_9_7]
  exact mm_gw_in (mm_ch6 (List.mem_of_getElem? (i := 56) (by rfl))) rfl
theorem fd_9_8 : mm_fld 9 8 = ("PaidSecretsModel", "told", "I", false) := by decide +kernel
set_option maxRecDepth 100000 in
theorem ww_1366 : Cond.fieldLink RX12 197 (mm_fld 9 8).1 (mm_fld 9 8).2.1 (mm_fld 9 8).2.2.1 ∈ mm_gw := by
  rw [fd_9_8]
  exact mm_gw_in (mm_ch6 (List.mem_of_getElem? (i := 57) (by rfl))) rfl
theorem fd_9_9 : mm_fld 9 9 = ("PaidSecretsModel", "wrong", "I", false) := by decide +kernel
set_option maxRecDepth 100000 in
theorem ww_1367 : Cond.fieldLink RX12 211 (mm_fld 9 9).1 (mm_fld 9 9).2.1 (mm_fld 9 9).2.2.1 ∈ mm_gw := by
  rw [fd_9_9]
  exact mm_gw_in (mm_ch6 (List.mem_of_getElem? (i := 58) (by rfl))) rfl
theorem fd_9_10 : mm_fld 9 10 = ("PaidSecretsModel", "town", "[I", true) := by decide +kernel
set_option maxRecDepth 100000 in
theorem ww_1368 : Cond.fieldLink RX12 13 (mm_fld 9 10).1 (mm_fld 9 10).2.1 (mm_fld 9 10).2.2.1 ∈ mm_gw := by
  rw [fd_9_10]
  exact mm_gw_in (mm_ch6 (List.mem_of_getElem? (i := 59) (by rfl))) rfl
theorem fd_9_11 : mm_fld 9 11 = ("PaidSecretsModel", "personName", "[J", true) := by decide +kernel
set_option maxRecDepth 100000 in
theorem ww_1369 : Cond.fieldLink RX12 16 (mm_fld 9 11).1 (mm_fld 9 11).2.1 (mm_fld 9 11).2.2.1 ∈ mm_gw := by
  rw [fd_9_11]
  exact mm_gw_in (mm_ch6 (List.mem_of_getElem? (i := 60) (by rfl))) rfl
theorem fd_9_12 : mm_fld 9 12 = ("PaidSecretsModel", "secretName", "[J", true) := by decide +kernel
set_option maxRecDepth 100000 in
theorem ww_1370 : Cond.fieldLink RX12 20 (mm_fld 9 12).1 (mm_fld 9 12).2.1 (mm_fld 9 12).2.2.1 ∈ mm_gw := by
  rw [fd_9_12]
  exact mm_gw_in (mm_ch6 (List.mem_of_getElem? (i := 61) (by rfl))) rfl
theorem fd_9_13 : mm_fld 9 13 = ("PaidSecretsModel", "kind", "[I", true) := by decide +kernel
set_option maxRecDepth 100000 in
theorem ww_1371 : Cond.fieldLink RX12 23 (mm_fld 9 13).1 (mm_fld 9 13).2.1 (mm_fld 9 13).2.2.1 ∈ mm_gw := by
  rw [fd_9_13]
  exact mm_gw_in (mm_ch6 (List.mem_of_getElem? (i := 62) (by rfl))) rfl
theorem fd_9_14 : mm_fld 9 14 = ("PaidSecretsModel", "rankTold", "[I", true) := by decide +kernel
set_option maxRecDepth 100000 in
theorem ww_1372 : Cond.fieldLink RX12 26 (mm_fld 9 14).1 (mm_fld 9 14).2.1 (mm_fld 9 14).2.2.1 ∈ mm_gw := by
  rw [fd_9_14]
  exact mm_gw_in (mm_ch6 (List.mem_of_getElem? (i := 63) (by rfl))) rfl
theorem fd_9_15 : mm_fld 9 15 = ("PaidSecretsModel", "tax", "[I", true) := by decide +kernel
set_option maxRecDepth 100000 in
theorem ww_1373 : Cond.fieldLink RX12 29 (mm_fld 9 15).1 (mm_fld 9 15).2.1 (mm_fld 9 15).2.2.1 ∈ mm_gw := by
  rw [fd_9_15]
  exact mm_gw_in (mm_ch6 (List.mem_of_getElem? (i := 64) (by rfl))) rfl
theorem fd_9_16 : mm_fld 9 16 = ("PaidSecretsModel", "truth", "[I", true) := by decide +kernel
set_option maxRecDepth 100000 in
theorem ww_1374 : Cond.fieldLink RX12 32 (mm_fld 9 16).1 (mm_fld 9 16).2.1 (mm_fld 9 16).2.2.1 ∈ mm_gw := by
  rw [fd_9_16]
  exact mm_gw_in (mm_ch6 (List.mem_of_getElem? (i := 65) (by rfl))) rfl
theorem fd_9_17 : mm_fld 9 17 = ("PaidSecretsModel", "whose", "[I", true) := by decide +kernel
set_option maxRecDepth 100000 in
theorem ww_1375 : Cond.fieldLink RX12 35 (mm_fld 9 17).1 (mm_fld 9 17).2.1 (mm_fld 9 17).2.2.1 ∈ mm_gw := by
  rw [fd_9_17]
  exact mm_gw_in (mm_ch6 (List.mem_of_getElem? (i := 66) (by rfl))) rfl
theorem fd_9_18 : mm_fld 9 18 = ("PaidSecretsModel", "costs", "[I", true) := by decide +kernel
set_option maxRecDepth 100000 in
theorem ww_1376 : Cond.fieldLink RX12 38 (mm_fld 9 18).1 (mm_fld 9 18).2.1 (mm_fld 9 18).2.2.1 ∈ mm_gw := by
  rw [fd_9_18]
  exact mm_gw_in (mm_ch6 (List.mem_of_getElem? (i := 67) (by rfl))) rfl
theorem fd_9_19 : mm_fld 9 19 = ("PaidSecretsModel", "onSecret", "[I", true) := by decide +kernel
set_option maxRecDepth 100000 in
theorem ww_1377 : Cond.fieldLink RX12 41 (mm_fld 9 19).1 (mm_fld 9 19).2.1 (mm_fld 9 19).2.2.1 ∈ mm_gw := by
  rw [fd_9_19]
  exact mm_gw_in (mm_ch6 (List.mem_of_getElem? (i := 68) (by rfl))) rfl
theorem fd_9_20 : mm_fld 9 20 = ("PaidSecretsModel", "knowTold", "[I", true) := by decide +kernel
set_option maxRecDepth 100000 in
theorem ww_1378 : Cond.fieldLink RX12 44 (mm_fld 9 20).1 (mm_fld 9 20).2.1 (mm_fld 9 20).2.2.1 ∈ mm_gw := by
  rw [fd_9_20]
  exact mm_gw_in (mm_ch6 (List.mem_of_getElem? (i := 69) (by rfl))) rfl
theorem fd_9_21 : mm_fld 9 21 = ("PaidSecretsModel", "clashes", "[I", true) := by decide +kernel
set_option maxRecDepth 100000 in
theorem ww_1379 : Cond.fieldLink RX12 47 (mm_fld 9 21).1 (mm_fld 9 21).2.1 (mm_fld 9 21).2.2.1 ∈ mm_gw := by
  rw [fd_9_21]
  exact mm_gw_in (mm_ch6 (List.mem_of_getElem? (i := 70) (by rfl))) rfl
theorem fd_9_22 : mm_fld 9 22 = ("PaidSecretsModel", "earFrom", "[I", true) := by decide +kernel
set_option maxRecDepth 100000 in
theorem ww_1380 : Cond.fieldLink RX12 50 (mm_fld 9 22).1 (mm_fld 9 22).2.1 (mm_fld 9 22).2.2.1 ∈ mm_gw := by
  rw [fd_9_22]
  exact mm_gw_in (mm_ch6 (List.mem_of_getElem? (i := 71) (by rfl))) rfl
theorem fd_9_23 : mm_fld 9 23 = ("PaidSecretsModel", "earTo", "[I", true) := by decide +kernel
set_option maxRecDepth 100000 in
theorem ww_1381 : Cond.fieldLink RX12 53 (mm_fld 9 23).1 (mm_fld 9 23).2.1 (mm_fld 9 23).2.2.1 ∈ mm_gw := by
  rw [fd_9_23]
  exact mm_gw_in (mm_ch6 (List.mem_of_getElem? (i := 72) (by rfl))) rfl
theorem fd_9_24 : mm_fld 9 24 = ("PaidSecretsModel", "earChance", "[I", true) := by decide +kernel
set_option maxRecDepth 100000 in
theorem ww_1382 : Cond.fieldLink RX12 56 (mm_fld 9 24).1 (mm_fld 9 24).2.1 (mm_fld 9 24).2.2.1 ∈ mm_gw := by
  rw [fd_9_24]
  exact mm_gw_in (mm_ch6 (List.mem_of_getElem? (i := 73) (by rfl))) rfl
theorem fd_9_25 : mm_fld 9 25 = ("PaidSecretsModel", "lineFrom", "[I", true) := by decide +kernel
set_option maxRecDepth 100000 in
theorem ww_1383 : Cond.fieldLink RX12 59 (mm_fld 9 25).1 (mm_fld 9 25).2.1 (mm_fld 9 25).2.2.1 ∈ mm_gw := by
  rw [fd_9_25]
  exact mm_gw_in (mm_ch6 (List.mem_of_getElem? (i := 74) (by rfl))) rfl
theorem fd_9_26 : mm_fld 9 26 = ("PaidSecretsModel", "lineTo", "[I", true) := by decide +kernel
set_option maxRecDepth 100000 in
theorem ww_1384 : Cond.fieldLink RX12 62 (mm_fld 9 26).1 (mm_fld 9 26).2.1 (mm_fld 9 26).2.2.1 ∈ mm_gw := by
  rw [fd_9_26]
  exact mm_gw_in (mm_ch6 (List.mem_of_getElem? (i := 75) (by rfl))) rfl
theorem fd_9_27 : mm_fld 9 27 = ("PaidSecretsModel", "codes", "[I", true) := by decide +kernel
set_option maxRecDepth 100000 in
theorem ww_1385 : Cond.fieldLink RX12 65 (mm_fld 9 27).1 (mm_fld 9 27).2.1 (mm_fld 9 27).2.2.1 ∈ mm_gw := by
  rw [fd_9_27]
  exact mm_gw_in (mm_ch6 (List.mem_of_getElem? (i := 76) (by rfl))) rfl
theorem fd_9_28 : mm_fld 9 28 = ("PaidSecretsModel", "code", "I", false) := by decide +kernel
set_option maxRecDepth 100000 in
theorem ww_1386 : Cond.fieldLink RX12 214 (mm_fld 9 28).1 (mm_fld 9 28).2.1 (mm_fld 9 28).2.2.1 ∈ mm_gw := by
  rw [fd_9_28]
  exact mm_gw_in (mm_ch6 (List.mem_of_getElem? (i := 77) (by rfl))) rfl
theorem fd_9_29 : mm_fld 9 29 = ("PaidSecretsModel", "opened", "[I", true) := by decide +kernel
set_option maxRecDepth 100000 in
theorem ww_1387 : Cond.fieldLink RX12 68 (mm_fld 9 29).1 (mm_fld 9 29).2.1 (mm_fld 9 29).2.2.1 ∈ mm_gw := by
  rw [fd_9_29]
  exact mm_gw_in (mm_ch6 (List.mem_of_getElem? (i := 78) (by rfl))) rfl
theorem fd_9_30 : mm_fld 9 30 = ("PaidSecretsModel", "compared", "[Z", true) := by decide +kernel
set_option maxRecDepth 100000 in
theorem ww_1388 : Cond.fieldLink RX12 71 (mm_fld 9 30).1 (mm_fld 9 30).2.1 (mm_fld 9 30).2.2.1 ∈ mm_gw := by
  rw [fd_9_30]
  exact mm_gw_in (mm_ch6 (List.mem_of_getElem? (i := 79) (by rfl))) rfl
theorem fd_9_31 : mm_fld 9 31 = ("PaidSecretsModel", "kept", "[I", true) := by decide +kernel
set_option maxRecDepth 100000 in
theorem ww_1389 : Cond.fieldLink RX12 75 (mm_fld 9 31).1 (mm_fld 9 31).2.1 (mm_fld 9 31).2.2.1 ∈ mm_gw := by
  rw [fd_9_31]
  exact mm_gw_in (mm_ch6 (List.mem_of_getElem? (i := 80) (by rfl))) rfl
theorem fd_9_32 : mm_fld 9 32 = ("PaidSecretsModel", "keptBy", "[I", true) := by decide +kernel
set_option maxRecDepth 100000 in
theorem ww_1390 : Cond.fieldLink RX12 78 (mm_fld 9 32).1 (mm_fld 9 32).2.1 (mm_fld 9 32).2.2.1 ∈ mm_gw := by
  rw [fd_9_32]
  exact mm_gw_in (mm_ch6 (List.mem_of_getElem? (i := 81) (by rfl))) rfl
theorem fd_9_33 : mm_fld 9 33 = ("PaidSecretsModel", "ahead", "[I", true) := by decide +kernel
set_option maxRecDepth 100000 in
theorem ww_1391 : Cond.fieldLink RX12 81 (mm_fld 9 33).1 (mm_fld 9 33).2.1 (mm_fld 9 33).2.2.1 ∈ mm_gw := by
  rw [fd_9_33]
  exact mm_gw_in (mm_ch6 (List.mem_of_getElem? (i := 82) (by rfl))) rfl
theorem fd_9_34 : mm_fld 9 34 = ("PaidSecretsModel", "against", "[I", true) := by decide +kernel
set_option maxRecDepth 100000 in
theorem ww_1392 : Cond.fieldLink RX12 84 (mm_fld 9 34).1 (mm_fld 9 34).2.1 (mm_fld 9 34).2.2.1 ∈ mm_gw := by
  rw [fd_9_34]
  exact mm_gw_in (mm_ch6 (List.mem_of_getElem? (i := 83) (by rfl))) rfl
theorem fd_9_35 : mm_fld 9 35 = ("PaidSecretsModel", "sum", "[I", true) := by decide +kernel
set_option maxRecDepth 100000 in
theorem ww_1393 : Cond.fieldLink RX12 87 (mm_fld 9 35).1 (mm_fld 9 35).2.1 (mm_fld 9 35).2.2.1 ∈ mm_gw := by
  rw [fd_9_35]
  exact mm_gw_in (mm_ch6 (List.mem_of_getElem? (i := 84) (by rfl))) rfl
theorem fd_9_36 : mm_fld 9 36 = ("PaidSecretsModel", "sumBy", "[I", true) := by decide +kernel
set_option maxRecDepth 100000 in
theorem ww_1394 : Cond.fieldLink RX12 90 (mm_fld 9 36).1 (mm_fld 9 36).2.1 (mm_fld 9 36).2.2.1 ∈ mm_gw := by
  rw [fd_9_36]
  exact mm_gw_in (mm_ch6 (List.mem_of_getElem? (i := 85) (by rfl))) rfl
theorem fd_9_37 : mm_fld 9 37 = ("PaidSecretsModel", "term", "[I", true) := by decide +kernel
set_option maxRecDepth 100000 in
theorem ww_1395 : Cond.fieldLink RX12 93 (mm_fld 9 37).1 (mm_fld 9 37).2.1 (mm_fld 9 37).2.2.1 ∈ mm_gw := by
  rw [fd_9_37]
  exact mm_gw_in (mm_ch6 (List.mem_of_getElem? (i := 86) (by rfl))) rfl
theorem fd_9_38 : mm_fld 9 38 = ("PaidSecretsModel", "termBy", "[I", true) := by decide +kernel
set_option maxRecDepth 100000 in
theorem ww_1396 : Cond.fieldLink RX12 96 (mm_fld 9 38).1 (mm_fld 9 38).2.1 (mm_fld 9 38).2.2.1 ∈ mm_gw := by
  rw [fd_9_38]
  exact mm_gw_in (mm_ch6 (List.mem_of_getElem? (i := 87) (by rfl))) rfl
theorem fd_9_39 : mm_fld 9 39 = ("PaidSecretsModel", "byNot", "[I", true) := by decide +kernel
set_option maxRecDepth 100000 in
theorem ww_1397 : Cond.fieldLink RX12 99 (mm_fld 9 39).1 (mm_fld 9 39).2.1 (mm_fld 9 39).2.2.1 ∈ mm_gw := by
  rw [fd_9_39]
  exact mm_gw_in (mm_ch6 (List.mem_of_getElem? (i := 88) (by rfl))) rfl
theorem fd_9_40 : mm_fld 9 40 = ("PaidSecretsModel", "valueOf", "[I", true) := by decide +kernel
set_option maxRecDepth 100000 in
theorem ww_1398 : Cond.fieldLink RX12 102 (mm_fld 9 40).1 (mm_fld 9 40).2.1 (mm_fld 9 40).2.2.1 ∈ mm_gw := by
  rw [fd_9_40]
  exact mm_gw_in (mm_ch6 (List.mem_of_getElem? (i := 89) (by rfl))) rfl
theorem fd_9_41 : mm_fld 9 41 = ("PaidSecretsModel", "given", "I", false) := by decide +kernel
set_option maxRecDepth 100000 in
theorem ww_1399 : Cond.fieldLink RX12 312 (mm_fld 9 41).1 (mm_fld 9 41).2.1 (mm_fld 9 41).2.2.1 ∈ mm_gw := by
  rw [fd_9_41]
  exact mm_gw_in (mm_ch6 (List.mem_of_getElem? (i := 90) (by rfl))) rfl
theorem fd_9_42 : mm_fld 9 42 = ("PaidSecretsModel", "lines", "[I", true) := by decide +kernel
set_option maxRecDepth 100000 in
theorem ww_1400 : Cond.fieldLink RX12 105 (mm_fld 9 42).1 (mm_fld 9 42).2.1 (mm_fld 9 42).2.2.1 ∈ mm_gw := by
  rw [fd_9_42]
  exact mm_gw_in (mm_ch6 (List.mem_of_getElem? (i := 91) (by rfl))) rfl
theorem fd_9_43 : mm_fld 9 43 = ("PaidSecretsModel", "lineWhat", "[I", true) := by decide +kernel
set_option maxRecDepth 100000 in
theorem ww_1401 : Cond.fieldLink RX12 108 (mm_fld 9 43).1 (mm_fld 9 43).2.1 (mm_fld 9 43).2.2.1 ∈ mm_gw := by
  rw [fd_9_43]
  exact mm_gw_in (mm_ch6 (List.mem_of_getElem? (i := 92) (by rfl))) rfl
theorem fd_9_44 : mm_fld 9 44 = ("PaidSecretsModel", "lineA", "[I", true) := by decide +kernel
set_option maxRecDepth 100000 in
theorem ww_1402 : Cond.fieldLink RX12 111 (mm_fld 9 44).1 (mm_fld 9 44).2.1 (mm_fld 9 44).2.2.1 ∈ mm_gw := by
  rw [fd_9_44]
  exact mm_gw_in (mm_ch6 (List.mem_of_getElem? (i := 93) (by rfl))) rfl
theorem fd_9_45 : mm_fld 9 45 = ("PaidSecretsModel", "lineB", "[I", true) := by decide +kernel
set_option maxRecDepth 100000 in
theorem ww_1403 : Cond.fieldLink RX12 114 (mm_fld 9 45).1 (mm_fld 9 45).2.1 (mm_fld 9 45).2.2.1 ∈ mm_gw := by
  rw [fd_9_45]
  exact mm_gw_in (mm_ch6 (List.mem_of_getElem? (i := 94) (by rfl))) rfl
theorem fd_9_46 : mm_fld 9 46 = ("PaidSecretsModel", "lineC", "[I", true) := by decide +kernel
set_option maxRecDepth 100000 in
theorem ww_1404 : Cond.fieldLink RX12 117 (mm_fld 9 46).1 (mm_fld 9 46).2.1 (mm_fld 9 46).2.2.1 ∈ mm_gw := by
  rw [fd_9_46]
  exact mm_gw_in (mm_ch6 (List.mem_of_getElem? (i := 95) (by rfl))) rfl
theorem fd_9_47 : mm_fld 9 47 = ("PaidSecretsModel", "seens", "[I", true) := by decide +kernel
set_option maxRecDepth 100000 in
theorem ww_1405 : Cond.fieldLink RX12 120 (mm_fld 9 47).1 (mm_fld 9 47).2.1 (mm_fld 9 47).2.2.1 ∈ mm_gw := by
  rw [fd_9_47]
  exact mm_gw_in (mm_ch6 (List.mem_of_getElem? (i := 96) (by rfl))) rfl
theorem fd_9_48 : mm_fld 9 48 = ("PaidSecretsModel", "seen", "[I", true) := by decide +kernel
set_option maxRecDepth 100000 in
theorem ww_1406 : Cond.fieldLink RX12 123 (mm_fld 9 48).1 (mm_fld 9 48).2.1 (mm_fld 9 48).2.2.1 ∈ mm_gw := by
  rw [fd_9_48]
  exact mm_gw_in (mm_ch6 (List.mem_of_getElem? (i := 97) (by rfl))) rfl
theorem fd_9_49 : mm_fld 9 49 = ("PaidSecretsModel", "seenFell", "[Z", true) := by decide +kernel
set_option maxRecDepth 100000 in
theorem ww_1407 : Cond.fieldLink RX12 126 (mm_fld 9 49).1 (mm_fld 9 49).2.1 (mm_fld 9 49).2.2.1 ∈ mm_gw := by
  rw [fd_9_49]
  exact mm_gw_in (mm_ch6 (List.mem_of_getElem? (i := 98) (by rfl))) rfl
theorem fd_9_50 : mm_fld 9 50 = ("PaidSecretsModel", "s", "[I", true) := by decide +kernel
set_option maxRecDepth 100000 in
theorem ww_1408 : Cond.fieldLink RX12 129 (mm_fld 9 50).1 (mm_fld 9 50).2.1 (mm_fld 9 50).2.2.1 ∈ mm_gw := by
  rw [fd_9_50]
  exact mm_gw_in (mm_ch6 (List.mem_of_getElem? (i := 99) (by rfl))) rfl
theorem fd_9_51 : mm_fld 9 51 = ("PaidSecretsModel", "aside", "[I", true) := by decide +kernel
set_option maxRecDepth 100000 in
theorem ww_1409 : Cond.fieldLink RX12 132 (mm_fld 9 51).1 (mm_fld 9 51).2.1 (mm_fld 9 51).2.2.1 ∈ mm_gw := by
  rw [fd_9_51]
  exact mm_gw_in (mm_ch6 (List.mem_of_getElem? (i := 100) (by rfl))) rfl
theorem fd_9_52 : mm_fld 9 52 = ("PaidSecretsModel", "marked", "[I", true) := by decide +kernel
set_option maxRecDepth 100000 in
theorem ww_1410 : Cond.fieldLink RX12 135 (mm_fld 9 52).1 (mm_fld 9 52).2.1 (mm_fld 9 52).2.2.1 ∈ mm_gw := by
  rw [fd_9_52]
  exact mm_gw_in (mm_ch6 (List.mem_of_getElem? (i := 101) (by rfl))) rfl
theorem fd_9_53 : mm_fld 9 53 = ("PaidSecretsModel", "undone", "[I", true) := by decide +kernel
set_option maxRecDepth 100000 in
theorem ww_1411 : Cond.fieldLink RX12 138 (mm_fld 9 53).1 (mm_fld 9 53).2.1 (mm_fld 9 53).2.2.1 ∈ mm_gw := by
  rw [fd_9_53]
  exact mm_gw_in (mm_ch6 (List.mem_of_getElem? (i := 102) (by rfl))) rfl
theorem fd_9_54 : mm_fld 9 54 = ("PaidSecretsModel", "isLaid", "[Z", true) := by decide +kernel
set_option maxRecDepth 100000 in
theorem ww_1412 : Cond.fieldLink RX12 141 (mm_fld 9 54).1 (mm_fld 9 54).2.1 (mm_fld 9 54).2.2.1 ∈ mm_gw := by
  rw [fd_9_54]
  exact mm_gw_in (mm_ch6 (List.mem_of_getElem? (i := 103) (by rfl))) rfl
theorem fd_9_55 : mm_fld 9 55 = ("PaidSecretsModel", "done", "I", false) := by decide +kernel
set_option maxRecDepth 100000 in
theorem ww_1413 : Cond.fieldLink RX12 398 (mm_fld 9 55).1 (mm_fld 9 55).2.1 (mm_fld 9 55).2.2.1 ∈ mm_gw := by
  rw [fd_9_55]
  exact mm_gw_in (mm_ch6 (List.mem_of_getElem? (i := 104) (by rfl))) rfl
theorem fd_9_56 : mm_fld 9 56 = ("PaidSecretsModel", "together", "[Z", true) := by decide +kernel
set_option maxRecDepth 100000 in
theorem ww_1414 : Cond.fieldLink RX12 145 (mm_fld 9 56).1 (mm_fld 9 56).2.1 (mm_fld 9 56).2.2.1 ∈ mm_gw := by
  rw [fd_9_56]
  exact mm_gw_in (mm_ch6 (List.mem_of_getElem? (i := 105) (by rfl))) rfl
theorem fd_9_57 : mm_fld 9 57 = ("PaidSecretsModel", "isEnough", "[Z", true) := by decide +kernel
set_option maxRecDepth 100000 in
theorem ww_1415 : Cond.fieldLink RX12 148 (mm_fld 9 57).1 (mm_fld 9 57).2.1 (mm_fld 9 57).2.2.1 ∈ mm_gw := by
  rw [fd_9_57]
  exact mm_gw_in (mm_ch6 (List.mem_of_getElem? (i := 106) (by rfl))) rfl
theorem fd_9_58 : mm_fld 9 58 = ("PaidSecretsModel", "telling", "[I", true) := by decide +kernel
set_option maxRecDepth 100000 in
theorem ww_1416 : Cond.fieldLink RX12 151 (mm_fld 9 58).1 (mm_fld 9 58).2.1 (mm_fld 9 58).2.2.1 ∈ mm_gw := by
  rw [fd_9_58]
  exact mm_gw_in (mm_ch6 (List.mem_of_getElem? (i := 107) (by rfl))) rfl
theorem fd_9_59 : mm_fld 9 59 = ("PaidSecretsModel", "bestTelling", "[I", true) := by decide +kernel
set_option maxRecDepth 100000 in
theorem ww_1417 : Cond.fieldLink RX12 154 (mm_fld 9 59).1 (mm_fld 9 59).2.1 (mm_fld 9 59).2.2.1 ∈ mm_gw := by
  rw [fd_9_59]
  exact mm_gw_in (mm_ch6 (List.mem_of_getElem? (i := 108) (by rfl))) rfl
theorem fd_9_60 : mm_fld 9 60 = ("PaidSecretsModel", "bestGap", "I", false) := by decide +kernel
set_option maxRecDepth 100000 in
theorem ww_1418 : Cond.fieldLink RX12 504 (mm_fld 9 60).1 (mm_fld 9 60).2.1 (mm_fld 9 60).2.2.1 ∈ mm_gw := by
  rw [fd_9_60]
  exact mm_gw_in (mm_ch6 (List.mem_of_getElem? (i := 109) (by rfl))) rfl
theorem fd_9_61 : mm_fld 9 61 = ("PaidSecretsModel", "bestMany", "I", false) := by decide +kernel
set_option maxRecDepth 100000 in
theorem ww_1419 : Cond.fieldLink RX12 501 (mm_fld 9 61).1 (mm_fld 9 61).2.1 (mm_fld 9 61).2.2.1 ∈ mm_gw := by
  rw [fd_9_61]
  exact mm_gw_in (mm_ch6 (List.mem_of_getElem? (i := 110) (by rfl))) rfl
theorem fd_9_62 : mm_fld 9 62 = ("PaidSecretsModel", "odds", "[I", true) := by decide +kernel
set_option maxRecDepth 100000 in
theorem ww_1420 : Cond.fieldLink RX12 157 (mm_fld 9 62).1 (mm_fld 9 62).2.1 (mm_fld 9 62).2.2.1 ∈ mm_gw := by
  rw [fd_9_62]
  exact mm_gw_in (mm_ch6 (List.mem_of_getElem? (i := 111) (by rfl))) rfl
theorem fd_9_63 : mm_fld 9 63 = ("PaidSecretsModel", "oddsThen", "[I", true) := by decide +kernel
set_option maxRecDepth 100000 in
theorem ww_1421 : Cond.fieldLink RX12 160 (mm_fld 9 63).1 (mm_fld 9 63).2.1 (mm_fld 9 63).2.2.1 ∈ mm_gw := by
  rw [fd_9_63]
  exact mm_gw_in (mm_ch6 (List.mem_of_getElem? (i := 112) (by rfl))) rfl
theorem fd_9_64 : mm_fld 9 64 = ("PaidSecretsModel", "hears", "[I", true) := by decide +kernel
set_option maxRecDepth 100000 in
theorem ww_1422 : Cond.fieldLink RX12 163 (mm_fld 9 64).1 (mm_fld 9 64).2.1 (mm_fld 9 64).2.2.1 ∈ mm_gw := by
  rw [fd_9_64]
  exact mm_gw_in (mm_ch6 (List.mem_of_getElem? (i := 113) (by rfl))) rfl
theorem fd_9_65 : mm_fld 9 65 = ("PaidSecretsModel", "groups", "[I", true) := by decide +kernel
set_option maxRecDepth 100000 in
theorem ww_1423 : Cond.fieldLink RX12 166 (mm_fld 9 65).1 (mm_fld 9 65).2.1 (mm_fld 9 65).2.2.1 ∈ mm_gw := by
  rw [fd_9_65]
  exact mm_gw_in (mm_ch6 (List.mem_of_getElem? (i := 114) (by rfl))) rfl
theorem fd_9_66 : mm_fld 9 66 = ("PaidSecretsModel", "guest", "[I", true) := by decide +kernel
set_option maxRecDepth 100000 in
theorem ww_1424 : Cond.fieldLink RX12 169 (mm_fld 9 66).1 (mm_fld 9 66).2.1 (mm_fld 9 66).2.2.1 ∈ mm_gw := by
  rw [fd_9_66]
  exact mm_gw_in (mm_ch6 (List.mem_of_getElem? (i := 115) (by rfl))) rfl
theorem fd_9_67 : mm_fld 9 67 = ("PaidSecretsModel", "chosen", "[I", true) := by decide +kernel
set_option maxRecDepth 100000 in
theorem ww_1425 : Cond.fieldLink RX12 172 (mm_fld 9 67).1 (mm_fld 9 67).2.1 (mm_fld 9 67).2.2.1 ∈ mm_gw := by
  rw [fd_9_67]
  exact mm_gw_in (mm_ch6 (List.mem_of_getElem? (i := 116) (by rfl))) rfl
theorem fd_9_68 : mm_fld 9 68 = ("PaidSecretsModel", "guests", "I", false) := by decide +kernel
set_option maxRecDepth 100000 in
theorem ww_1426 : Cond.fieldLink RX12 531 (mm_fld 9 68).1 (mm_fld 9 68).2.1 (mm_fld 9 68).2.2.1 ∈ mm_gw := by
  rw [fd_9_68]
  exact mm_gw_in (mm_ch6 (List.mem_of_getElem? (i := 117) (by rfl))) rfl
theorem fd_9_69 : mm_fld 9 69 = ("PaidSecretsModel", "g", "J", false) := by decide +kernel
set_option maxRecDepth 100000 in
theorem ww_1427 : Cond.fieldLink RX12 543 (mm_fld 9 69).1 (mm_fld 9 69).2.1 (mm_fld 9 69).2.2.1 ∈ mm_gw := by
  rw [fd_9_69]
  exact mm_gw_in (mm_ch6 (List.mem_of_getElem? (i := 118) (by rfl))) rfl
set_option maxRecDepth 100000 in
theorem ww_1428 : Cond.lays RX12 "PaidSecretsModel" "thrown" "I" ∈ mm_gw := mm_gw_in (mm_ch6 (List.mem_of_getElem? (i := 119) (by rfl))) rfl
set_option maxRecDepth 100000 in
theorem ww_1430 : Cond.lays RX12 "PaidSecretsModel" "taped" "I" ∈ mm_gw := mm_gw_in (mm_ch6 (List.mem_of_getElem? (i := 121) (by rfl))) rfl
set_option maxRecDepth 100000 in
theorem ww_1432 : Cond.laysFinal RX12 "PaidSecretsModel" "tape" "[I" ∈ mm_gw := mm_gw_in (mm_ch6 (List.mem_of_getElem? (i := 123) (by rfl))) rfl
set_option maxRecDepth 100000 in
theorem ww_1434 : Cond.lays RX12 "PaidSecretsModel" "size" "I" ∈ mm_gw := mm_gw_in (mm_ch6 (List.mem_of_getElem? (i := 125) (by rfl))) rfl
set_option maxRecDepth 100000 in
theorem ww_1436 : Cond.lays RX12 "PaidSecretsModel" "place" "I" ∈ mm_gw := mm_gw_in (mm_ch6 (List.mem_of_getElem? (i := 127) (by rfl))) rfl
set_option maxRecDepth 100000 in
theorem ww_1438 : Cond.lays RX12 "PaidSecretsModel" "begin" "I" ∈ mm_gw := mm_gw_in (mm_ch6 (List.mem_of_getElem? (i := 129) (by rfl))) rfl
set_option maxRecDepth 100000 in
theorem ww_1440 : Cond.lays RX12 "PaidSecretsModel" "token" "I" ∈ mm_gw := mm_gw_in (mm_ch6 (List.mem_of_getElem? (i := 131) (by rfl))) rfl
set_option maxRecDepth 100000 in
theorem ww_1442 : Cond.lays RX12 "PaidSecretsModel" "word" "J" ∈ mm_gw := mm_gw_in (mm_ch6 (List.mem_of_getElem? (i := 133) (by rfl))) rfl
set_option maxRecDepth 100000 in
theorem ww_1444 : Cond.lays RX12 "PaidSecretsModel" "told" "I" ∈ mm_gw := mm_gw_in (mm_ch6 (List.mem_of_getElem? (i := 135) (by rfl))) rfl
set_option maxRecDepth 100000 in
theorem ww_1446 : Cond.lays RX12 "PaidSecretsModel" "wrong" "I" ∈ mm_gw := mm_gw_in (mm_ch6 (List.mem_of_getElem? (i := 137) (by rfl))) rfl
set_option maxRecDepth 100000 in
theorem ww_1448 : Cond.laysFinal RX12 "PaidSecretsModel" "town" "[I" ∈ mm_gw := mm_gw_in (mm_ch6 (List.mem_of_getElem? (i := 139) (by rfl))) rfl
set_option maxRecDepth 100000 in
theorem ww_1450 : Cond.laysFinal RX12 "PaidSecretsModel" "personName" "[J" ∈ mm_gw := mm_gw_in (mm_ch6 (List.mem_of_getElem? (i := 141) (by rfl))) rfl
set_option maxRecDepth 100000 in
theorem ww_1452 : Cond.laysFinal RX12 "PaidSecretsModel" "secretName" "[J" ∈ mm_gw := mm_gw_in (mm_ch6 (List.mem_of_getElem? (i := 143) (by rfl))) rfl
set_option maxRecDepth 100000 in
theorem ww_1454 : Cond.laysFinal RX12 "PaidSecretsModel" "kind" "[I" ∈ mm_gw := mm_gw_in (mm_ch6 (List.mem_of_getElem? (i := 145) (by rfl))) rfl
set_option maxRecDepth 100000 in
theorem ww_1456 : Cond.laysFinal RX12 "PaidSecretsModel" "rankTold" "[I" ∈ mm_gw := mm_gw_in (mm_ch6 (List.mem_of_getElem? (i := 147) (by rfl))) rfl
set_option maxRecDepth 100000 in
theorem ww_1458 : Cond.laysFinal RX12 "PaidSecretsModel" "tax" "[I" ∈ mm_gw := mm_gw_in (mm_ch6 (List.mem_of_getElem? (i := 149) (by rfl))) rfl
set_option maxRecDepth 100000 in
theorem ww_1460 : Cond.laysFinal RX12 "PaidSecretsModel" "truth" "[I" ∈ mm_gw := mm_gw_in (mm_ch6 (List.mem_of_getElem? (i := 151) (by rfl))) rfl
set_option maxRecDepth 100000 in
theorem ww_1462 : Cond.laysFinal RX12 "PaidSecretsModel" "whose" "[I" ∈ mm_gw := mm_gw_in (mm_ch6 (List.mem_of_getElem? (i := 153) (by rfl))) rfl
set_option maxRecDepth 100000 in
theorem ww_1464 : Cond.laysFinal RX12 "PaidSecretsModel" "costs" "[I" ∈ mm_gw := mm_gw_in (mm_ch6 (List.mem_of_getElem? (i := 155) (by rfl))) rfl
set_option maxRecDepth 100000 in
theorem ww_1466 : Cond.laysFinal RX12 "PaidSecretsModel" "onSecret" "[I" ∈ mm_gw := mm_gw_in (mm_ch6 (List.mem_of_getElem? (i := 157) (by rfl))) rfl
set_option maxRecDepth 100000 in
theorem ww_1468 : Cond.laysFinal RX12 "PaidSecretsModel" "knowTold" "[I" ∈ mm_gw := mm_gw_in (mm_ch6 (List.mem_of_getElem? (i := 159) (by rfl))) rfl
set_option maxRecDepth 100000 in
theorem ww_1470 : Cond.laysFinal RX12 "PaidSecretsModel" "clashes" "[I" ∈ mm_gw := mm_gw_in (mm_ch6 (List.mem_of_getElem? (i := 161) (by rfl))) rfl
set_option maxRecDepth 100000 in
theorem ww_1472 : Cond.laysFinal RX12 "PaidSecretsModel" "earFrom" "[I" ∈ mm_gw := mm_gw_in (mm_ch6 (List.mem_of_getElem? (i := 163) (by rfl))) rfl
set_option maxRecDepth 100000 in
theorem ww_1474 : Cond.laysFinal RX12 "PaidSecretsModel" "earTo" "[I" ∈ mm_gw := mm_gw_in (mm_ch6 (List.mem_of_getElem? (i := 165) (by rfl))) rfl
set_option maxRecDepth 100000 in
theorem ww_1476 : Cond.laysFinal RX12 "PaidSecretsModel" "earChance" "[I" ∈ mm_gw := mm_gw_in (mm_ch6 (List.mem_of_getElem? (i := 167) (by rfl))) rfl
set_option maxRecDepth 100000 in
theorem ww_1478 : Cond.laysFinal RX12 "PaidSecretsModel" "lineFrom" "[I" ∈ mm_gw := mm_gw_in (mm_ch6 (List.mem_of_getElem? (i := 169) (by rfl))) rfl
set_option maxRecDepth 100000 in
theorem ww_1480 : Cond.laysFinal RX12 "PaidSecretsModel" "lineTo" "[I" ∈ mm_gw := mm_gw_in (mm_ch6 (List.mem_of_getElem? (i := 171) (by rfl))) rfl
set_option maxRecDepth 100000 in
theorem ww_1482 : Cond.laysFinal RX12 "PaidSecretsModel" "codes" "[I" ∈ mm_gw := mm_gw_in (mm_ch6 (List.mem_of_getElem? (i := 173) (by rfl))) rfl
set_option maxRecDepth 100000 in
theorem ww_1484 : Cond.lays RX12 "PaidSecretsModel" "code" "I" ∈ mm_gw := mm_gw_in (mm_ch6 (List.mem_of_getElem? (i := 175) (by rfl))) rfl
set_option maxRecDepth 100000 in
theorem ww_1486 : Cond.laysFinal RX12 "PaidSecretsModel" "opened" "[I" ∈ mm_gw := mm_gw_in (mm_ch6 (List.mem_of_getElem? (i := 177) (by rfl))) rfl
set_option maxRecDepth 100000 in
theorem ww_1488 : Cond.laysFinal RX12 "PaidSecretsModel" "compared" "[Z" ∈ mm_gw := mm_gw_in (mm_ch6 (List.mem_of_getElem? (i := 179) (by rfl))) rfl
set_option maxRecDepth 100000 in
theorem ww_1490 : Cond.laysFinal RX12 "PaidSecretsModel" "kept" "[I" ∈ mm_gw := mm_gw_in (mm_ch6 (List.mem_of_getElem? (i := 181) (by rfl))) rfl
set_option maxRecDepth 100000 in
theorem ww_1492 : Cond.laysFinal RX12 "PaidSecretsModel" "keptBy" "[I" ∈ mm_gw := mm_gw_in (mm_ch6 (List.mem_of_getElem? (i := 183) (by rfl))) rfl
set_option maxRecDepth 100000 in
theorem ww_1494 : Cond.laysFinal RX12 "PaidSecretsModel" "ahead" "[I" ∈ mm_gw := mm_gw_in (mm_ch6 (List.mem_of_getElem? (i := 185) (by rfl))) rfl
set_option maxRecDepth 100000 in
theorem ww_1496 : Cond.laysFinal RX12 "PaidSecretsModel" "against" "[I" ∈ mm_gw := mm_gw_in (mm_ch6 (List.mem_of_getElem? (i := 187) (by rfl))) rfl
set_option maxRecDepth 100000 in
theorem ww_1498 : Cond.laysFinal RX12 "PaidSecretsModel" "sum" "[I" ∈ mm_gw := mm_gw_in (mm_ch6 (List.mem_of_getElem? (i := 189) (by rfl))) rfl
set_option maxRecDepth 100000 in
theorem ww_1500 : Cond.laysFinal RX12 "PaidSecretsModel" "sumBy" "[I" ∈ mm_gw := mm_gw_in (mm_ch6 (List.mem_of_getElem? (i := 191) (by rfl))) rfl
set_option maxRecDepth 100000 in
theorem ww_1502 : Cond.laysFinal RX12 "PaidSecretsModel" "term" "[I" ∈ mm_gw := mm_gw_in (mm_ch6 (List.mem_of_getElem? (i := 193) (by rfl))) rfl
set_option maxRecDepth 100000 in
theorem ww_1504 : Cond.laysFinal RX12 "PaidSecretsModel" "termBy" "[I" ∈ mm_gw := mm_gw_in (mm_ch6 (List.mem_of_getElem? (i := 195) (by rfl))) rfl
set_option maxRecDepth 100000 in
theorem ww_1506 : Cond.laysFinal RX12 "PaidSecretsModel" "byNot" "[I" ∈ mm_gw := mm_gw_in (mm_ch6 (List.mem_of_getElem? (i := 197) (by rfl))) rfl
set_option maxRecDepth 100000 in
theorem ww_1508 : Cond.laysFinal RX12 "PaidSecretsModel" "valueOf" "[I" ∈ mm_gw := mm_gw_in (mm_ch6 (List.mem_of_getElem? (i := 199) (by rfl))) rfl
set_option maxRecDepth 100000 in
theorem ww_1510 : Cond.lays RX12 "PaidSecretsModel" "given" "I" ∈ mm_gw := mm_gw_in (mm_ch6 (List.mem_of_getElem? (i := 201) (by rfl))) rfl
set_option maxRecDepth 100000 in
theorem ww_1512 : Cond.laysFinal RX12 "PaidSecretsModel" "lines" "[I" ∈ mm_gw := mm_gw_in (mm_ch6 (List.mem_of_getElem? (i := 203) (by rfl))) rfl
set_option maxRecDepth 100000 in
theorem ww_1514 : Cond.laysFinal RX12 "PaidSecretsModel" "lineWhat" "[I" ∈ mm_gw := mm_gw_in (mm_ch6 (List.mem_of_getElem? (i := 205) (by rfl))) rfl
set_option maxRecDepth 100000 in
theorem ww_1516 : Cond.laysFinal RX12 "PaidSecretsModel" "lineA" "[I" ∈ mm_gw := mm_gw_in (mm_ch6 (List.mem_of_getElem? (i := 207) (by rfl))) rfl
set_option maxRecDepth 100000 in
theorem ww_1518 : Cond.laysFinal RX12 "PaidSecretsModel" "lineB" "[I" ∈ mm_gw := mm_gw_in (mm_ch6 (List.mem_of_getElem? (i := 209) (by rfl))) rfl
set_option maxRecDepth 100000 in
theorem ww_1520 : Cond.laysFinal RX12 "PaidSecretsModel" "lineC" "[I" ∈ mm_gw := mm_gw_in (mm_ch6 (List.mem_of_getElem? (i := 211) (by rfl))) rfl
set_option maxRecDepth 100000 in
theorem ww_1522 : Cond.laysFinal RX12 "PaidSecretsModel" "seens" "[I" ∈ mm_gw := mm_gw_in (mm_ch6 (List.mem_of_getElem? (i := 213) (by rfl))) rfl
set_option maxRecDepth 100000 in
theorem ww_1524 : Cond.laysFinal RX12 "PaidSecretsModel" "seen" "[I" ∈ mm_gw := mm_gw_in (mm_ch6 (List.mem_of_getElem? (i := 215) (by rfl))) rfl
set_option maxRecDepth 100000 in
theorem ww_1526 : Cond.laysFinal RX12 "PaidSecretsModel" "seenFell" "[Z" ∈ mm_gw := mm_gw_in (mm_ch6 (List.mem_of_getElem? (i := 217) (by rfl))) rfl
set_option maxRecDepth 100000 in
theorem ww_1528 : Cond.laysFinal RX12 "PaidSecretsModel" "s" "[I" ∈ mm_gw := mm_gw_in (mm_ch6 (List.mem_of_getElem? (i := 219) (by rfl))) rfl
set_option maxRecDepth 100000 in
theorem ww_1530 : Cond.laysFinal RX12 "PaidSecretsModel" "aside" "[I" ∈ mm_gw := mm_gw_in (mm_ch6 (List.mem_of_getElem? (i := 221) (by rfl))) rfl
set_option maxRecDepth 100000 in
theorem ww_1532 : Cond.laysFinal RX12 "PaidSecretsModel" "marked" "[I" ∈ mm_gw := mm_gw_in (mm_ch6 (List.mem_of_getElem? (i := 223) (by rfl))) rfl
set_option maxRecDepth 100000 in
theorem ww_1534 : Cond.laysFinal RX12 "PaidSecretsModel" "undone" "[I" ∈ mm_gw := mm_gw_in (mm_ch6 (List.mem_of_getElem? (i := 225) (by rfl))) rfl
set_option maxRecDepth 100000 in
theorem ww_1536 : Cond.laysFinal RX12 "PaidSecretsModel" "isLaid" "[Z" ∈ mm_gw := mm_gw_in (mm_ch6 (List.mem_of_getElem? (i := 227) (by rfl))) rfl
set_option maxRecDepth 100000 in
theorem ww_1538 : Cond.lays RX12 "PaidSecretsModel" "done" "I" ∈ mm_gw := mm_gw_in (mm_ch6 (List.mem_of_getElem? (i := 229) (by rfl))) rfl
set_option maxRecDepth 100000 in
theorem ww_1540 : Cond.laysFinal RX12 "PaidSecretsModel" "together" "[Z" ∈ mm_gw := mm_gw_in (mm_ch6 (List.mem_of_getElem? (i := 231) (by rfl))) rfl
set_option maxRecDepth 100000 in
theorem ww_1542 : Cond.laysFinal RX12 "PaidSecretsModel" "isEnough" "[Z" ∈ mm_gw := mm_gw_in (mm_ch6 (List.mem_of_getElem? (i := 233) (by rfl))) rfl
set_option maxRecDepth 100000 in
theorem ww_1544 : Cond.laysFinal RX12 "PaidSecretsModel" "telling" "[I" ∈ mm_gw := mm_gw_in (mm_ch6 (List.mem_of_getElem? (i := 235) (by rfl))) rfl
set_option maxRecDepth 100000 in
theorem ww_1546 : Cond.laysFinal RX12 "PaidSecretsModel" "bestTelling" "[I" ∈ mm_gw := mm_gw_in (mm_ch6 (List.mem_of_getElem? (i := 237) (by rfl))) rfl
set_option maxRecDepth 100000 in
theorem ww_1548 : Cond.lays RX12 "PaidSecretsModel" "bestGap" "I" ∈ mm_gw := mm_gw_in (mm_ch6 (List.mem_of_getElem? (i := 239) (by rfl))) rfl
set_option maxRecDepth 100000 in
theorem ww_1550 : Cond.lays RX12 "PaidSecretsModel" "bestMany" "I" ∈ mm_gw := mm_gw_in (mm_ch7 (List.mem_of_getElem? (i := 1) (by rfl))) rfl
set_option maxRecDepth 100000 in
theorem ww_1552 : Cond.laysFinal RX12 "PaidSecretsModel" "odds" "[I" ∈ mm_gw := mm_gw_in (mm_ch7 (List.mem_of_getElem? (i := 3) (by rfl))) rfl
set_option maxRecDepth 100000 in
theorem ww_1554 : Cond.laysFinal RX12 "PaidSecretsModel" "oddsThen" "[I" ∈ mm_gw := mm_gw_in (mm_ch7 (List.mem_of_getElem? (i := 5) (by rfl))) rfl
set_option maxRecDepth 100000 in
theorem ww_1556 : Cond.laysFinal RX12 "PaidSecretsModel" "hears" "[I" ∈ mm_gw := mm_gw_in (mm_ch7 (List.mem_of_getElem? (i := 7) (by rfl))) rfl
set_option maxRecDepth 100000 in
theorem ww_1558 : Cond.laysFinal RX12 "PaidSecretsModel" "groups" "[I" ∈ mm_gw := mm_gw_in (mm_ch7 (List.mem_of_getElem? (i := 9) (by rfl))) rfl
set_option maxRecDepth 100000 in
theorem ww_1560 : Cond.laysFinal RX12 "PaidSecretsModel" "guest" "[I" ∈ mm_gw := mm_gw_in (mm_ch7 (List.mem_of_getElem? (i := 11) (by rfl))) rfl
set_option maxRecDepth 100000 in
theorem ww_1562 : Cond.laysFinal RX12 "PaidSecretsModel" "chosen" "[I" ∈ mm_gw := mm_gw_in (mm_ch7 (List.mem_of_getElem? (i := 13) (by rfl))) rfl
set_option maxRecDepth 100000 in
theorem ww_1564 : Cond.lays RX12 "PaidSecretsModel" "guests" "I" ∈ mm_gw := mm_gw_in (mm_ch7 (List.mem_of_getElem? (i := 15) (by rfl))) rfl
set_option maxRecDepth 100000 in
theorem ww_1566 : Cond.lays RX12 "PaidSecretsModel" "g" "J" ∈ mm_gw := mm_gw_in (mm_ch7 (List.mem_of_getElem? (i := 17) (by rfl))) rfl
set_option maxRecDepth 100000 in
theorem ww_1578 : Cond.constantLong RX12 179 255 ∈ mm_gw := mm_gw_in (mm_ch7 (List.mem_of_getElem? (i := 29) (by rfl))) rfl
set_option maxRecDepth 100000 in
theorem ww_1583 : Cond.methodLink RX12 389 yX12_readsAll ∈ mm_gw := mm_gw_in (mm_ch7 (List.mem_of_getElem? (i := 34) (by rfl))) rfl
set_option maxRecDepth 100000 in
theorem ww_1585 : Cond.instanceMethod yX12_readsAll ∈ mm_gw := mm_gw_in (mm_ch7 (List.mem_of_getElem? (i := 36) (by rfl))) rfl
set_option maxRecDepth 100000 in
theorem ww_1586 : Cond.code yX12_readsAll cX12_readsAll 2 (some .boolean) ∈ mm_gw := mm_gw_in (mm_ch7 (List.mem_of_getElem? (i := 37) (by rfl))) rfl
set_option maxRecDepth 100000 in
theorem ww_1587 : Cond.methodLink RX12 354 yX12_starts ∈ mm_gw := mm_gw_in (mm_ch7 (List.mem_of_getElem? (i := 38) (by rfl))) rfl
set_option maxRecDepth 100000 in
theorem ww_1589 : Cond.instanceMethod yX12_starts ∈ mm_gw := mm_gw_in (mm_ch7 (List.mem_of_getElem? (i := 40) (by rfl))) rfl
set_option maxRecDepth 100000 in
theorem ww_1590 : Cond.code yX12_starts cX12_starts 1 (none) ∈ mm_gw := mm_gw_in (mm_ch7 (List.mem_of_getElem? (i := 41) (by rfl))) rfl
set_option maxRecDepth 100000 in
theorem ww_1591 : Cond.methodLink RX12 246 yX12_nextToken ∈ mm_gw := mm_gw_in (mm_ch7 (List.mem_of_getElem? (i := 42) (by rfl))) rfl
set_option maxRecDepth 100000 in
theorem ww_1593 : Cond.instanceMethod yX12_nextToken ∈ mm_gw := mm_gw_in (mm_ch7 (List.mem_of_getElem? (i := 44) (by rfl))) rfl
set_option maxRecDepth 100000 in
theorem ww_1594 : Cond.code yX12_nextToken cX12_nextToken 2 (none) ∈ mm_gw := mm_gw_in (mm_ch7 (List.mem_of_getElem? (i := 45) (by rfl))) rfl
set_option maxRecDepth 100000 in
theorem ww_1595 : Cond.methodLink RX12 203 yX12_signAt ∈ mm_gw := mm_gw_in (mm_ch7 (List.mem_of_getElem? (i := 46) (by rfl))) rfl
set_option maxRecDepth 100000 in
theorem ww_1597 : Cond.instanceMethod yX12_signAt ∈ mm_gw := mm_gw_in (mm_ch7 (List.mem_of_getElem? (i := 48) (by rfl))) rfl
set_option maxRecDepth 100000 in
theorem ww_1598 : Cond.code yX12_signAt cX12_signAt 2 (some .int) ∈ mm_gw := mm_gw_in (mm_ch7 (List.mem_of_getElem? (i := 49) (by rfl))) rfl
set_option maxRecDepth 100000 in
theorem ww_1599 : Cond.constantLong RX12 207 27 ∈ mm_gw := mm_gw_in (mm_ch7 (List.mem_of_getElem? (i := 50) (by rfl))) rfl
set_option maxRecDepth 100000 in
theorem ww_1600 : Cond.constantLong RX12 209 96 ∈ mm_gw := mm_gw_in (mm_ch7 (List.mem_of_getElem? (i := 51) (by rfl))) rfl
set_option maxRecDepth 100000 in
theorem ww_1601 : Cond.constantLong RX12 262 232608281 ∈ mm_gw := mm_gw_in (mm_ch7 (List.mem_of_getElem? (i := 52) (by rfl))) rfl
set_option maxRecDepth 100000 in
theorem ww_1602 : Cond.methodLink RX12 231 yX12_isWord ∈ mm_gw := mm_gw_in (mm_ch7 (List.mem_of_getElem? (i := 53) (by rfl))) rfl
set_option maxRecDepth 100000 in
theorem ww_1604 : Cond.instanceMethod yX12_isWord ∈ mm_gw := mm_gw_in (mm_ch7 (List.mem_of_getElem? (i := 55) (by rfl))) rfl
set_option maxRecDepth 100000 in
theorem ww_1605 : Cond.code yX12_isWord cX12_isWord 3 (some .boolean) ∈ mm_gw := mm_gw_in (mm_ch7 (List.mem_of_getElem? (i := 56) (by rfl))) rfl
set_option maxRecDepth 100000 in
theorem ww_1606 : Cond.methodLink RX12 357 yX12_readsPerson ∈ mm_gw := mm_gw_in (mm_ch7 (List.mem_of_getElem? (i := 57) (by rfl))) rfl
set_option maxRecDepth 100000 in
theorem ww_1608 : Cond.instanceMethod yX12_readsPerson ∈ mm_gw := mm_gw_in (mm_ch7 (List.mem_of_getElem? (i := 59) (by rfl))) rfl
set_option maxRecDepth 100000 in
theorem ww_1609 : Cond.code yX12_readsPerson cX12_readsPerson 4 (some .boolean) ∈ mm_gw := mm_gw_in (mm_ch7 (List.mem_of_getElem? (i := 60) (by rfl))) rfl
set_option maxRecDepth 100000 in
theorem ww_1610 : Cond.methodLink RX12 239 yX12_fails ∈ mm_gw := mm_gw_in (mm_ch7 (List.mem_of_getElem? (i := 61) (by rfl))) rfl
set_option maxRecDepth 100000 in
theorem ww_1612 : Cond.instanceMethod yX12_fails ∈ mm_gw := mm_gw_in (mm_ch7 (List.mem_of_getElem? (i := 63) (by rfl))) rfl
set_option maxRecDepth 100000 in
theorem ww_1613 : Cond.code yX12_fails cX12_fails 2 (some .boolean) ∈ mm_gw := mm_gw_in (mm_ch7 (List.mem_of_getElem? (i := 64) (by rfl))) rfl
set_option maxRecDepth 100000 in
theorem ww_1614 : Cond.methodLink RX12 332 yX12_isNew ∈ mm_gw := mm_gw_in (mm_ch7 (List.mem_of_getElem? (i := 65) (by rfl))) rfl
set_option maxRecDepth 100000 in
theorem ww_1616 : Cond.instanceMethod yX12_isNew ∈ mm_gw := mm_gw_in (mm_ch7 (List.mem_of_getElem? (i := 67) (by rfl))) rfl
set_option maxRecDepth 100000 in
theorem ww_1617 : Cond.code yX12_isNew cX12_isNew 1 (some .boolean) ∈ mm_gw := mm_gw_in (mm_ch7 (List.mem_of_getElem? (i := 68) (by rfl))) rfl
set_option maxRecDepth 100000 in
theorem ww_1618 : Cond.methodLink RX12 322 yX12_isKept ∈ mm_gw := mm_gw_in (mm_ch7 (List.mem_of_getElem? (i := 69) (by rfl))) rfl
set_option maxRecDepth 100000 in
theorem ww_1620 : Cond.instanceMethod yX12_isKept ∈ mm_gw := mm_gw_in (mm_ch7 (List.mem_of_getElem? (i := 71) (by rfl))) rfl
set_option maxRecDepth 100000 in
theorem ww_1621 : Cond.code yX12_isKept cX12_isKept 1 (some .boolean) ∈ mm_gw := mm_gw_in (mm_ch7 (List.mem_of_getElem? (i := 72) (by rfl))) rfl
set_option maxRecDepth 100000 in
theorem ww_1622 : Cond.constantLong RX12 264 355412 ∈ mm_gw := mm_gw_in (mm_ch7 (List.mem_of_getElem? (i := 73) (by rfl))) rfl
set_option maxRecDepth 100000 in
theorem ww_1623 : Cond.constantLong RX12 266 14631 ∈ mm_gw := mm_gw_in (mm_ch7 (List.mem_of_getElem? (i := 74) (by rfl))) rfl
set_option maxRecDepth 100000 in
theorem ww_1624 : Cond.constantLong RX12 268 275358764 ∈ mm_gw := mm_gw_in (mm_ch7 (List.mem_of_getElem? (i := 75) (by rfl))) rfl
set_option maxRecDepth 100000 in
theorem ww_1625 : Cond.constantLong RX12 270 411 ∈ mm_gw := mm_gw_in (mm_ch7 (List.mem_of_getElem? (i := 76) (by rfl))) rfl
set_option maxRecDepth 100000 in
theorem ww_1626 : Cond.constantLong RX12 272 1903978 ∈ mm_gw := mm_gw_in (mm_ch7 (List.mem_of_getElem? (i := 77) (by rfl))) rfl
set_option maxRecDepth 100000 in
theorem ww_1627 : Cond.constantLong RX12 274 419 ∈ mm_gw := mm_gw_in (mm_ch7 (List.mem_of_getElem? (i := 78) (by rfl))) rfl
set_option maxRecDepth 100000 in
theorem ww_1628 : Cond.constantLong RX12 276 79 ∈ mm_gw := mm_gw_in (mm_ch7 (List.mem_of_getElem? (i := 79) (by rfl))) rfl
set_option maxRecDepth 100000 in
theorem ww_1629 : Cond.constantLong RX12 278 3690 ∈ mm_gw := mm_gw_in (mm_ch7 (List.mem_of_getElem? (i := 80) (by rfl))) rfl
set_option maxRecDepth 100000 in
theorem ww_1630 : Cond.constantLong RX12 280 1831769 ∈ mm_gw := mm_gw_in (mm_ch7 (List.mem_of_getElem? (i := 81) (by rfl))) rfl
set_option maxRecDepth 100000 in
theorem ww_1631 : Cond.constantLong RX12 282 12532058 ∈ mm_gw := mm_gw_in (mm_ch7 (List.mem_of_getElem? (i := 82) (by rfl))) rfl
set_option maxRecDepth 100000 in
theorem ww_1632 : Cond.constantLong RX12 284 397641 ∈ mm_gw := mm_gw_in (mm_ch7 (List.mem_of_getElem? (i := 83) (by rfl))) rfl
set_option maxRecDepth 100000 in
theorem ww_1633 : Cond.constantLong RX12 286 11716 ∈ mm_gw := mm_gw_in (mm_ch7 (List.mem_of_getElem? (i := 84) (by rfl))) rfl
set_option maxRecDepth 100000 in
theorem ww_1634 : Cond.constantLong RX12 288 361373 ∈ mm_gw := mm_gw_in (mm_ch7 (List.mem_of_getElem? (i := 85) (by rfl))) rfl
set_option maxRecDepth 100000 in
theorem ww_1635 : Cond.constantLong RX12 290 6888375828 ∈ mm_gw := mm_gw_in (mm_ch7 (List.mem_of_getElem? (i := 86) (by rfl))) rfl
set_option maxRecDepth 100000 in
theorem ww_1636 : Cond.constantLong RX12 292 8740238 ∈ mm_gw := mm_gw_in (mm_ch7 (List.mem_of_getElem? (i := 87) (by rfl))) rfl
set_option maxRecDepth 100000 in
theorem ww_1637 : Cond.constantLong RX12 294 108802051 ∈ mm_gw := mm_gw_in (mm_ch7 (List.mem_of_getElem? (i := 88) (by rfl))) rfl
set_option maxRecDepth 100000 in
theorem ww_1638 : Cond.constantLong RX12 296 82410 ∈ mm_gw := mm_gw_in (mm_ch7 (List.mem_of_getElem? (i := 89) (by rfl))) rfl
set_option maxRecDepth 100000 in
theorem ww_1639 : Cond.constantLong RX12 298 239329775 ∈ mm_gw := mm_gw_in (mm_ch7 (List.mem_of_getElem? (i := 90) (by rfl))) rfl
set_option maxRecDepth 100000 in
theorem ww_1640 : Cond.constantLong RX12 300 407354 ∈ mm_gw := mm_gw_in (mm_ch7 (List.mem_of_getElem? (i := 91) (by rfl))) rfl
set_option maxRecDepth 100000 in
theorem ww_1641 : Cond.constantLong RX12 302 3217595 ∈ mm_gw := mm_gw_in (mm_ch7 (List.mem_of_getElem? (i := 92) (by rfl))) rfl
set_option maxRecDepth 100000 in
theorem ww_1642 : Cond.constantLong RX12 229 10631 ∈ mm_gw := mm_gw_in (mm_ch7 (List.mem_of_getElem? (i := 93) (by rfl))) rfl
set_option maxRecDepth 100000 in
theorem ww_1643 : Cond.constantLong RX12 249 1111 ∈ mm_gw := mm_gw_in (mm_ch7 (List.mem_of_getElem? (i := 94) (by rfl))) rfl
set_option maxRecDepth 100000 in
theorem ww_1644 : Cond.constantLong RX12 251 423 ∈ mm_gw := mm_gw_in (mm_ch7 (List.mem_of_getElem? (i := 95) (by rfl))) rfl
set_option maxRecDepth 100000 in
theorem ww_1645 : Cond.methodLink RX12 326 yX12_personNamed ∈ mm_gw := mm_gw_in (mm_ch7 (List.mem_of_getElem? (i := 96) (by rfl))) rfl
set_option maxRecDepth 100000 in
theorem ww_1647 : Cond.instanceMethod yX12_personNamed ∈ mm_gw := mm_gw_in (mm_ch7 (List.mem_of_getElem? (i := 98) (by rfl))) rfl
set_option maxRecDepth 100000 in
theorem ww_1648 : Cond.code yX12_personNamed cX12_personNamed 2 (some .int) ∈ mm_gw := mm_gw_in (mm_ch7 (List.mem_of_getElem? (i := 99) (by rfl))) rfl
set_option maxRecDepth 100000 in
theorem ww_1649 : Cond.methodLink RX12 304 yX12_named ∈ mm_gw := mm_gw_in (mm_ch7 (List.mem_of_getElem? (i := 100) (by rfl))) rfl
set_option maxRecDepth 100000 in
theorem ww_1650 : Cond.static yX12_named ∈ mm_gw := mm_gw_in (mm_ch7 (List.mem_of_getElem? (i := 101) (by rfl))) rfl
set_option maxRecDepth 100000 in
theorem ww_1651 : Cond.code yX12_named cX12_named 6 (some .int) ∈ mm_gw := mm_gw_in (mm_ch7 (List.mem_of_getElem? (i := 102) (by rfl))) rfl
set_option maxRecDepth 100000 in
theorem ww_1652 : Cond.methodLink RX12 329 yX12_secretNamed ∈ mm_gw := mm_gw_in (mm_ch7 (List.mem_of_getElem? (i := 103) (by rfl))) rfl
set_option maxRecDepth 100000 in
theorem ww_1654 : Cond.instanceMethod yX12_secretNamed ∈ mm_gw := mm_gw_in (mm_ch7 (List.mem_of_getElem? (i := 105) (by rfl))) rfl
set_option maxRecDepth 100000 in
theorem ww_1655 : Cond.code yX12_secretNamed cX12_secretNamed 2 (some .int) ∈ mm_gw := mm_gw_in (mm_ch7 (List.mem_of_getElem? (i := 106) (by rfl))) rfl
set_option maxRecDepth 100000 in
theorem ww_1656 : Cond.methodLink RX12 335 yX12_needsBoth ∈ mm_gw := mm_gw_in (mm_ch7 (List.mem_of_getElem? (i := 107) (by rfl))) rfl
set_option maxRecDepth 100000 in
theorem ww_1658 : Cond.instanceMethod yX12_needsBoth ∈ mm_gw := mm_gw_in (mm_ch7 (List.mem_of_getElem? (i := 109) (by rfl))) rfl
set_option maxRecDepth 100000 in
theorem ww_1659 : Cond.code yX12_needsBoth cX12_needsBoth 5 (some .boolean) ∈ mm_gw := mm_gw_in (mm_ch7 (List.mem_of_getElem? (i := 110) (by rfl))) rfl
set_option maxRecDepth 100000 in
theorem ww_1660 : Cond.methodLink RX12 315 yX12_needsWord ∈ mm_gw := mm_gw_in (mm_ch7 (List.mem_of_getElem? (i := 111) (by rfl))) rfl
set_option maxRecDepth 100000 in
theorem ww_1662 : Cond.instanceMethod yX12_needsWord ∈ mm_gw := mm_gw_in (mm_ch7 (List.mem_of_getElem? (i := 113) (by rfl))) rfl
set_option maxRecDepth 100000 in
theorem ww_1663 : Cond.code yX12_needsWord cX12_needsWord 3 (some .boolean) ∈ mm_gw := mm_gw_in (mm_ch7 (List.mem_of_getElem? (i := 114) (by rfl))) rfl
set_option maxRecDepth 100000 in
theorem ww_1664 : Cond.methodLink RX12 318 yX12_needsNumber ∈ mm_gw := mm_gw_in (mm_ch7 (List.mem_of_getElem? (i := 115) (by rfl))) rfl
set_option maxRecDepth 100000 in
theorem ww_1666 : Cond.instanceMethod yX12_needsNumber ∈ mm_gw := mm_gw_in (mm_ch7 (List.mem_of_getElem? (i := 117) (by rfl))) rfl
set_option maxRecDepth 100000 in
theorem ww_1667 : Cond.code yX12_needsNumber cX12_needsNumber 3 (some .boolean) ∈ mm_gw := mm_gw_in (mm_ch7 (List.mem_of_getElem? (i := 118) (by rfl))) rfl
set_option maxRecDepth 100000 in
theorem ww_1668 : Cond.methodLink RX12 308 yX12_within ∈ mm_gw := mm_gw_in (mm_ch7 (List.mem_of_getElem? (i := 119) (by rfl))) rfl
set_option maxRecDepth 100000 in
theorem ww_1669 : Cond.static yX12_within ∈ mm_gw := mm_gw_in (mm_ch7 (List.mem_of_getElem? (i := 120) (by rfl))) rfl
set_option maxRecDepth 100000 in
theorem ww_1670 : Cond.code yX12_within cX12_within 3 (some .boolean) ∈ mm_gw := mm_gw_in (mm_ch7 (List.mem_of_getElem? (i := 121) (by rfl))) rfl
set_option maxRecDepth 100000 in
theorem ww_1671 : Cond.methodLink RX12 339 yX12_closes ∈ mm_gw := mm_gw_in (mm_ch7 (List.mem_of_getElem? (i := 122) (by rfl))) rfl
set_option maxRecDepth 100000 in
theorem ww_1673 : Cond.instanceMethod yX12_closes ∈ mm_gw := mm_gw_in (mm_ch7 (List.mem_of_getElem? (i := 124) (by rfl))) rfl
set_option maxRecDepth 100000 in
theorem ww_1674 : Cond.code yX12_closes cX12_closes 1 (some .boolean) ∈ mm_gw := mm_gw_in (mm_ch7 (List.mem_of_getElem? (i := 125) (by rfl))) rfl
set_option maxRecDepth 100000 in
theorem ww_1675 : Cond.methodLink RX12 235 yX12_isSign ∈ mm_gw := mm_gw_in (mm_ch7 (List.mem_of_getElem? (i := 126) (by rfl))) rfl
set_option maxRecDepth 100000 in
theorem ww_1677 : Cond.instanceMethod yX12_isSign ∈ mm_gw := mm_gw_in (mm_ch7 (List.mem_of_getElem? (i := 128) (by rfl))) rfl
set_option maxRecDepth 100000 in
theorem ww_1678 : Cond.code yX12_isSign cX12_isSign 2 (some .boolean) ∈ mm_gw := mm_gw_in (mm_ch7 (List.mem_of_getElem? (i := 129) (by rfl))) rfl
set_option maxRecDepth 100000 in
theorem ww_1679 : Cond.methodLink RX12 360 yX12_readsSecret ∈ mm_gw := mm_gw_in (mm_ch7 (List.mem_of_getElem? (i := 130) (by rfl))) rfl
set_option maxRecDepth 100000 in
theorem ww_1681 : Cond.instanceMethod yX12_readsSecret ∈ mm_gw := mm_gw_in (mm_ch7 (List.mem_of_getElem? (i := 132) (by rfl))) rfl
set_option maxRecDepth 100000 in
theorem ww_1682 : Cond.code yX12_readsSecret cX12_readsSecret 4 (some .boolean) ∈ mm_gw := mm_gw_in (mm_ch7 (List.mem_of_getElem? (i := 133) (by rfl))) rfl
set_option maxRecDepth 100000 in
theorem ww_1683 : Cond.methodLink RX12 342 yX12_needsPerson ∈ mm_gw := mm_gw_in (mm_ch7 (List.mem_of_getElem? (i := 134) (by rfl))) rfl
set_option maxRecDepth 100000 in
theorem ww_1685 : Cond.instanceMethod yX12_needsPerson ∈ mm_gw := mm_gw_in (mm_ch7 (List.mem_of_getElem? (i := 136) (by rfl))) rfl
set_option maxRecDepth 100000 in
theorem ww_1686 : Cond.code yX12_needsPerson cX12_needsPerson 2 (some .boolean) ∈ mm_gw := mm_gw_in (mm_ch7 (List.mem_of_getElem? (i := 137) (by rfl))) rfl
set_option maxRecDepth 100000 in
theorem ww_1687 : Cond.methodLink RX12 345 yX12_needsSecret ∈ mm_gw := mm_gw_in (mm_ch7 (List.mem_of_getElem? (i := 138) (by rfl))) rfl
set_option maxRecDepth 100000 in
theorem ww_1689 : Cond.instanceMethod yX12_needsSecret ∈ mm_gw := mm_gw_in (mm_ch7 (List.mem_of_getElem? (i := 140) (by rfl))) rfl
set_option maxRecDepth 100000 in
theorem ww_1690 : Cond.code yX12_needsSecret cX12_needsSecret 2 (some .boolean) ∈ mm_gw := mm_gw_in (mm_ch7 (List.mem_of_getElem? (i := 141) (by rfl))) rfl
set_option maxRecDepth 100000 in
theorem ww_1691 : Cond.methodLink RX12 348 yX12_readsKnowers ∈ mm_gw := mm_gw_in (mm_ch7 (List.mem_of_getElem? (i := 142) (by rfl))) rfl
set_option maxRecDepth 100000 in
theorem ww_1693 : Cond.instanceMethod yX12_readsKnowers ∈ mm_gw := mm_gw_in (mm_ch7 (List.mem_of_getElem? (i := 144) (by rfl))) rfl
set_option maxRecDepth 100000 in
theorem ww_1694 : Cond.code yX12_readsKnowers cX12_readsKnowers 2 (some .boolean) ∈ mm_gw := mm_gw_in (mm_ch7 (List.mem_of_getElem? (i := 145) (by rfl))) rfl
set_option maxRecDepth 100000 in
theorem ww_1695 : Cond.methodLink RX12 363 yX12_readsEar ∈ mm_gw := mm_gw_in (mm_ch7 (List.mem_of_getElem? (i := 146) (by rfl))) rfl
set_option maxRecDepth 100000 in
theorem ww_1697 : Cond.instanceMethod yX12_readsEar ∈ mm_gw := mm_gw_in (mm_ch7 (List.mem_of_getElem? (i := 148) (by rfl))) rfl
set_option maxRecDepth 100000 in
theorem ww_1698 : Cond.code yX12_readsEar cX12_readsEar 5 (some .boolean) ∈ mm_gw := mm_gw_in (mm_ch7 (List.mem_of_getElem? (i := 149) (by rfl))) rfl
set_option maxRecDepth 100000 in
theorem ww_1699 : Cond.methodLink RX12 366 yX12_readsClash ∈ mm_gw := mm_gw_in (mm_ch7 (List.mem_of_getElem? (i := 150) (by rfl))) rfl
set_option maxRecDepth 100000 in
theorem ww_1701 : Cond.instanceMethod yX12_readsClash ∈ mm_gw := mm_gw_in (mm_ch7 (List.mem_of_getElem? (i := 152) (by rfl))) rfl
set_option maxRecDepth 100000 in
theorem ww_1702 : Cond.code yX12_readsClash cX12_readsClash 3 (some .boolean) ∈ mm_gw := mm_gw_in (mm_ch7 (List.mem_of_getElem? (i := 153) (by rfl))) rfl
set_option maxRecDepth 100000 in
theorem ww_1703 : Cond.methodLink RX12 369 yX12_readsWorth ∈ mm_gw := mm_gw_in (mm_ch7 (List.mem_of_getElem? (i := 154) (by rfl))) rfl
set_option maxRecDepth 100000 in
theorem ww_1705 : Cond.instanceMethod yX12_readsWorth ∈ mm_gw := mm_gw_in (mm_ch7 (List.mem_of_getElem? (i := 156) (by rfl))) rfl
set_option maxRecDepth 100000 in
theorem ww_1706 : Cond.code yX12_readsWorth cX12_readsWorth 1 (some .boolean) ∈ mm_gw := mm_gw_in (mm_ch7 (List.mem_of_getElem? (i := 157) (by rfl))) rfl
set_option maxRecDepth 100000 in
theorem ww_1707 : Cond.methodLink RX12 351 yX12_reads ∈ mm_gw := mm_gw_in (mm_ch7 (List.mem_of_getElem? (i := 158) (by rfl))) rfl
set_option maxRecDepth 100000 in
theorem ww_1709 : Cond.instanceMethod yX12_reads ∈ mm_gw := mm_gw_in (mm_ch7 (List.mem_of_getElem? (i := 160) (by rfl))) rfl
set_option maxRecDepth 100000 in
theorem ww_1710 : Cond.code yX12_reads cX12_reads 6 (some .boolean) ∈ mm_gw := mm_gw_in (mm_ch7 (List.mem_of_getElem? (i := 161) (by rfl))) rfl
set_option maxRecDepth 100000 in
theorem ww_1711 : Cond.methodLink RX12 225 yX12_fact ∈ mm_gw := mm_gw_in (mm_ch7 (List.mem_of_getElem? (i := 162) (by rfl))) rfl
set_option maxRecDepth 100000 in
theorem ww_1713 : Cond.instanceMethod yX12_fact ∈ mm_gw := mm_gw_in (mm_ch7 (List.mem_of_getElem? (i := 164) (by rfl))) rfl
set_option maxRecDepth 100000 in
theorem ww_1714 : Cond.code yX12_fact cX12_fact 1 (some .int) ∈ mm_gw := mm_gw_in (mm_ch7 (List.mem_of_getElem? (i := 165) (by rfl))) rfl
set_option maxRecDepth 100000 in
theorem ww_1715 : Cond.constantLong RX12 217 70517 ∈ mm_gw := mm_gw_in (mm_ch7 (List.mem_of_getElem? (i := 166) (by rfl))) rfl
set_option maxRecDepth 100000 in
theorem ww_1716 : Cond.constantLong RX12 219 4470938551 ∈ mm_gw := mm_gw_in (mm_ch7 (List.mem_of_getElem? (i := 167) (by rfl))) rfl
set_option maxRecDepth 100000 in
theorem ww_1717 : Cond.constantLong RX12 221 923 ∈ mm_gw := mm_gw_in (mm_ch7 (List.mem_of_getElem? (i := 168) (by rfl))) rfl
set_option maxRecDepth 100000 in
theorem ww_1718 : Cond.constantLong RX12 223 164222 ∈ mm_gw := mm_gw_in (mm_ch7 (List.mem_of_getElem? (i := 169) (by rfl))) rfl
set_option maxRecDepth 100000 in
theorem ww_1719 : Cond.methodLink RX12 242 yX12_puts ∈ mm_gw := mm_gw_in (mm_ch7 (List.mem_of_getElem? (i := 170) (by rfl))) rfl
set_option maxRecDepth 100000 in
theorem ww_1721 : Cond.instanceMethod yX12_puts ∈ mm_gw := mm_gw_in (mm_ch7 (List.mem_of_getElem? (i := 172) (by rfl))) rfl
set_option maxRecDepth 100000 in
theorem ww_1722 : Cond.code yX12_puts cX12_puts 2 (none) ∈ mm_gw := mm_gw_in (mm_ch7 (List.mem_of_getElem? (i := 173) (by rfl))) rfl
set_option maxRecDepth 100000 in
theorem ww_1723 : Cond.methodLink RX12 392 yX12_lays ∈ mm_gw := mm_gw_in (mm_ch7 (List.mem_of_getElem? (i := 174) (by rfl))) rfl
set_option maxRecDepth 100000 in
theorem ww_1725 : Cond.instanceMethod yX12_lays ∈ mm_gw := mm_gw_in (mm_ch7 (List.mem_of_getElem? (i := 176) (by rfl))) rfl
set_option maxRecDepth 100000 in
theorem ww_1726 : Cond.code yX12_lays cX12_lays 1 (none) ∈ mm_gw := mm_gw_in (mm_ch7 (List.mem_of_getElem? (i := 177) (by rfl))) rfl
set_option maxRecDepth 100000 in
theorem ww_1727 : Cond.methodLink RX12 372 yX12_moves ∈ mm_gw := mm_gw_in (mm_ch7 (List.mem_of_getElem? (i := 178) (by rfl))) rfl
set_option maxRecDepth 100000 in
theorem ww_1728 : Cond.static yX12_moves ∈ mm_gw := mm_gw_in (mm_ch7 (List.mem_of_getElem? (i := 179) (by rfl))) rfl
set_option maxRecDepth 100000 in
theorem ww_1729 : Cond.code yX12_moves cX12_moves 3 (none) ∈ mm_gw := mm_gw_in (mm_ch7 (List.mem_of_getElem? (i := 180) (by rfl))) rfl
set_option maxRecDepth 100000 in
theorem ww_1730 : Cond.methodLink RX12 376 yX12_movesNames ∈ mm_gw := mm_gw_in (mm_ch7 (List.mem_of_getElem? (i := 181) (by rfl))) rfl
set_option maxRecDepth 100000 in
theorem ww_1731 : Cond.static yX12_movesNames ∈ mm_gw := mm_gw_in (mm_ch7 (List.mem_of_getElem? (i := 182) (by rfl))) rfl
set_option maxRecDepth 100000 in
theorem ww_1732 : Cond.code yX12_movesNames cX12_movesNames 3 (none) ∈ mm_gw := mm_gw_in (mm_ch7 (List.mem_of_getElem? (i := 183) (by rfl))) rfl
set_option maxRecDepth 100000 in
theorem ww_1733 : Cond.methodLink RX12 395 yX12_fresh ∈ mm_gw := mm_gw_in (mm_ch7 (List.mem_of_getElem? (i := 184) (by rfl))) rfl
set_option maxRecDepth 100000 in
theorem ww_1735 : Cond.instanceMethod yX12_fresh ∈ mm_gw := mm_gw_in (mm_ch7 (List.mem_of_getElem? (i := 186) (by rfl))) rfl
set_option maxRecDepth 100000 in
theorem ww_1736 : Cond.code yX12_fresh cX12_fresh 2 (none) ∈ mm_gw := mm_gw_in (mm_ch7 (List.mem_of_getElem? (i := 187) (by rfl))) rfl
set_option maxRecDepth 100000 in
theorem ww_1741 : Cond.methodLink RX12 401 yX12_readsLine ∈ mm_gw := mm_gw_in (mm_ch7 (List.mem_of_getElem? (i := 192) (by rfl))) rfl
set_option maxRecDepth 100000 in
theorem ww_1743 : Cond.instanceMethod yX12_readsLine ∈ mm_gw := mm_gw_in (mm_ch7 (List.mem_of_getElem? (i := 194) (by rfl))) rfl
set_option maxRecDepth 100000 in
theorem ww_1744 : Cond.code yX12_readsLine cX12_readsLine 3 (some .boolean) ∈ mm_gw := mm_gw_in (mm_ch7 (List.mem_of_getElem? (i := 195) (by rfl))) rfl
set_option maxRecDepth 100000 in
theorem ww_1745 : Cond.methodLink RX12 380 yX12_readsTelling ∈ mm_gw := mm_gw_in (mm_ch7 (List.mem_of_getElem? (i := 196) (by rfl))) rfl
set_option maxRecDepth 100000 in
theorem ww_1747 : Cond.instanceMethod yX12_readsTelling ∈ mm_gw := mm_gw_in (mm_ch7 (List.mem_of_getElem? (i := 198) (by rfl))) rfl
set_option maxRecDepth 100000 in
theorem ww_1748 : Cond.code yX12_readsTelling cX12_readsTelling 2 (some .boolean) ∈ mm_gw := mm_gw_in (mm_ch7 (List.mem_of_getElem? (i := 199) (by rfl))) rfl
set_option maxRecDepth 100000 in
theorem ww_1749 : Cond.methodLink RX12 383 yX12_readsPayment ∈ mm_gw := mm_gw_in (mm_ch7 (List.mem_of_getElem? (i := 200) (by rfl))) rfl
set_option maxRecDepth 100000 in
theorem ww_1751 : Cond.instanceMethod yX12_readsPayment ∈ mm_gw := mm_gw_in (mm_ch7 (List.mem_of_getElem? (i := 202) (by rfl))) rfl
set_option maxRecDepth 100000 in
theorem ww_1752 : Cond.code yX12_readsPayment cX12_readsPayment 2 (some .boolean) ∈ mm_gw := mm_gw_in (mm_ch7 (List.mem_of_getElem? (i := 203) (by rfl))) rfl
set_option maxRecDepth 100000 in
theorem ww_1753 : Cond.methodLink RX12 386 yX12_readsRise ∈ mm_gw := mm_gw_in (mm_ch7 (List.mem_of_getElem? (i := 204) (by rfl))) rfl
set_option maxRecDepth 100000 in
theorem ww_1755 : Cond.instanceMethod yX12_readsRise ∈ mm_gw := mm_gw_in (mm_ch7 (List.mem_of_getElem? (i := 206) (by rfl))) rfl
set_option maxRecDepth 100000 in
theorem ww_1756 : Cond.code yX12_readsRise cX12_readsRise 2 (some .boolean) ∈ mm_gw := mm_gw_in (mm_ch7 (List.mem_of_getElem? (i := 207) (by rfl))) rfl
set_option maxRecDepth 100000 in
theorem ww_1757 : Cond.methodLink RX12 404 yX12_laysLines ∈ mm_gw := mm_gw_in (mm_ch7 (List.mem_of_getElem? (i := 208) (by rfl))) rfl
set_option maxRecDepth 100000 in
theorem ww_1759 : Cond.instanceMethod yX12_laysLines ∈ mm_gw := mm_gw_in (mm_ch7 (List.mem_of_getElem? (i := 210) (by rfl))) rfl
set_option maxRecDepth 100000 in
theorem ww_1760 : Cond.code yX12_laysLines cX12_laysLines 4 (none) ∈ mm_gw := mm_gw_in (mm_ch7 (List.mem_of_getElem? (i := 211) (by rfl))) rfl
set_option maxRecDepth 100000 in
theorem ww_1765 : Cond.methodLink RX12 436 yX12_isPerson ∈ mm_gw := mm_gw_in (mm_ch7 (List.mem_of_getElem? (i := 216) (by rfl))) rfl
set_option maxRecDepth 100000 in
theorem ww_1767 : Cond.instanceMethod yX12_isPerson ∈ mm_gw := mm_gw_in (mm_ch7 (List.mem_of_getElem? (i := 218) (by rfl))) rfl
set_option maxRecDepth 100000 in
theorem ww_1768 : Cond.code yX12_isPerson cX12_isPerson 2 (some .boolean) ∈ mm_gw := mm_gw_in (mm_ch7 (List.mem_of_getElem? (i := 219) (by rfl))) rfl
set_option maxRecDepth 100000 in
theorem ww_1769 : Cond.methodLink RX12 430 yX12_knownBy ∈ mm_gw := mm_gw_in (mm_ch7 (List.mem_of_getElem? (i := 220) (by rfl))) rfl
set_option maxRecDepth 100000 in
theorem ww_1771 : Cond.instanceMethod yX12_knownBy ∈ mm_gw := mm_gw_in (mm_ch7 (List.mem_of_getElem? (i := 222) (by rfl))) rfl
set_option maxRecDepth 100000 in
theorem ww_1772 : Cond.code yX12_knownBy cX12_knownBy 4 (some .int) ∈ mm_gw := mm_gw_in (mm_ch7 (List.mem_of_getElem? (i := 223) (by rfl))) rfl
set_option maxRecDepth 100000 in
theorem ww_1773 : Cond.methodLink RX12 439 yX12_purse ∈ mm_gw := mm_gw_in (mm_ch7 (List.mem_of_getElem? (i := 224) (by rfl))) rfl
set_option maxRecDepth 100000 in
theorem ww_1775 : Cond.instanceMethod yX12_purse ∈ mm_gw := mm_gw_in (mm_ch7 (List.mem_of_getElem? (i := 226) (by rfl))) rfl
set_option maxRecDepth 100000 in
theorem ww_1776 : Cond.code yX12_purse cX12_purse 2 (some .int) ∈ mm_gw := mm_gw_in (mm_ch7 (List.mem_of_getElem? (i := 227) (by rfl))) rfl
set_option maxRecDepth 100000 in
theorem ww_1777 : Cond.methodLink RX12 433 yX12_worthsOf ∈ mm_gw := mm_gw_in (mm_ch7 (List.mem_of_getElem? (i := 228) (by rfl))) rfl
set_option maxRecDepth 100000 in
theorem ww_1779 : Cond.instanceMethod yX12_worthsOf ∈ mm_gw := mm_gw_in (mm_ch7 (List.mem_of_getElem? (i := 230) (by rfl))) rfl
set_option maxRecDepth 100000 in
theorem ww_1780 : Cond.code yX12_worthsOf cX12_worthsOf 4 (some .int) ∈ mm_gw := mm_gw_in (mm_ch7 (List.mem_of_getElem? (i := 231) (by rfl))) rfl
set_option maxRecDepth 100000 in
theorem ww_1781 : Cond.methodLink RX12 427 yX12_worthOf ∈ mm_gw := mm_gw_in (mm_ch7 (List.mem_of_getElem? (i := 232) (by rfl))) rfl
set_option maxRecDepth 100000 in
theorem ww_1783 : Cond.instanceMethod yX12_worthOf ∈ mm_gw := mm_gw_in (mm_ch7 (List.mem_of_getElem? (i := 234) (by rfl))) rfl
set_option maxRecDepth 100000 in
theorem ww_1784 : Cond.code yX12_worthOf cX12_worthOf 2 (some .int) ∈ mm_gw := mm_gw_in (mm_ch7 (List.mem_of_getElem? (i := 235) (by rfl))) rfl
set_option maxRecDepth 100000 in
theorem ww_1785 : Cond.methodLink RX12 424 yX12_baseOf ∈ mm_gw := mm_gw_in (mm_ch7 (List.mem_of_getElem? (i := 236) (by rfl))) rfl
set_option maxRecDepth 100000 in
theorem ww_1787 : Cond.instanceMethod yX12_baseOf ∈ mm_gw := mm_gw_in (mm_ch7 (List.mem_of_getElem? (i := 238) (by rfl))) rfl
set_option maxRecDepth 100000 in
theorem ww_1788 : Cond.code yX12_baseOf cX12_baseOf 4 (some .int) ∈ mm_gw := mm_gw_in (mm_ch7 (List.mem_of_getElem? (i := 239) (by rfl))) rfl
set_option maxRecDepth 100000 in
theorem ww_1789 : Cond.methodLink RX12 408 yX12_knowersOf ∈ mm_gw := mm_gw_in (mm_ch8 (List.mem_of_getElem? (i := 0) (by rfl))) rfl
set_option maxRecDepth 100000 in
theorem ww_1791 : Cond.instanceMethod yX12_knowersOf ∈ mm_gw := mm_gw_in (mm_ch8 (List.mem_of_getElem? (i := 2) (by rfl))) rfl
set_option maxRecDepth 100000 in
theorem ww_1792 : Cond.code yX12_knowersOf cX12_knowersOf 4 (some .int) ∈ mm_gw := mm_gw_in (mm_ch8 (List.mem_of_getElem? (i := 3) (by rfl))) rfl
set_option maxRecDepth 100000 in
theorem ww_1793 : Cond.methodLink RX12 411 yJ9_max_7cf53 ∈ mm_gw := mm_gw_in (mm_ch8 (List.mem_of_getElem? (i := 4) (by rfl))) rfl
set_option maxRecDepth 100000 in
theorem ww_1794 : Cond.methodLink RX12 417 yX12_worked ∈ mm_gw := mm_gw_in (mm_ch8 (List.mem_of_getElem? (i := 5) (by rfl))) rfl
set_option maxRecDepth 100000 in
theorem ww_1796 : Cond.instanceMethod yX12_worked ∈ mm_gw := mm_gw_in (mm_ch8 (List.mem_of_getElem? (i := 7) (by rfl))) rfl
set_option maxRecDepth 100000 in
theorem ww_1797 : Cond.code yX12_worked cX12_worked 6 (some .int) ∈ mm_gw := mm_gw_in (mm_ch8 (List.mem_of_getElem? (i := 8) (by rfl))) rfl
set_option maxRecDepth 100000 in
theorem ww_1798 : Cond.methodLink RX12 256 yX12_opens ∈ mm_gw := mm_gw_in (mm_ch8 (List.mem_of_getElem? (i := 9) (by rfl))) rfl
set_option maxRecDepth 100000 in
theorem ww_1800 : Cond.instanceMethod yX12_opens ∈ mm_gw := mm_gw_in (mm_ch8 (List.mem_of_getElem? (i := 11) (by rfl))) rfl
set_option maxRecDepth 100000 in
theorem ww_1801 : Cond.code yX12_opens cX12_opens 2 (none) ∈ mm_gw := mm_gw_in (mm_ch8 (List.mem_of_getElem? (i := 12) (by rfl))) rfl
set_option maxRecDepth 100000 in
theorem ww_1802 : Cond.methodLink RX12 253 yX12_sums ∈ mm_gw := mm_gw_in (mm_ch8 (List.mem_of_getElem? (i := 13) (by rfl))) rfl
set_option maxRecDepth 100000 in
theorem ww_1804 : Cond.instanceMethod yX12_sums ∈ mm_gw := mm_gw_in (mm_ch8 (List.mem_of_getElem? (i := 15) (by rfl))) rfl
set_option maxRecDepth 100000 in
theorem ww_1805 : Cond.code yX12_sums cX12_sums 2 (none) ∈ mm_gw := mm_gw_in (mm_ch8 (List.mem_of_getElem? (i := 16) (by rfl))) rfl
set_option maxRecDepth 100000 in
theorem ww_1806 : Cond.methodLink RX12 259 yX12_tests ∈ mm_gw := mm_gw_in (mm_ch8 (List.mem_of_getElem? (i := 17) (by rfl))) rfl
set_option maxRecDepth 100000 in
theorem ww_1808 : Cond.instanceMethod yX12_tests ∈ mm_gw := mm_gw_in (mm_ch8 (List.mem_of_getElem? (i := 19) (by rfl))) rfl
set_option maxRecDepth 100000 in
theorem ww_1809 : Cond.code yX12_tests cX12_tests 3 (none) ∈ mm_gw := mm_gw_in (mm_ch8 (List.mem_of_getElem? (i := 20) (by rfl))) rfl
set_option maxRecDepth 100000 in
theorem ww_1810 : Cond.methodLink RX12 420 yX12_between ∈ mm_gw := mm_gw_in (mm_ch8 (List.mem_of_getElem? (i := 21) (by rfl))) rfl
set_option maxRecDepth 100000 in
theorem ww_1811 : Cond.static yX12_between ∈ mm_gw := mm_gw_in (mm_ch8 (List.mem_of_getElem? (i := 22) (by rfl))) rfl
set_option maxRecDepth 100000 in
theorem ww_1812 : Cond.code yX12_between cX12_between 3 (some .int) ∈ mm_gw := mm_gw_in (mm_ch8 (List.mem_of_getElem? (i := 23) (by rfl))) rfl
set_option maxRecDepth 100000 in
theorem ww_1813 : Cond.methodLink RX12 442 yX12_net ∈ mm_gw := mm_gw_in (mm_ch8 (List.mem_of_getElem? (i := 24) (by rfl))) rfl
set_option maxRecDepth 100000 in
theorem ww_1815 : Cond.instanceMethod yX12_net ∈ mm_gw := mm_gw_in (mm_ch8 (List.mem_of_getElem? (i := 26) (by rfl))) rfl
set_option maxRecDepth 100000 in
theorem ww_1816 : Cond.code yX12_net cX12_net 4 (some .int) ∈ mm_gw := mm_gw_in (mm_ch8 (List.mem_of_getElem? (i := 27) (by rfl))) rfl
set_option maxRecDepth 100000 in
theorem ww_1821 : Cond.methodLink RX12 445 yX12_isSecret ∈ mm_gw := mm_gw_in (mm_ch8 (List.mem_of_getElem? (i := 32) (by rfl))) rfl
set_option maxRecDepth 100000 in
theorem ww_1823 : Cond.instanceMethod yX12_isSecret ∈ mm_gw := mm_gw_in (mm_ch8 (List.mem_of_getElem? (i := 34) (by rfl))) rfl
set_option maxRecDepth 100000 in
theorem ww_1824 : Cond.code yX12_isSecret cX12_isSecret 2 (some .boolean) ∈ mm_gw := mm_gw_in (mm_ch8 (List.mem_of_getElem? (i := 35) (by rfl))) rfl
set_option maxRecDepth 100000 in
theorem ww_1829 : Cond.methodLink RX12 448 yX12_areTwo ∈ mm_gw := mm_gw_in (mm_ch8 (List.mem_of_getElem? (i := 40) (by rfl))) rfl
set_option maxRecDepth 100000 in
theorem ww_1831 : Cond.instanceMethod yX12_areTwo ∈ mm_gw := mm_gw_in (mm_ch8 (List.mem_of_getElem? (i := 42) (by rfl))) rfl
set_option maxRecDepth 100000 in
theorem ww_1832 : Cond.code yX12_areTwo cX12_areTwo 3 (some .boolean) ∈ mm_gw := mm_gw_in (mm_ch8 (List.mem_of_getElem? (i := 43) (by rfl))) rfl
set_option maxRecDepth 100000 in
theorem ww_1837 : Cond.methodLink RX12 454 yX12_chanceOf ∈ mm_gw := mm_gw_in (mm_ch8 (List.mem_of_getElem? (i := 48) (by rfl))) rfl
set_option maxRecDepth 100000 in
theorem ww_1839 : Cond.instanceMethod yX12_chanceOf ∈ mm_gw := mm_gw_in (mm_ch8 (List.mem_of_getElem? (i := 50) (by rfl))) rfl
set_option maxRecDepth 100000 in
theorem ww_1840 : Cond.code yX12_chanceOf cX12_chanceOf 2 (some .int) ∈ mm_gw := mm_gw_in (mm_ch8 (List.mem_of_getElem? (i := 51) (by rfl))) rfl
set_option maxRecDepth 100000 in
theorem ww_1841 : Cond.methodLink RX12 451 yJ9_min_7cf53 ∈ mm_gw := mm_gw_in (mm_ch8 (List.mem_of_getElem? (i := 52) (by rfl))) rfl
set_option maxRecDepth 100000 in
theorem ww_1846 : Cond.methodLink RX12 464 yX12_canTell ∈ mm_gw := mm_gw_in (mm_ch8 (List.mem_of_getElem? (i := 57) (by rfl))) rfl
set_option maxRecDepth 100000 in
theorem ww_1848 : Cond.instanceMethod yX12_canTell ∈ mm_gw := mm_gw_in (mm_ch8 (List.mem_of_getElem? (i := 59) (by rfl))) rfl
set_option maxRecDepth 100000 in
theorem ww_1849 : Cond.code yX12_canTell cX12_canTell 4 (some .boolean) ∈ mm_gw := mm_gw_in (mm_ch8 (List.mem_of_getElem? (i := 60) (by rfl))) rfl
set_option maxRecDepth 100000 in
theorem ww_1850 : Cond.methodLink RX12 461 yX12_speaks ∈ mm_gw := mm_gw_in (mm_ch8 (List.mem_of_getElem? (i := 61) (by rfl))) rfl
set_option maxRecDepth 100000 in
theorem ww_1852 : Cond.instanceMethod yX12_speaks ∈ mm_gw := mm_gw_in (mm_ch8 (List.mem_of_getElem? (i := 63) (by rfl))) rfl
set_option maxRecDepth 100000 in
theorem ww_1853 : Cond.code yX12_speaks cX12_speaks 2 (some .boolean) ∈ mm_gw := mm_gw_in (mm_ch8 (List.mem_of_getElem? (i := 64) (by rfl))) rfl
set_option maxRecDepth 100000 in
theorem ww_1854 : Cond.methodLink RX12 467 yX12_keeps ∈ mm_gw := mm_gw_in (mm_ch8 (List.mem_of_getElem? (i := 65) (by rfl))) rfl
set_option maxRecDepth 100000 in
theorem ww_1856 : Cond.instanceMethod yX12_keeps ∈ mm_gw := mm_gw_in (mm_ch8 (List.mem_of_getElem? (i := 67) (by rfl))) rfl
set_option maxRecDepth 100000 in
theorem ww_1857 : Cond.code yX12_keeps cX12_keeps 2 (none) ∈ mm_gw := mm_gw_in (mm_ch8 (List.mem_of_getElem? (i := 68) (by rfl))) rfl
set_option maxRecDepth 100000 in
theorem ww_1858 : Cond.methodLink RX12 457 yX12_copies ∈ mm_gw := mm_gw_in (mm_ch8 (List.mem_of_getElem? (i := 69) (by rfl))) rfl
set_option maxRecDepth 100000 in
theorem ww_1859 : Cond.static yX12_copies ∈ mm_gw := mm_gw_in (mm_ch8 (List.mem_of_getElem? (i := 70) (by rfl))) rfl
set_option maxRecDepth 100000 in
theorem ww_1860 : Cond.code yX12_copies cX12_copies 5 (none) ∈ mm_gw := mm_gw_in (mm_ch8 (List.mem_of_getElem? (i := 71) (by rfl))) rfl
set_option maxRecDepth 100000 in
theorem ww_1861 : Cond.methodLink RX12 470 yX12_tells ∈ mm_gw := mm_gw_in (mm_ch8 (List.mem_of_getElem? (i := 72) (by rfl))) rfl
set_option maxRecDepth 100000 in
theorem ww_1863 : Cond.instanceMethod yX12_tells ∈ mm_gw := mm_gw_in (mm_ch8 (List.mem_of_getElem? (i := 74) (by rfl))) rfl
set_option maxRecDepth 100000 in
theorem ww_1864 : Cond.code yX12_tells cX12_tells 4 (none) ∈ mm_gw := mm_gw_in (mm_ch8 (List.mem_of_getElem? (i := 75) (by rfl))) rfl
set_option maxRecDepth 100000 in
theorem ww_1869 : Cond.methodLink RX12 474 yX12_canPay ∈ mm_gw := mm_gw_in (mm_ch8 (List.mem_of_getElem? (i := 80) (by rfl))) rfl
set_option maxRecDepth 100000 in
theorem ww_1871 : Cond.instanceMethod yX12_canPay ∈ mm_gw := mm_gw_in (mm_ch8 (List.mem_of_getElem? (i := 82) (by rfl))) rfl
set_option maxRecDepth 100000 in
theorem ww_1872 : Cond.code yX12_canPay cX12_canPay 3 (some .boolean) ∈ mm_gw := mm_gw_in (mm_ch8 (List.mem_of_getElem? (i := 83) (by rfl))) rfl
set_option maxRecDepth 100000 in
theorem ww_1873 : Cond.methodLink RX12 477 yX12_pays ∈ mm_gw := mm_gw_in (mm_ch8 (List.mem_of_getElem? (i := 84) (by rfl))) rfl
set_option maxRecDepth 100000 in
theorem ww_1875 : Cond.instanceMethod yX12_pays ∈ mm_gw := mm_gw_in (mm_ch8 (List.mem_of_getElem? (i := 86) (by rfl))) rfl
set_option maxRecDepth 100000 in
theorem ww_1876 : Cond.code yX12_pays cX12_pays 3 (none) ∈ mm_gw := mm_gw_in (mm_ch8 (List.mem_of_getElem? (i := 87) (by rfl))) rfl
set_option maxRecDepth 100000 in
theorem ww_1885 : Cond.methodLink RX12 480 yX12_passes ∈ mm_gw := mm_gw_in (mm_ch8 (List.mem_of_getElem? (i := 96) (by rfl))) rfl
set_option maxRecDepth 100000 in
theorem ww_1887 : Cond.instanceMethod yX12_passes ∈ mm_gw := mm_gw_in (mm_ch8 (List.mem_of_getElem? (i := 98) (by rfl))) rfl
set_option maxRecDepth 100000 in
theorem ww_1888 : Cond.code yX12_passes cX12_passes 3 (some .int) ∈ mm_gw := mm_gw_in (mm_ch8 (List.mem_of_getElem? (i := 99) (by rfl))) rfl
set_option maxRecDepth 100000 in
theorem ww_1901 : Cond.methodLink RX12 483 yX12_goes ∈ mm_gw := mm_gw_in (mm_ch8 (List.mem_of_getElem? (i := 112) (by rfl))) rfl
set_option maxRecDepth 100000 in
theorem ww_1903 : Cond.instanceMethod yX12_goes ∈ mm_gw := mm_gw_in (mm_ch8 (List.mem_of_getElem? (i := 114) (by rfl))) rfl
set_option maxRecDepth 100000 in
theorem ww_1904 : Cond.code yX12_goes cX12_goes 5 (some .boolean) ∈ mm_gw := mm_gw_in (mm_ch8 (List.mem_of_getElem? (i := 115) (by rfl))) rfl
set_option maxRecDepth 100000 in
theorem ww_1905 : Cond.methodLink RX12 486 yX12_finesOfAll ∈ mm_gw := mm_gw_in (mm_ch8 (List.mem_of_getElem? (i := 116) (by rfl))) rfl
set_option maxRecDepth 100000 in
theorem ww_1907 : Cond.instanceMethod yX12_finesOfAll ∈ mm_gw := mm_gw_in (mm_ch8 (List.mem_of_getElem? (i := 118) (by rfl))) rfl
set_option maxRecDepth 100000 in
theorem ww_1908 : Cond.code yX12_finesOfAll cX12_finesOfAll 3 (some .int) ∈ mm_gw := mm_gw_in (mm_ch8 (List.mem_of_getElem? (i := 119) (by rfl))) rfl
set_option maxRecDepth 100000 in
theorem ww_1909 : Cond.methodLink RX12 489 yX12_allSecrets ∈ mm_gw := mm_gw_in (mm_ch8 (List.mem_of_getElem? (i := 120) (by rfl))) rfl
set_option maxRecDepth 100000 in
theorem ww_1911 : Cond.instanceMethod yX12_allSecrets ∈ mm_gw := mm_gw_in (mm_ch8 (List.mem_of_getElem? (i := 122) (by rfl))) rfl
set_option maxRecDepth 100000 in
theorem ww_1912 : Cond.code yX12_allSecrets cX12_allSecrets 1 (some .int) ∈ mm_gw := mm_gw_in (mm_ch8 (List.mem_of_getElem? (i := 123) (by rfl))) rfl
set_option maxRecDepth 100000 in
theorem ww_1917 : Cond.methodLink RX12 495 yX12_leastOf ∈ mm_gw := mm_gw_in (mm_ch8 (List.mem_of_getElem? (i := 128) (by rfl))) rfl
set_option maxRecDepth 100000 in
theorem ww_1919 : Cond.instanceMethod yX12_leastOf ∈ mm_gw := mm_gw_in (mm_ch8 (List.mem_of_getElem? (i := 130) (by rfl))) rfl
set_option maxRecDepth 100000 in
theorem ww_1920 : Cond.code yX12_leastOf cX12_leastOf 6 (some .int) ∈ mm_gw := mm_gw_in (mm_ch8 (List.mem_of_getElem? (i := 131) (by rfl))) rfl
set_option maxRecDepth 100000 in
theorem ww_1921 : Cond.methodLink RX12 492 yX12_bits ∈ mm_gw := mm_gw_in (mm_ch8 (List.mem_of_getElem? (i := 132) (by rfl))) rfl
set_option maxRecDepth 100000 in
theorem ww_1922 : Cond.static yX12_bits ∈ mm_gw := mm_gw_in (mm_ch8 (List.mem_of_getElem? (i := 133) (by rfl))) rfl
set_option maxRecDepth 100000 in
theorem ww_1923 : Cond.code yX12_bits cX12_bits 3 (some .int) ∈ mm_gw := mm_gw_in (mm_ch8 (List.mem_of_getElem? (i := 134) (by rfl))) rfl
set_option maxRecDepth 100000 in
theorem ww_1928 : Cond.methodLink RX12 498 yX12_payTogether ∈ mm_gw := mm_gw_in (mm_ch8 (List.mem_of_getElem? (i := 139) (by rfl))) rfl
set_option maxRecDepth 100000 in
theorem ww_1930 : Cond.instanceMethod yX12_payTogether ∈ mm_gw := mm_gw_in (mm_ch8 (List.mem_of_getElem? (i := 141) (by rfl))) rfl
set_option maxRecDepth 100000 in
theorem ww_1931 : Cond.code yX12_payTogether cX12_payTogether 5 (some .boolean) ∈ mm_gw := mm_gw_in (mm_ch8 (List.mem_of_getElem? (i := 142) (by rfl))) rfl
set_option maxRecDepth 100000 in
theorem ww_1936 : Cond.methodLink RX12 507 yX12_plots ∈ mm_gw := mm_gw_in (mm_ch8 (List.mem_of_getElem? (i := 147) (by rfl))) rfl
set_option maxRecDepth 100000 in
theorem ww_1938 : Cond.instanceMethod yX12_plots ∈ mm_gw := mm_gw_in (mm_ch8 (List.mem_of_getElem? (i := 149) (by rfl))) rfl
set_option maxRecDepth 100000 in
theorem ww_1939 : Cond.code yX12_plots cX12_plots 11 (none) ∈ mm_gw := mm_gw_in (mm_ch8 (List.mem_of_getElem? (i := 150) (by rfl))) rfl
set_option maxRecDepth 100000 in
theorem ww_1948 : Cond.methodLink RX12 511 yX12_isAsSeen ∈ mm_gw := mm_gw_in (mm_ch8 (List.mem_of_getElem? (i := 159) (by rfl))) rfl
set_option maxRecDepth 100000 in
theorem ww_1950 : Cond.instanceMethod yX12_isAsSeen ∈ mm_gw := mm_gw_in (mm_ch8 (List.mem_of_getElem? (i := 161) (by rfl))) rfl
set_option maxRecDepth 100000 in
theorem ww_1951 : Cond.code yX12_isAsSeen cX12_isAsSeen 3 (some .boolean) ∈ mm_gw := mm_gw_in (mm_ch8 (List.mem_of_getElem? (i := 162) (by rfl))) rfl
set_option maxRecDepth 100000 in
theorem ww_1956 : Cond.methodLink RX12 514 yX12_isClashing ∈ mm_gw := mm_gw_in (mm_ch8 (List.mem_of_getElem? (i := 167) (by rfl))) rfl
set_option maxRecDepth 100000 in
theorem ww_1958 : Cond.instanceMethod yX12_isClashing ∈ mm_gw := mm_gw_in (mm_ch8 (List.mem_of_getElem? (i := 169) (by rfl))) rfl
set_option maxRecDepth 100000 in
theorem ww_1959 : Cond.code yX12_isClashing cX12_isClashing 3 (some .boolean) ∈ mm_gw := mm_gw_in (mm_ch8 (List.mem_of_getElem? (i := 170) (by rfl))) rfl
set_option maxRecDepth 100000 in
theorem ww_1964 : Cond.methodLink RX12 526 yX12_nights ∈ mm_gw := mm_gw_in (mm_ch8 (List.mem_of_getElem? (i := 175) (by rfl))) rfl
set_option maxRecDepth 100000 in
theorem ww_1966 : Cond.instanceMethod yX12_nights ∈ mm_gw := mm_gw_in (mm_ch8 (List.mem_of_getElem? (i := 177) (by rfl))) rfl
set_option maxRecDepth 100000 in
theorem ww_1967 : Cond.code yX12_nights cX12_nights 4 (none) ∈ mm_gw := mm_gw_in (mm_ch8 (List.mem_of_getElem? (i := 178) (by rfl))) rfl
set_option maxRecDepth 100000 in
theorem ww_1968 : Cond.constant RX12 517 1000000 ∈ mm_gw := mm_gw_in (mm_ch8 (List.mem_of_getElem? (i := 179) (by rfl))) rfl
set_option maxRecDepth 100000 in
theorem ww_1969 : Cond.methodLink RX12 523 yX12_night ∈ mm_gw := mm_gw_in (mm_ch8 (List.mem_of_getElem? (i := 180) (by rfl))) rfl
set_option maxRecDepth 100000 in
theorem ww_1971 : Cond.instanceMethod yX12_night ∈ mm_gw := mm_gw_in (mm_ch8 (List.mem_of_getElem? (i := 182) (by rfl))) rfl
set_option maxRecDepth 100000 in
theorem ww_1972 : Cond.code yX12_night cX12_night 7 (none) ∈ mm_gw := mm_gw_in (mm_ch8 (List.mem_of_getElem? (i := 183) (by rfl))) rfl
set_option maxRecDepth 100000 in
theorem ww_1973 : Cond.methodLink RX12 518 yX12_laysHears ∈ mm_gw := mm_gw_in (mm_ch8 (List.mem_of_getElem? (i := 184) (by rfl))) rfl
set_option maxRecDepth 100000 in
theorem ww_1975 : Cond.instanceMethod yX12_laysHears ∈ mm_gw := mm_gw_in (mm_ch8 (List.mem_of_getElem? (i := 186) (by rfl))) rfl
set_option maxRecDepth 100000 in
theorem ww_1976 : Cond.code yX12_laysHears cX12_laysHears 6 (none) ∈ mm_gw := mm_gw_in (mm_ch8 (List.mem_of_getElem? (i := 187) (by rfl))) rfl
set_option maxRecDepth 100000 in
theorem ww_1977 : Cond.constantLong RX12 521 1000000 ∈ mm_gw := mm_gw_in (mm_ch8 (List.mem_of_getElem? (i := 188) (by rfl))) rfl
set_option maxRecDepth 100000 in
theorem ww_1978 : Cond.constantLong RX12 529 1000 ∈ mm_gw := mm_gw_in (mm_ch8 (List.mem_of_getElem? (i := 189) (by rfl))) rfl
set_option maxRecDepth 100000 in
theorem ww_1991 : Cond.methodLink RX12 537 yX12_may ∈ mm_gw := mm_gw_in (mm_ch8 (List.mem_of_getElem? (i := 202) (by rfl))) rfl
set_option maxRecDepth 100000 in
theorem ww_1993 : Cond.instanceMethod yX12_may ∈ mm_gw := mm_gw_in (mm_ch8 (List.mem_of_getElem? (i := 204) (by rfl))) rfl
set_option maxRecDepth 100000 in
theorem ww_1994 : Cond.code yX12_may cX12_may 3 (some .boolean) ∈ mm_gw := mm_gw_in (mm_ch8 (List.mem_of_getElem? (i := 205) (by rfl))) rfl
set_option maxRecDepth 100000 in
theorem ww_1995 : Cond.methodLink RX12 540 yX12_isRest ∈ mm_gw := mm_gw_in (mm_ch8 (List.mem_of_getElem? (i := 206) (by rfl))) rfl
set_option maxRecDepth 100000 in
theorem ww_1997 : Cond.instanceMethod yX12_isRest ∈ mm_gw := mm_gw_in (mm_ch8 (List.mem_of_getElem? (i := 208) (by rfl))) rfl
set_option maxRecDepth 100000 in
theorem ww_1998 : Cond.code yX12_isRest cX12_isRest 6 (some .boolean) ∈ mm_gw := mm_gw_in (mm_ch8 (List.mem_of_getElem? (i := 209) (by rfl))) rfl
set_option maxRecDepth 100000 in
theorem ww_1999 : Cond.methodLink RX12 534 yX12_hasBy ∈ mm_gw := mm_gw_in (mm_ch8 (List.mem_of_getElem? (i := 210) (by rfl))) rfl
set_option maxRecDepth 100000 in
theorem ww_2001 : Cond.instanceMethod yX12_hasBy ∈ mm_gw := mm_gw_in (mm_ch8 (List.mem_of_getElem? (i := 212) (by rfl))) rfl
set_option maxRecDepth 100000 in
theorem ww_2002 : Cond.code yX12_hasBy cX12_hasBy 4 (some .int) ∈ mm_gw := mm_gw_in (mm_ch8 (List.mem_of_getElem? (i := 213) (by rfl))) rfl
set_option maxRecDepth 100000 in
theorem ww_2007 : Cond.methodLink RX12 557 yX12_whispers ∈ mm_gw := mm_gw_in (mm_ch8 (List.mem_of_getElem? (i := 218) (by rfl))) rfl
set_option maxRecDepth 100000 in
theorem ww_2009 : Cond.instanceMethod yX12_whispers ∈ mm_gw := mm_gw_in (mm_ch8 (List.mem_of_getElem? (i := 220) (by rfl))) rfl
set_option maxRecDepth 100000 in
theorem ww_2010 : Cond.code yX12_whispers cX12_whispers 4 (some .int) ∈ mm_gw := mm_gw_in (mm_ch8 (List.mem_of_getElem? (i := 221) (by rfl))) rfl
set_option maxRecDepth 100000 in
theorem ww_2011 : Cond.methodLink RX12 554 yX12_draws ∈ mm_gw := mm_gw_in (mm_ch8 (List.mem_of_getElem? (i := 222) (by rfl))) rfl
set_option maxRecDepth 100000 in
theorem ww_2013 : Cond.instanceMethod yX12_draws ∈ mm_gw := mm_gw_in (mm_ch8 (List.mem_of_getElem? (i := 224) (by rfl))) rfl
set_option maxRecDepth 100000 in
theorem ww_2014 : Cond.code yX12_draws cX12_draws 2 (some .int) ∈ mm_gw := mm_gw_in (mm_ch8 (List.mem_of_getElem? (i := 225) (by rfl))) rfl
set_option maxRecDepth 100000 in
theorem ww_2015 : Cond.constantLong RX12 546 1103515245 ∈ mm_gw := mm_gw_in (mm_ch8 (List.mem_of_getElem? (i := 226) (by rfl))) rfl
set_option maxRecDepth 100000 in
theorem ww_2016 : Cond.constantLong RX12 548 12345 ∈ mm_gw := mm_gw_in (mm_ch8 (List.mem_of_getElem? (i := 227) (by rfl))) rfl
set_option maxRecDepth 100000 in
theorem ww_2017 : Cond.constantLong RX12 550 2147483648 ∈ mm_gw := mm_gw_in (mm_ch8 (List.mem_of_getElem? (i := 228) (by rfl))) rfl
set_option maxRecDepth 100000 in
theorem ww_2018 : Cond.constantLong RX12 552 65536 ∈ mm_gw := mm_gw_in (mm_ch8 (List.mem_of_getElem? (i := 229) (by rfl))) rfl
set_option maxRecDepth 100000 in
theorem ww_2023 : Cond.methodLink RX12 560 yX12_laysSeen ∈ mm_gw := mm_gw_in (mm_ch8 (List.mem_of_getElem? (i := 234) (by rfl))) rfl
set_option maxRecDepth 100000 in
theorem ww_2025 : Cond.instanceMethod yX12_laysSeen ∈ mm_gw := mm_gw_in (mm_ch8 (List.mem_of_getElem? (i := 236) (by rfl))) rfl
set_option maxRecDepth 100000 in
theorem ww_2026 : Cond.code yX12_laysSeen cX12_laysSeen 4 (none) ∈ mm_gw := mm_gw_in (mm_ch8 (List.mem_of_getElem? (i := 237) (by rfl))) rfl
set_option maxRecDepth 100000 in
theorem ww_2047 : Cond.fieldLink RX7 69 "PaidSecrets$Word" "code" "J" ∈ mm_gw := mm_gw_in (mm_ch9 (List.mem_of_getElem? (i := 18) (by rfl))) rfl
set_option maxRecDepth 100000 in
theorem ww_2048 : Cond.fieldLink RJ0 15 "java/lang/String" "coder" "B" ∈ mm_gw := mm_gw_in (mm_ch9 (List.mem_of_getElem? (i := 19) (by rfl))) rfl
set_option maxRecDepth 100000 in
theorem ww_2049 : Cond.fieldLink RJ0 9 "java/lang/String" "value" "[B" ∈ mm_gw := mm_gw_in (mm_ch9 (List.mem_of_getElem? (i := 20) (by rfl))) rfl
set_option maxRecDepth 100000 in
theorem ww_2050 : Cond.fieldLink RX7 72 "PaidSecrets$Word" "fact" "I" ∈ mm_gw := mm_gw_in (mm_ch9 (List.mem_of_getElem? (i := 21) (by rfl))) rfl
set_option maxRecDepth 100000 in
theorem ww_2051 : Cond.fieldLink RX3 61 "PaidSecrets$Word" "fact" "I" ∈ mm_gw := mm_gw_in (mm_ch9 (List.mem_of_getElem? (i := 22) (by rfl))) rfl
