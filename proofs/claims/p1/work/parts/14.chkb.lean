/-! the program is what the Statement has, further -/
set_option maxRecDepth 100000 in
theorem wk_Ta_seekDoubt : wordsB P_Ta_seekDoubt = true := by decide +kernel
set_option maxRecDepth 100000 in
theorem ck_Ta_seekDoubt : codeB P_Ta_seekDoubt = true := by decide +kernel
set_option maxRecDepth 100000 in
theorem wk_Ta_sizeOf : wordsB P_Ta_sizeOf = true := by decide +kernel
set_option maxRecDepth 100000 in
theorem ck_Ta_sizeOf : codeB P_Ta_sizeOf = true := by decide +kernel
set_option maxRecDepth 100000 in
theorem wk_Ta_indexOf : wordsB P_Ta_indexOf = true := by decide +kernel
set_option maxRecDepth 100000 in
theorem ck_Ta_indexOf : codeB P_Ta_indexOf = true := by decide +kernel
set_option maxRecDepth 100000 in
theorem wk_Ta_lookAhead : wordsB P_Ta_lookAhead = true := by decide +kernel
set_option maxRecDepth 100000 in
theorem ck_Ta_lookAhead : codeB P_Ta_lookAhead = true := by decide +kernel
set_option maxRecDepth 100000 in
theorem wk_Ta_inCommon : wordsB P_Ta_inCommon = true := by decide +kernel
set_option maxRecDepth 100000 in
theorem ck_Ta_inCommon : codeB P_Ta_inCommon = true := by decide +kernel
set_option maxRecDepth 100000 in
theorem wk_Ta_prepareSteps : wordsB P_Ta_prepareSteps = true := by decide +kernel
set_option maxRecDepth 100000 in
theorem ck_Ta_prepareSteps : codeB P_Ta_prepareSteps = true := by decide +kernel
set_option maxRecDepth 100000 in
theorem wk_Ta_deepen : wordsB P_Ta_deepen = true := by decide +kernel
set_option maxRecDepth 100000 in
theorem ck_Ta_deepen : codeB P_Ta_deepen = true := by decide +kernel
set_option maxRecDepth 100000 in
theorem wk_Te_init : wordsB P_Te_init = true := by decide +kernel
set_option maxRecDepth 100000 in
theorem ck_Te_init : codeB P_Te_init = true := by decide +kernel
set_option maxRecDepth 100000 in
theorem wk_Te_tell : wordsB P_Te_tell = true := by decide +kernel
set_option maxRecDepth 100000 in
theorem ck_Te_tell : codeB P_Te_tell = true := by decide +kernel
set_option maxRecDepth 100000 in
theorem wk_Te_rowStop : wordsB P_Te_rowStop = true := by decide +kernel
set_option maxRecDepth 100000 in
theorem ck_Te_rowStop : codeB P_Te_rowStop = true := by decide +kernel
set_option maxRecDepth 100000 in
theorem wk_Te_rowCode : wordsB P_Te_rowCode = true := by decide +kernel
set_option maxRecDepth 100000 in
theorem ck_Te_rowCode : codeB P_Te_rowCode = true := by decide +kernel
set_option maxRecDepth 100000 in
theorem wk_Te_takeRow : wordsB P_Te_takeRow = true := by decide +kernel
set_option maxRecDepth 100000 in
theorem ck_Te_takeRow : codeB P_Te_takeRow = true := by decide +kernel
set_option maxRecDepth 100000 in
theorem wk_Te_takeLine : wordsB P_Te_takeLine = true := by decide +kernel
set_option maxRecDepth 100000 in
theorem ck_Te_takeLine : codeB P_Te_takeLine = true := by decide +kernel
set_option maxRecDepth 100000 in
theorem wk_Te_takeName : wordsB P_Te_takeName = true := by decide +kernel
set_option maxRecDepth 100000 in
theorem ck_Te_takeName : codeB P_Te_takeName = true := by decide +kernel
set_option maxRecDepth 100000 in
theorem wk_Te_takeGroup : wordsB P_Te_takeGroup = true := by decide +kernel
set_option maxRecDepth 100000 in
theorem ck_Te_takeGroup : codeB P_Te_takeGroup = true := by decide +kernel
set_option maxRecDepth 100000 in
theorem wk_Te_takeSign : wordsB P_Te_takeSign = true := by decide +kernel
set_option maxRecDepth 100000 in
theorem ck_Te_takeSign : codeB P_Te_takeSign = true := by decide +kernel
set_option maxRecDepth 100000 in
theorem wk_Tr_init : wordsB P_Tr_init = true := by decide +kernel
set_option maxRecDepth 100000 in
theorem ck_Tr_init : codeB P_Tr_init = true := by decide +kernel
set_option maxRecDepth 100000 in
theorem wk_Tr_build : wordsB P_Tr_build = true := by decide +kernel
set_option maxRecDepth 100000 in
theorem ck_Tr_build : codeB P_Tr_build = true := by decide +kernel
set_option maxRecDepth 100000 in
theorem wk_Tr_plant : wordsB P_Tr_plant = true := by decide +kernel
set_option maxRecDepth 100000 in
theorem ck_Tr_plant : codeB P_Tr_plant = true := by decide +kernel
set_option maxRecDepth 100000 in
theorem wk_Tr_linkSuffixes : wordsB P_Tr_linkSuffixes = true := by decide +kernel
set_option maxRecDepth 100000 in
theorem ck_Tr_linkSuffixes : codeB P_Tr_linkSuffixes = true := by decide +kernel
set_option maxRecDepth 100000 in
theorem wk_Tr_listBySign : wordsB P_Tr_listBySign = true := by decide +kernel
set_option maxRecDepth 100000 in
theorem ck_Tr_listBySign : codeB P_Tr_listBySign = true := by decide +kernel
set_option maxRecDepth 100000 in
theorem wk_Tr_isUsed : wordsB P_Tr_isUsed = true := by decide +kernel
set_option maxRecDepth 100000 in
theorem ck_Tr_isUsed : codeB P_Tr_isUsed = true := by decide +kernel
set_option maxRecDepth 100000 in
theorem wk_Tr_next : wordsB P_Tr_next = true := by decide +kernel
set_option maxRecDepth 100000 in
theorem ck_Tr_next : codeB P_Tr_next = true := by decide +kernel
set_option maxRecDepth 100000 in
theorem wk_Tr_back : wordsB P_Tr_back = true := by decide +kernel
set_option maxRecDepth 100000 in
theorem ck_Tr_back : codeB P_Tr_back = true := by decide +kernel
set_option maxRecDepth 100000 in
theorem wk_Tw_init : wordsB P_Tw_init = true := by decide +kernel
set_option maxRecDepth 100000 in
theorem ck_Tw_init : codeB P_Tw_init = true := by decide +kernel
set_option maxRecDepth 100000 in
theorem wk_Tw_find : wordsB P_Tw_find = true := by decide +kernel
set_option maxRecDepth 100000 in
theorem ck_Tw_find : codeB P_Tw_find = true := by decide +kernel
set_option maxRecDepth 100000 in
theorem wk_Tw_goOn : wordsB P_Tw_goOn = true := by decide +kernel
set_option maxRecDepth 100000 in
theorem ck_Tw_goOn : codeB P_Tw_goOn = true := by decide +kernel
set_option maxRecDepth 100000 in
theorem wk_Tw_step : wordsB P_Tw_step = true := by decide +kernel
set_option maxRecDepth 100000 in
theorem ck_Tw_step : codeB P_Tw_step = true := by decide +kernel
set_option maxRecDepth 100000 in
theorem wk_Tw_push : wordsB P_Tw_push = true := by decide +kernel
set_option maxRecDepth 100000 in
theorem ck_Tw_push : codeB P_Tw_push = true := by decide +kernel
set_option maxRecDepth 100000 in
theorem wk_Tw_copyTo : wordsB P_Tw_copyTo = true := by decide +kernel
set_option maxRecDepth 100000 in
theorem ck_Tw_copyTo : codeB P_Tw_copyTo = true := by decide +kernel
set_option maxRecDepth 100000 in
theorem wk_Wo_init : wordsB P_Wo_init = true := by decide +kernel
set_option maxRecDepth 100000 in
theorem ck_Wo_init : codeB P_Wo_init = true := by decide +kernel
set_option maxRecDepth 100000 in
theorem wk_Wo_clear : wordsB P_Wo_clear = true := by decide +kernel
set_option maxRecDepth 100000 in
theorem ck_Wo_clear : codeB P_Wo_clear = true := by decide +kernel
set_option maxRecDepth 100000 in
theorem wk_Wo_add : wordsB P_Wo_add = true := by decide +kernel
set_option maxRecDepth 100000 in
theorem ck_Wo_add : codeB P_Wo_add = true := by decide +kernel
set_option maxRecDepth 100000 in
theorem wk_Wo_addRow : wordsB P_Wo_addRow = true := by decide +kernel
set_option maxRecDepth 100000 in
theorem ck_Wo_addRow : codeB P_Wo_addRow = true := by decide +kernel
set_option maxRecDepth 100000 in
theorem wk_Wo_standing : wordsB P_Wo_standing = true := by decide +kernel
set_option maxRecDepth 100000 in
theorem ck_Wo_standing : codeB P_Wo_standing = true := by decide +kernel
set_option maxRecDepth 100000 in
theorem wk_Wo_fits : wordsB P_Wo_fits = true := by decide +kernel
set_option maxRecDepth 100000 in
theorem ck_Wo_fits : codeB P_Wo_fits = true := by decide +kernel
set_option maxRecDepth 100000 in
theorem wk_Wo_countWays : wordsB P_Wo_countWays = true := by decide +kernel
set_option maxRecDepth 100000 in
theorem ck_Wo_countWays : codeB P_Wo_countWays = true := by decide +kernel
set_option maxRecDepth 100000 in
theorem wk_Wo_sumWithoutWrap : wordsB P_Wo_sumWithoutWrap = true := by decide +kernel
set_option maxRecDepth 100000 in
theorem ck_Wo_sumWithoutWrap : codeB P_Wo_sumWithoutWrap = true := by decide +kernel
set_option maxRecDepth 100000 in
theorem wk_Wo_groupOfReading : wordsB P_Wo_groupOfReading = true := by decide +kernel
set_option maxRecDepth 100000 in
theorem ck_Wo_groupOfReading : codeB P_Wo_groupOfReading = true := by decide +kernel
set_option maxRecDepth 100000 in
theorem wk_Wo_groupToward : wordsB P_Wo_groupToward = true := by decide +kernel
set_option maxRecDepth 100000 in
theorem ck_Wo_groupToward : codeB P_Wo_groupToward = true := by decide +kernel
set_option maxRecDepth 100000 in
theorem wk_Wo_unlikeSoundRows : wordsB P_Wo_unlikeSoundRows = true := by decide +kernel
set_option maxRecDepth 100000 in
theorem ck_Wo_unlikeSoundRows : codeB P_Wo_unlikeSoundRows = true := by decide +kernel
set_option maxRecDepth 100000 in
theorem wk_Wo_longestBeginning : wordsB P_Wo_longestBeginning = true := by decide +kernel
set_option maxRecDepth 100000 in
theorem ck_Wo_longestBeginning : codeB P_Wo_longestBeginning = true := by decide +kernel
set_option maxRecDepth 100000 in
theorem wk_Ow_init : wordsB P_Ow_init = true := by decide +kernel
set_option maxRecDepth 100000 in
theorem ck_Ow_init : codeB P_Ow_init = true := by decide +kernel
set_option maxRecDepth 100000 in
theorem wk_Ow_feed : wordsB P_Ow_feed = true := by decide +kernel
set_option maxRecDepth 100000 in
theorem ck_Ow_feed : codeB P_Ow_feed = true := by decide +kernel
set_option maxRecDepth 100000 in
theorem wk_Ow_end : wordsB P_Ow_end = true := by decide +kernel
set_option maxRecDepth 100000 in
theorem ck_Ow_end : codeB P_Ow_end = true := by decide +kernel
set_option maxRecDepth 100000 in
theorem wk_Ow_table : wordsB P_Ow_table = true := by decide +kernel
set_option maxRecDepth 100000 in
theorem ck_Ow_table : codeB P_Ow_table = true := by decide +kernel
set_option maxRecDepth 100000 in
theorem wk_Ow_fault : wordsB P_Ow_fault = true := by decide +kernel
set_option maxRecDepth 100000 in
theorem ck_Ow_fault : codeB P_Ow_fault = true := by decide +kernel
set_option maxRecDepth 100000 in
theorem wk_Ow_group : wordsB P_Ow_group = true := by decide +kernel
set_option maxRecDepth 100000 in
theorem ck_Ow_group : codeB P_Ow_group = true := by decide +kernel
set_option maxRecDepth 100000 in
theorem wk_Ow_about : wordsB P_Ow_about = true := by decide +kernel
set_option maxRecDepth 100000 in
theorem ck_Ow_about : codeB P_Ow_about = true := by decide +kernel
set_option maxRecDepth 100000 in
theorem wk_Ow_meets : wordsB P_Ow_meets = true := by decide +kernel
set_option maxRecDepth 100000 in
theorem ck_Ow_meets : codeB P_Ow_meets = true := by decide +kernel
set_option maxRecDepth 100000 in
theorem wk_Ow_parts : wordsB P_Ow_parts = true := by decide +kernel
set_option maxRecDepth 100000 in
theorem ck_Ow_parts : codeB P_Ow_parts = true := by decide +kernel
set_option maxRecDepth 100000 in
theorem wk_Ow_tails : wordsB P_Ow_tails = true := by decide +kernel
set_option maxRecDepth 100000 in
theorem ck_Ow_tails : codeB P_Ow_tails = true := by decide +kernel
set_option maxRecDepth 100000 in
theorem wk_Ow_tail : wordsB P_Ow_tail = true := by decide +kernel
set_option maxRecDepth 100000 in
theorem ck_Ow_tail : codeB P_Ow_tail = true := by decide +kernel
set_option maxRecDepth 100000 in
theorem wk_Ow_doubt : wordsB P_Ow_doubt = true := by decide +kernel
set_option maxRecDepth 100000 in
theorem ck_Ow_doubt : codeB P_Ow_doubt = true := by decide +kernel
set_option maxRecDepth 100000 in
theorem wk_Ow_witness : wordsB P_Ow_witness = true := by decide +kernel
set_option maxRecDepth 100000 in
theorem ck_Ow_witness : codeB P_Ow_witness = true := by decide +kernel
set_option maxRecDepth 100000 in
theorem wk_Ow_look : wordsB P_Ow_look = true := by decide +kernel
set_option maxRecDepth 100000 in
theorem ck_Ow_look : codeB P_Ow_look = true := by decide +kernel
set_option maxRecDepth 100000 in
theorem wk_Ow_share : wordsB P_Ow_share = true := by decide +kernel
set_option maxRecDepth 100000 in
theorem ck_Ow_share : codeB P_Ow_share = true := by decide +kernel
set_option maxRecDepth 100000 in
theorem wk_Ow_word : wordsB P_Ow_word = true := by decide +kernel
set_option maxRecDepth 100000 in
theorem ck_Ow_word : codeB P_Ow_word = true := by decide +kernel
set_option maxRecDepth 100000 in
theorem wk_Ow_letter : wordsB P_Ow_letter = true := by decide +kernel
set_option maxRecDepth 100000 in
theorem ck_Ow_letter : codeB P_Ow_letter = true := by decide +kernel
set_option maxRecDepth 100000 in
theorem wk_Ow_readings : wordsB P_Ow_readings = true := by decide +kernel
set_option maxRecDepth 100000 in
theorem ck_Ow_readings : codeB P_Ow_readings = true := by decide +kernel
set_option maxRecDepth 100000 in
theorem wk_Ow_reading : wordsB P_Ow_reading = true := by decide +kernel
set_option maxRecDepth 100000 in
theorem ck_Ow_reading : codeB P_Ow_reading = true := by decide +kernel
set_option maxRecDepth 100000 in
theorem wk_Ow_sounds : wordsB P_Ow_sounds = true := by decide +kernel
set_option maxRecDepth 100000 in
theorem ck_Ow_sounds : codeB P_Ow_sounds = true := by decide +kernel
set_option maxRecDepth 100000 in
theorem wk_Ow_reads : wordsB P_Ow_reads = true := by decide +kernel
set_option maxRecDepth 100000 in
theorem ck_Ow_reads : codeB P_Ow_reads = true := by decide +kernel
set_option maxRecDepth 100000 in
theorem wk_Ow_took : wordsB P_Ow_took = true := by decide +kernel
set_option maxRecDepth 100000 in
theorem ck_Ow_took : codeB P_Ow_took = true := by decide +kernel
set_option maxRecDepth 100000 in
theorem wk_Ow_fool : wordsB P_Ow_fool = true := by decide +kernel
set_option maxRecDepth 100000 in
theorem ck_Ow_fool : codeB P_Ow_fool = true := by decide +kernel
set_option maxRecDepth 100000 in
theorem wk_Ow_goes : wordsB P_Ow_goes = true := by decide +kernel
set_option maxRecDepth 100000 in
theorem ck_Ow_goes : codeB P_Ow_goes = true := by decide +kernel
set_option maxRecDepth 100000 in
theorem wk_Ow_spell : wordsB P_Ow_spell = true := by decide +kernel
set_option maxRecDepth 100000 in
theorem ck_Ow_spell : codeB P_Ow_spell = true := by decide +kernel
set_option maxRecDepth 100000 in
theorem wk_Ow_drawn : wordsB P_Ow_drawn = true := by decide +kernel
set_option maxRecDepth 100000 in
theorem ck_Ow_drawn : codeB P_Ow_drawn = true := by decide +kernel
set_option maxRecDepth 100000 in
theorem wk_Ow_words : wordsB P_Ow_words = true := by decide +kernel
set_option maxRecDepth 100000 in
theorem ck_Ow_words : codeB P_Ow_words = true := by decide +kernel
set_option maxRecDepth 100000 in
theorem wk_Ow_nth : wordsB P_Ow_nth = true := by decide +kernel
set_option maxRecDepth 100000 in
theorem ck_Ow_nth : codeB P_Ow_nth = true := by decide +kernel
set_option maxRecDepth 100000 in
theorem wk_Ow_place : wordsB P_Ow_place = true := by decide +kernel
set_option maxRecDepth 100000 in
theorem ck_Ow_place : codeB P_Ow_place = true := by decide +kernel
set_option maxRecDepth 100000 in
theorem wk_Ow_borders : wordsB P_Ow_borders = true := by decide +kernel
set_option maxRecDepth 100000 in
theorem ck_Ow_borders : codeB P_Ow_borders = true := by decide +kernel
set_option maxRecDepth 100000 in
theorem wk_Ow_border : wordsB P_Ow_border = true := by decide +kernel
set_option maxRecDepth 100000 in
theorem ck_Ow_border : codeB P_Ow_border = true := by decide +kernel
set_option maxRecDepth 100000 in
theorem wk_Ow_cure : wordsB P_Ow_cure = true := by decide +kernel
set_option maxRecDepth 100000 in
theorem ck_Ow_cure : codeB P_Ow_cure = true := by decide +kernel
set_option maxRecDepth 100000 in
theorem wk_Ow_mend : wordsB P_Ow_mend = true := by decide +kernel
set_option maxRecDepth 100000 in
theorem ck_Ow_mend : codeB P_Ow_mend = true := by decide +kernel
set_option maxRecDepth 100000 in
theorem wk_Ow_out : wordsB P_Ow_out = true := by decide +kernel
set_option maxRecDepth 100000 in
theorem ck_Ow_out : codeB P_Ow_out = true := by decide +kernel
set_option maxRecDepth 100000 in
theorem wk_Ow_undo : wordsB P_Ow_undo = true := by decide +kernel
set_option maxRecDepth 100000 in
theorem ck_Ow_undo : codeB P_Ow_undo = true := by decide +kernel
set_option maxRecDepth 100000 in
theorem wk_Ow_freshTree : wordsB P_Ow_freshTree = true := by decide +kernel
set_option maxRecDepth 100000 in
theorem ck_Ow_freshTree : codeB P_Ow_freshTree = true := by decide +kernel
set_option maxRecDepth 100000 in
theorem wk_Ow_freshTails : wordsB P_Ow_freshTails = true := by decide +kernel
set_option maxRecDepth 100000 in
theorem ck_Ow_freshTails : codeB P_Ow_freshTails = true := by decide +kernel
set_option maxRecDepth 100000 in
theorem wk_Ow_freshCensus : wordsB P_Ow_freshCensus = true := by decide +kernel
set_option maxRecDepth 100000 in
theorem ck_Ow_freshCensus : codeB P_Ow_freshCensus = true := by decide +kernel
set_option maxRecDepth 100000 in
theorem wk_Ow_freshBorders : wordsB P_Ow_freshBorders = true := by decide +kernel
set_option maxRecDepth 100000 in
theorem ck_Ow_freshBorders : codeB P_Ow_freshBorders = true := by decide +kernel
set_option maxRecDepth 100000 in
theorem wk_Ow_theReader : wordsB P_Ow_theReader = true := by decide +kernel
set_option maxRecDepth 100000 in
theorem ck_Ow_theReader : codeB P_Ow_theReader = true := by decide +kernel
set_option maxRecDepth 100000 in
theorem wk_Ow_theCures : wordsB P_Ow_theCures = true := by decide +kernel
set_option maxRecDepth 100000 in
theorem ck_Ow_theCures : codeB P_Ow_theCures = true := by decide +kernel
set_option maxRecDepth 100000 in
theorem wk_Ow_put : wordsB P_Ow_put = true := by decide +kernel
set_option maxRecDepth 100000 in
theorem ck_Ow_put : codeB P_Ow_put = true := by decide +kernel
set_option maxRecDepth 100000 in
theorem wk_Ow_power : wordsB P_Ow_power = true := by decide +kernel
set_option maxRecDepth 100000 in
theorem ck_Ow_power : codeB P_Ow_power = true := by decide +kernel
set_option maxRecDepth 100000 in
theorem wk_Ow_commonDivisor : wordsB P_Ow_commonDivisor = true := by decide +kernel
set_option maxRecDepth 100000 in
theorem ck_Ow_commonDivisor : codeB P_Ow_commonDivisor = true := by decide +kernel
set_option maxRecDepth 100000 in
theorem wk_Ow_lower : wordsB P_Ow_lower = true := by decide +kernel
set_option maxRecDepth 100000 in
theorem ck_Ow_lower : codeB P_Ow_lower = true := by decide +kernel
set_option maxRecDepth 100000 in
theorem wk_Ow_begins : wordsB P_Ow_begins = true := by decide +kernel
set_option maxRecDepth 100000 in
theorem ck_Ow_begins : codeB P_Ow_begins = true := by decide +kernel
set_option maxRecDepth 100000 in
theorem wk_Ow_ends : wordsB P_Ow_ends = true := by decide +kernel
set_option maxRecDepth 100000 in
theorem ck_Ow_ends : codeB P_Ow_ends = true := by decide +kernel
set_option maxRecDepth 100000 in
theorem wk_Ow_lastOf : wordsB P_Ow_lastOf = true := by decide +kernel
set_option maxRecDepth 100000 in
theorem ck_Ow_lastOf : codeB P_Ow_lastOf = true := by decide +kernel
set_option maxRecDepth 100000 in
theorem wk_Ow_signOf : wordsB P_Ow_signOf = true := by decide +kernel
set_option maxRecDepth 100000 in
theorem ck_Ow_signOf : codeB P_Ow_signOf = true := by decide +kernel
set_option maxRecDepth 100000 in
theorem wk_Ow_shown : wordsB P_Ow_shown = true := by decide +kernel
set_option maxRecDepth 100000 in
theorem ck_Ow_shown : codeB P_Ow_shown = true := by decide +kernel
set_option maxRecDepth 100000 in
theorem wk_Ow_flushLeft : wordsB P_Ow_flushLeft = true := by decide +kernel
set_option maxRecDepth 100000 in
theorem ck_Ow_flushLeft : codeB P_Ow_flushLeft = true := by decide +kernel
set_option maxRecDepth 100000 in
theorem wk_Ow_commonLetters : wordsB P_Ow_commonLetters = true := by decide +kernel
set_option maxRecDepth 100000 in
theorem ck_Ow_commonLetters : codeB P_Ow_commonLetters = true := by decide +kernel
set_option maxRecDepth 100000 in
theorem wk_Md_init : wordsB P_Md_init = true := by decide +kernel
set_option maxRecDepth 100000 in
theorem ck_Md_init : codeB P_Md_init = true := by decide +kernel
set_option maxRecDepth 100000 in
theorem wk_Md_in : wordsB P_Md_in = true := by decide +kernel
set_option maxRecDepth 100000 in
theorem ck_Md_in : codeB P_Md_in = true := by decide +kernel
set_option maxRecDepth 100000 in
theorem wk_Md_isOf : wordsB P_Md_isOf = true := by decide +kernel
set_option maxRecDepth 100000 in
theorem ck_Md_isOf : codeB P_Md_isOf = true := by decide +kernel
set_option maxRecDepth 100000 in
theorem wk_Md_lesser : wordsB P_Md_lesser = true := by decide +kernel
set_option maxRecDepth 100000 in
theorem ck_Md_lesser : codeB P_Md_lesser = true := by decide +kernel
set_option maxRecDepth 100000 in
theorem wk_Md_many : wordsB P_Md_many = true := by decide +kernel
set_option maxRecDepth 100000 in
theorem ck_Md_many : codeB P_Md_many = true := by decide +kernel
set_option maxRecDepth 100000 in
theorem wk_Md_isGroup : wordsB P_Md_isGroup = true := by decide +kernel
set_option maxRecDepth 100000 in
theorem ck_Md_isGroup : codeB P_Md_isGroup = true := by decide +kernel
set_option maxRecDepth 100000 in
theorem wk_Md_letterAt : wordsB P_Md_letterAt = true := by decide +kernel
set_option maxRecDepth 100000 in
theorem ck_Md_letterAt : codeB P_Md_letterAt = true := by decide +kernel
set_option maxRecDepth 100000 in
theorem wk_Md_alike : wordsB P_Md_alike = true := by decide +kernel
set_option maxRecDepth 100000 in
theorem ck_Md_alike : codeB P_Md_alike = true := by decide +kernel
set_option maxRecDepth 100000 in
theorem wk_Md_four : wordsB P_Md_four = true := by decide +kernel
set_option maxRecDepth 100000 in
theorem ck_Md_four : codeB P_Md_four = true := by decide +kernel
set_option maxRecDepth 100000 in
theorem wk_Md_feed : wordsB P_Md_feed = true := by decide +kernel
set_option maxRecDepth 100000 in
theorem ck_Md_feed : codeB P_Md_feed = true := by decide +kernel
set_option maxRecDepth 100000 in
theorem wk_Md_end : wordsB P_Md_end = true := by decide +kernel
set_option maxRecDepth 100000 in
theorem ck_Md_end : codeB P_Md_end = true := by decide +kernel
set_option maxRecDepth 100000 in
theorem wk_Md_byteAt : wordsB P_Md_byteAt = true := by decide +kernel
set_option maxRecDepth 100000 in
theorem ck_Md_byteAt : codeB P_Md_byteAt = true := by decide +kernel
set_option maxRecDepth 100000 in
theorem wk_Md_isSmall : wordsB P_Md_isSmall = true := by decide +kernel
set_option maxRecDepth 100000 in
theorem ck_Md_isSmall : codeB P_Md_isSmall = true := by decide +kernel
set_option maxRecDepth 100000 in
theorem wk_Md_next : wordsB P_Md_next = true := by decide +kernel
set_option maxRecDepth 100000 in
theorem ck_Md_next : codeB P_Md_next = true := by decide +kernel
set_option maxRecDepth 100000 in
theorem wk_Md_isGood : wordsB P_Md_isGood = true := by decide +kernel
set_option maxRecDepth 100000 in
theorem ck_Md_isGood : codeB P_Md_isGood = true := by decide +kernel
set_option maxRecDepth 100000 in
theorem wk_Md_fails : wordsB P_Md_fails = true := by decide +kernel
set_option maxRecDepth 100000 in
theorem ck_Md_fails : codeB P_Md_fails = true := by decide +kernel
set_option maxRecDepth 100000 in
theorem wk_Md_goOn : wordsB P_Md_goOn = true := by decide +kernel
set_option maxRecDepth 100000 in
theorem ck_Md_goOn : codeB P_Md_goOn = true := by decide +kernel
set_option maxRecDepth 100000 in
theorem wk_Md_isSign : wordsB P_Md_isSign = true := by decide +kernel
set_option maxRecDepth 100000 in
theorem ck_Md_isSign : codeB P_Md_isSign = true := by decide +kernel
set_option maxRecDepth 100000 in
theorem wk_Md_packed : wordsB P_Md_packed = true := by decide +kernel
set_option maxRecDepth 100000 in
theorem ck_Md_packed : codeB P_Md_packed = true := by decide +kernel
set_option maxRecDepth 100000 in
theorem wk_Md_isShort : wordsB P_Md_isShort = true := by decide +kernel
set_option maxRecDepth 100000 in
theorem ck_Md_isShort : codeB P_Md_isShort = true := by decide +kernel
set_option maxRecDepth 100000 in
theorem wk_Md_isSound : wordsB P_Md_isSound = true := by decide +kernel
set_option maxRecDepth 100000 in
theorem ck_Md_isSound : codeB P_Md_isSound = true := by decide +kernel
set_option maxRecDepth 100000 in
theorem wk_Md_readName : wordsB P_Md_readName = true := by decide +kernel
set_option maxRecDepth 100000 in
theorem ck_Md_readName : codeB P_Md_readName = true := by decide +kernel
