/-! the program is what the Statement has, further -/
set_option maxRecDepth 100000 in
theorem wk_Md_isTold : wordsB P_Md_isTold = true := by decide +kernel
set_option maxRecDepth 100000 in
theorem ck_Md_isTold : codeB P_Md_isTold = true := by decide +kernel
set_option maxRecDepth 100000 in
theorem wk_Md_readGroup : wordsB P_Md_readGroup = true := by decide +kernel
set_option maxRecDepth 100000 in
theorem ck_Md_readGroup : codeB P_Md_readGroup = true := by decide +kernel
set_option maxRecDepth 100000 in
theorem wk_Md_mustBe : wordsB P_Md_mustBe = true := by decide +kernel
set_option maxRecDepth 100000 in
theorem ck_Md_mustBe : codeB P_Md_mustBe = true := by decide +kernel
set_option maxRecDepth 100000 in
theorem wk_Md_readLine : wordsB P_Md_readLine = true := by decide +kernel
set_option maxRecDepth 100000 in
theorem ck_Md_readLine : codeB P_Md_readLine = true := by decide +kernel
set_option maxRecDepth 100000 in
theorem wk_Md_table : wordsB P_Md_table = true := by decide +kernel
set_option maxRecDepth 100000 in
theorem ck_Md_table : codeB P_Md_table = true := by decide +kernel
set_option maxRecDepth 100000 in
theorem wk_Md_fault : wordsB P_Md_fault = true := by decide +kernel
set_option maxRecDepth 100000 in
theorem ck_Md_fault : codeB P_Md_fault = true := by decide +kernel
set_option maxRecDepth 100000 in
theorem wk_Md_another : wordsB P_Md_another = true := by decide +kernel
set_option maxRecDepth 100000 in
theorem ck_Md_another : codeB P_Md_another = true := by decide +kernel
set_option maxRecDepth 100000 in
theorem wk_Md_lettersThere : wordsB P_Md_lettersThere = true := by decide +kernel
set_option maxRecDepth 100000 in
theorem ck_Md_lettersThere : codeB P_Md_lettersThere = true := by decide +kernel
set_option maxRecDepth 100000 in
theorem wk_Md_unlike : wordsB P_Md_unlike = true := by decide +kernel
set_option maxRecDepth 100000 in
theorem ck_Md_unlike : codeB P_Md_unlike = true := by decide +kernel
set_option maxRecDepth 100000 in
theorem wk_Md_begins : wordsB P_Md_begins = true := by decide +kernel
set_option maxRecDepth 100000 in
theorem ck_Md_begins : codeB P_Md_begins = true := by decide +kernel
set_option maxRecDepth 100000 in
theorem wk_Md_ends : wordsB P_Md_ends = true := by decide +kernel
set_option maxRecDepth 100000 in
theorem ck_Md_ends : codeB P_Md_ends = true := by decide +kernel
set_option maxRecDepth 100000 in
theorem wk_Md_isFree : wordsB P_Md_isFree = true := by decide +kernel
set_option maxRecDepth 100000 in
theorem ck_Md_isFree : codeB P_Md_isFree = true := by decide +kernel
set_option maxRecDepth 100000 in
theorem wk_Md_group : wordsB P_Md_group = true := by decide +kernel
set_option maxRecDepth 100000 in
theorem ck_Md_group : codeB P_Md_group = true := by decide +kernel
set_option maxRecDepth 100000 in
theorem wk_Md_about : wordsB P_Md_about = true := by decide +kernel
set_option maxRecDepth 100000 in
theorem ck_Md_about : codeB P_Md_about = true := by decide +kernel
set_option maxRecDepth 100000 in
theorem wk_Md_meets : wordsB P_Md_meets = true := by decide +kernel
set_option maxRecDepth 100000 in
theorem ck_Md_meets : codeB P_Md_meets = true := by decide +kernel
set_option maxRecDepth 100000 in
theorem wk_Md_tailSize : wordsB P_Md_tailSize = true := by decide +kernel
set_option maxRecDepth 100000 in
theorem ck_Md_tailSize : codeB P_Md_tailSize = true := by decide +kernel
set_option maxRecDepth 100000 in
theorem wk_Md_tailLetter : wordsB P_Md_tailLetter = true := by decide +kernel
set_option maxRecDepth 100000 in
theorem ck_Md_tailLetter : codeB P_Md_tailLetter = true := by decide +kernel
set_option maxRecDepth 100000 in
theorem wk_Md_against : wordsB P_Md_against = true := by decide +kernel
set_option maxRecDepth 100000 in
theorem ck_Md_against : codeB P_Md_against = true := by decide +kernel
set_option maxRecDepth 100000 in
theorem wk_Md_layEnds : wordsB P_Md_layEnds = true := by decide +kernel
set_option maxRecDepth 100000 in
theorem ck_Md_layEnds : codeB P_Md_layEnds = true := by decide +kernel
set_option maxRecDepth 100000 in
theorem wk_Md_leftOf : wordsB P_Md_leftOf = true := by decide +kernel
set_option maxRecDepth 100000 in
theorem ck_Md_leftOf : codeB P_Md_leftOf = true := by decide +kernel
set_option maxRecDepth 100000 in
theorem wk_Md_layTails : wordsB P_Md_layTails = true := by decide +kernel
set_option maxRecDepth 100000 in
theorem ck_Md_layTails : codeB P_Md_layTails = true := by decide +kernel
set_option maxRecDepth 100000 in
theorem wk_Md_goesOn : wordsB P_Md_goesOn = true := by decide +kernel
set_option maxRecDepth 100000 in
theorem ck_Md_goesOn : codeB P_Md_goesOn = true := by decide +kernel
set_option maxRecDepth 100000 in
theorem wk_Md_parts : wordsB P_Md_parts = true := by decide +kernel
set_option maxRecDepth 100000 in
theorem ck_Md_parts : codeB P_Md_parts = true := by decide +kernel
set_option maxRecDepth 100000 in
theorem wk_Md_tails : wordsB P_Md_tails = true := by decide +kernel
set_option maxRecDepth 100000 in
theorem ck_Md_tails : codeB P_Md_tails = true := by decide +kernel
set_option maxRecDepth 100000 in
theorem wk_Md_tail : wordsB P_Md_tail = true := by decide +kernel
set_option maxRecDepth 100000 in
theorem ck_Md_tail : codeB P_Md_tail = true := by decide +kernel
set_option maxRecDepth 100000 in
theorem wk_Md_doubt : wordsB P_Md_doubt = true := by decide +kernel
set_option maxRecDepth 100000 in
theorem ck_Md_doubt : codeB P_Md_doubt = true := by decide +kernel
set_option maxRecDepth 100000 in
theorem wk_Md_tries : wordsB P_Md_tries = true := by decide +kernel
set_option maxRecDepth 100000 in
theorem ck_Md_tries : codeB P_Md_tries = true := by decide +kernel
set_option maxRecDepth 100000 in
theorem wk_Md_isBefore : wordsB P_Md_isBefore = true := by decide +kernel
set_option maxRecDepth 100000 in
theorem ck_Md_isBefore : codeB P_Md_isBefore = true := by decide +kernel
set_option maxRecDepth 100000 in
theorem wk_Md_takes : wordsB P_Md_takes = true := by decide +kernel
set_option maxRecDepth 100000 in
theorem ck_Md_takes : codeB P_Md_takes = true := by decide +kernel
set_option maxRecDepth 100000 in
theorem wk_Md_layBest : wordsB P_Md_layBest = true := by decide +kernel
set_option maxRecDepth 100000 in
theorem ck_Md_layBest : codeB P_Md_layBest = true := by decide +kernel
set_option maxRecDepth 100000 in
theorem wk_Md_takesWord : wordsB P_Md_takesWord = true := by decide +kernel
set_option maxRecDepth 100000 in
theorem ck_Md_takesWord : codeB P_Md_takesWord = true := by decide +kernel
set_option maxRecDepth 100000 in
theorem wk_Md_witness : wordsB P_Md_witness = true := by decide +kernel
set_option maxRecDepth 100000 in
theorem ck_Md_witness : codeB P_Md_witness = true := by decide +kernel
set_option maxRecDepth 100000 in
theorem wk_Md_look : wordsB P_Md_look = true := by decide +kernel
set_option maxRecDepth 100000 in
theorem ck_Md_look : codeB P_Md_look = true := by decide +kernel
set_option maxRecDepth 100000 in
theorem wk_Md_common : wordsB P_Md_common = true := by decide +kernel
set_option maxRecDepth 100000 in
theorem ck_Md_common : codeB P_Md_common = true := by decide +kernel
set_option maxRecDepth 100000 in
theorem wk_Md_share : wordsB P_Md_share = true := by decide +kernel
set_option maxRecDepth 100000 in
theorem ck_Md_share : codeB P_Md_share = true := by decide +kernel
set_option maxRecDepth 100000 in
theorem wk_Md_stands : wordsB P_Md_stands = true := by decide +kernel
set_option maxRecDepth 100000 in
theorem ck_Md_stands : codeB P_Md_stands = true := by decide +kernel
set_option maxRecDepth 100000 in
theorem wk_Md_layWays : wordsB P_Md_layWays = true := by decide +kernel
set_option maxRecDepth 100000 in
theorem ck_Md_layWays : codeB P_Md_layWays = true := by decide +kernel
set_option maxRecDepth 100000 in
theorem wk_Md_word : wordsB P_Md_word = true := by decide +kernel
set_option maxRecDepth 100000 in
theorem ck_Md_word : codeB P_Md_word = true := by decide +kernel
set_option maxRecDepth 100000 in
theorem wk_Md_letter : wordsB P_Md_letter = true := by decide +kernel
set_option maxRecDepth 100000 in
theorem ck_Md_letter : codeB P_Md_letter = true := by decide +kernel
set_option maxRecDepth 100000 in
theorem wk_Md_readings : wordsB P_Md_readings = true := by decide +kernel
set_option maxRecDepth 100000 in
theorem ck_Md_readings : codeB P_Md_readings = true := by decide +kernel
set_option maxRecDepth 100000 in
theorem wk_Md_goesBy : wordsB P_Md_goesBy = true := by decide +kernel
set_option maxRecDepth 100000 in
theorem ck_Md_goesBy : codeB P_Md_goesBy = true := by decide +kernel
set_option maxRecDepth 100000 in
theorem wk_Md_reading : wordsB P_Md_reading = true := by decide +kernel
set_option maxRecDepth 100000 in
theorem ck_Md_reading : codeB P_Md_reading = true := by decide +kernel
set_option maxRecDepth 100000 in
theorem wk_Md_sounds : wordsB P_Md_sounds = true := by decide +kernel
set_option maxRecDepth 100000 in
theorem ck_Md_sounds : codeB P_Md_sounds = true := by decide +kernel
set_option maxRecDepth 100000 in
theorem wk_Md_takenAt : wordsB P_Md_takenAt = true := by decide +kernel
set_option maxRecDepth 100000 in
theorem ck_Md_takenAt : codeB P_Md_takenAt = true := by decide +kernel
set_option maxRecDepth 100000 in
theorem wk_Md_reads : wordsB P_Md_reads = true := by decide +kernel
set_option maxRecDepth 100000 in
theorem ck_Md_reads : codeB P_Md_reads = true := by decide +kernel
set_option maxRecDepth 100000 in
theorem wk_Md_took : wordsB P_Md_took = true := by decide +kernel
set_option maxRecDepth 100000 in
theorem ck_Md_took : codeB P_Md_took = true := by decide +kernel
set_option maxRecDepth 100000 in
theorem wk_Md_layCover : wordsB P_Md_layCover = true := by decide +kernel
set_option maxRecDepth 100000 in
theorem ck_Md_layCover : codeB P_Md_layCover = true := by decide +kernel
set_option maxRecDepth 100000 in
theorem wk_Md_coversBy : wordsB P_Md_coversBy = true := by decide +kernel
set_option maxRecDepth 100000 in
theorem ck_Md_coversBy : codeB P_Md_coversBy = true := by decide +kernel
set_option maxRecDepth 100000 in
theorem wk_Md_takesLeast : wordsB P_Md_takesLeast = true := by decide +kernel
set_option maxRecDepth 100000 in
theorem ck_Md_takesLeast : codeB P_Md_takesLeast = true := by decide +kernel
set_option maxRecDepth 100000 in
theorem wk_Md_foolsBy : wordsB P_Md_foolsBy = true := by decide +kernel
set_option maxRecDepth 100000 in
theorem ck_Md_foolsBy : codeB P_Md_foolsBy = true := by decide +kernel
set_option maxRecDepth 100000 in
theorem wk_Md_fool : wordsB P_Md_fool = true := by decide +kernel
set_option maxRecDepth 100000 in
theorem ck_Md_fool : codeB P_Md_fool = true := by decide +kernel
set_option maxRecDepth 100000 in
theorem wk_Md_goes : wordsB P_Md_goes = true := by decide +kernel
set_option maxRecDepth 100000 in
theorem ck_Md_goes : codeB P_Md_goes = true := by decide +kernel
set_option maxRecDepth 100000 in
theorem wk_Md_isSpelling : wordsB P_Md_isSpelling = true := by decide +kernel
set_option maxRecDepth 100000 in
theorem ck_Md_isSpelling : codeB P_Md_isSpelling = true := by decide +kernel
set_option maxRecDepth 100000 in
theorem wk_Md_ofSound : wordsB P_Md_ofSound = true := by decide +kernel
set_option maxRecDepth 100000 in
theorem ck_Md_ofSound : codeB P_Md_ofSound = true := by decide +kernel
set_option maxRecDepth 100000 in
theorem wk_Md_spell : wordsB P_Md_spell = true := by decide +kernel
set_option maxRecDepth 100000 in
theorem ck_Md_spell : codeB P_Md_spell = true := by decide +kernel
set_option maxRecDepth 100000 in
theorem wk_Md_drawn : wordsB P_Md_drawn = true := by decide +kernel
set_option maxRecDepth 100000 in
theorem ck_Md_drawn : codeB P_Md_drawn = true := by decide +kernel
set_option maxRecDepth 100000 in
theorem wk_Md_layNodes : wordsB P_Md_layNodes = true := by decide +kernel
set_option maxRecDepth 100000 in
theorem ck_Md_layNodes : codeB P_Md_layNodes = true := by decide +kernel
set_option maxRecDepth 100000 in
theorem wk_Md_often : wordsB P_Md_often = true := by decide +kernel
set_option maxRecDepth 100000 in
theorem ck_Md_often : codeB P_Md_often = true := by decide +kernel
set_option maxRecDepth 100000 in
theorem wk_Md_oftenAt : wordsB P_Md_oftenAt = true := by decide +kernel
set_option maxRecDepth 100000 in
theorem ck_Md_oftenAt : codeB P_Md_oftenAt = true := by decide +kernel
set_option maxRecDepth 100000 in
theorem wk_Md_adds : wordsB P_Md_adds = true := by decide +kernel
set_option maxRecDepth 100000 in
theorem ck_Md_adds : codeB P_Md_adds = true := by decide +kernel
set_option maxRecDepth 100000 in
theorem wk_Md_steps : wordsB P_Md_steps = true := by decide +kernel
set_option maxRecDepth 100000 in
theorem ck_Md_steps : codeB P_Md_steps = true := by decide +kernel
set_option maxRecDepth 100000 in
theorem wk_Md_empties : wordsB P_Md_empties = true := by decide +kernel
set_option maxRecDepth 100000 in
theorem ck_Md_empties : codeB P_Md_empties = true := by decide +kernel
set_option maxRecDepth 100000 in
theorem wk_Md_isThere : wordsB P_Md_isThere = true := by decide +kernel
set_option maxRecDepth 100000 in
theorem ck_Md_isThere : codeB P_Md_isThere = true := by decide +kernel
