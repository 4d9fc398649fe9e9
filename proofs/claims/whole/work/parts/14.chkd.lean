/-! the program is what the Statement has, further -/
set_option maxRecDepth 100000 in
theorem wk_Md_counts : wordsB P_Md_counts = true := by decide +kernel
set_option maxRecDepth 100000 in
theorem ck_Md_counts : codeB P_Md_counts = true := by decide +kernel
set_option maxRecDepth 100000 in
theorem wk_Md_countFrom : wordsB P_Md_countFrom = true := by decide +kernel
set_option maxRecDepth 100000 in
theorem ck_Md_countFrom : codeB P_Md_countFrom = true := by decide +kernel
set_option maxRecDepth 100000 in
theorem wk_Md_startsAnew : wordsB P_Md_startsAnew = true := by decide +kernel
set_option maxRecDepth 100000 in
theorem ck_Md_startsAnew : codeB P_Md_startsAnew = true := by decide +kernel
set_option maxRecDepth 100000 in
theorem wk_Md_words : wordsB P_Md_words = true := by decide +kernel
set_option maxRecDepth 100000 in
theorem ck_Md_words : codeB P_Md_words = true := by decide +kernel
set_option maxRecDepth 100000 in
theorem wk_Md_behindBy : wordsB P_Md_behindBy = true := by decide +kernel
set_option maxRecDepth 100000 in
theorem ck_Md_behindBy : codeB P_Md_behindBy = true := by decide +kernel
set_option maxRecDepth 100000 in
theorem wk_Md_goesThere : wordsB P_Md_goesThere = true := by decide +kernel
set_option maxRecDepth 100000 in
theorem ck_Md_goesThere : codeB P_Md_goesThere = true := by decide +kernel
set_option maxRecDepth 100000 in
theorem wk_Md_nth : wordsB P_Md_nth = true := by decide +kernel
set_option maxRecDepth 100000 in
theorem ck_Md_nth : codeB P_Md_nth = true := by decide +kernel
set_option maxRecDepth 100000 in
theorem wk_Md_place : wordsB P_Md_place = true := by decide +kernel
set_option maxRecDepth 100000 in
theorem ck_Md_place : codeB P_Md_place = true := by decide +kernel
set_option maxRecDepth 100000 in
theorem wk_Md_unpack : wordsB P_Md_unpack = true := by decide +kernel
set_option maxRecDepth 100000 in
theorem ck_Md_unpack : codeB P_Md_unpack = true := by decide +kernel
set_option maxRecDepth 100000 in
theorem wk_Md_meetsEnd : wordsB P_Md_meetsEnd = true := by decide +kernel
set_option maxRecDepth 100000 in
theorem ck_Md_meetsEnd : codeB P_Md_meetsEnd = true := by decide +kernel
set_option maxRecDepth 100000 in
theorem wk_Md_layEndsOf : wordsB P_Md_layEndsOf = true := by decide +kernel
set_option maxRecDepth 100000 in
theorem ck_Md_layEndsOf : codeB P_Md_layEndsOf = true := by decide +kernel
set_option maxRecDepth 100000 in
theorem wk_Md_isWithin : wordsB P_Md_isWithin = true := by decide +kernel
set_option maxRecDepth 100000 in
theorem ck_Md_isWithin : codeB P_Md_isWithin = true := by decide +kernel
set_option maxRecDepth 100000 in
theorem wk_Md_layBorders : wordsB P_Md_layBorders = true := by decide +kernel
set_option maxRecDepth 100000 in
theorem ck_Md_layBorders : codeB P_Md_layBorders = true := by decide +kernel
set_option maxRecDepth 100000 in
theorem wk_Md_puts : wordsB P_Md_puts = true := by decide +kernel
set_option maxRecDepth 100000 in
theorem ck_Md_puts : codeB P_Md_puts = true := by decide +kernel
set_option maxRecDepth 100000 in
theorem wk_Md_borders : wordsB P_Md_borders = true := by decide +kernel
set_option maxRecDepth 100000 in
theorem ck_Md_borders : codeB P_Md_borders = true := by decide +kernel
set_option maxRecDepth 100000 in
theorem wk_Md_border : wordsB P_Md_border = true := by decide +kernel
set_option maxRecDepth 100000 in
theorem ck_Md_border : codeB P_Md_border = true := by decide +kernel
set_option maxRecDepth 100000 in
theorem wk_Md_comesIn : wordsB P_Md_comesIn = true := by decide +kernel
set_option maxRecDepth 100000 in
theorem ck_Md_comesIn : codeB P_Md_comesIn = true := by decide +kernel
set_option maxRecDepth 100000 in
theorem wk_Md_partsNow : wordsB P_Md_partsNow = true := by decide +kernel
set_option maxRecDepth 100000 in
theorem ck_Md_partsNow : codeB P_Md_partsNow = true := by decide +kernel
set_option maxRecDepth 100000 in
theorem wk_Md_marks : wordsB P_Md_marks = true := by decide +kernel
set_option maxRecDepth 100000 in
theorem ck_Md_marks : codeB P_Md_marks = true := by decide +kernel
set_option maxRecDepth 100000 in
theorem wk_Md_unmarks : wordsB P_Md_unmarks = true := by decide +kernel
set_option maxRecDepth 100000 in
theorem ck_Md_unmarks : codeB P_Md_unmarks = true := by decide +kernel
set_option maxRecDepth 100000 in
theorem wk_Md_does : wordsB P_Md_does = true := by decide +kernel
set_option maxRecDepth 100000 in
theorem ck_Md_does : codeB P_Md_does = true := by decide +kernel
set_option maxRecDepth 100000 in
theorem wk_Md_isCure : wordsB P_Md_isCure = true := by decide +kernel
set_option maxRecDepth 100000 in
theorem ck_Md_isCure : codeB P_Md_isCure = true := by decide +kernel
set_option maxRecDepth 100000 in
theorem wk_Md_cureOf : wordsB P_Md_cureOf = true := by decide +kernel
set_option maxRecDepth 100000 in
theorem ck_Md_cureOf : codeB P_Md_cureOf = true := by decide +kernel
set_option maxRecDepth 100000 in
theorem wk_Md_cure : wordsB P_Md_cure = true := by decide +kernel
set_option maxRecDepth 100000 in
theorem ck_Md_cure : codeB P_Md_cure = true := by decide +kernel
set_option maxRecDepth 100000 in
theorem wk_Md_keep : wordsB P_Md_keep = true := by decide +kernel
set_option maxRecDepth 100000 in
theorem ck_Md_keep : codeB P_Md_keep = true := by decide +kernel
set_option maxRecDepth 100000 in
theorem wk_Md_mend : wordsB P_Md_mend = true := by decide +kernel
set_option maxRecDepth 100000 in
theorem ck_Md_mend : codeB P_Md_mend = true := by decide +kernel
set_option maxRecDepth 100000 in
theorem wk_Md_out : wordsB P_Md_out = true := by decide +kernel
set_option maxRecDepth 100000 in
theorem ck_Md_out : codeB P_Md_out = true := by decide +kernel
set_option maxRecDepth 100000 in
theorem wk_Md_undo : wordsB P_Md_undo = true := by decide +kernel
set_option maxRecDepth 100000 in
theorem ck_Md_undo : codeB P_Md_undo = true := by decide +kernel
set_option maxRecDepth 100000 in
theorem wk_Ji_bitCount : wordsB P_Ji_bitCount = true := by decide +kernel
set_option maxRecDepth 100000 in
theorem ck_Ji_bitCount : codeB P_Ji_bitCount = true := by decide +kernel
set_option maxRecDepth 100000 in
theorem wk_Ja_fillI : wordsB P_Ja_fillI = true := by decide +kernel
set_option maxRecDepth 100000 in
theorem ck_Ja_fillI : codeB P_Ja_fillI = true := by decide +kernel
set_option maxRecDepth 100000 in
theorem wk_Ja_copyB : wordsB P_Ja_copyB = true := by decide +kernel
set_option maxRecDepth 100000 in
theorem ck_Ja_copyB : codeB P_Ja_copyB = true := by decide +kernel
set_option maxRecDepth 100000 in
theorem wk_Ja_copyI : wordsB P_Ja_copyI = true := by decide +kernel
set_option maxRecDepth 100000 in
theorem ck_Ja_copyI : codeB P_Ja_copyI = true := by decide +kernel
