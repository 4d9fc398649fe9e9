/-! the program is what the Statement has: every row decodes so, every word stands in the tables -/
def inB (i : Nat) (w : Cond) : Bool := decide (lw_tbl[i]? = some w) && goodWord w
theorem inB_ok {i : Nat} {w : Cond} (h : inB i w = true) : w ∈ gt := by
  simp only [inB, Bool.and_eq_true, decide_eq_true_eq] at h
  exact gt_in i h.1 h.2
def wordsB (M : PM) : Bool := decide ((m_y M).cls = cN (m_o M)) && plainName (m_y M).cls && inB (m_pl M).1 (.code (m_y M) (m_b M) (m_L M) (m_ret M)) && inB (m_pl M).2.1 (.initialized (m_y M).cls) && (match m_kd M with
    | 0 => inB (m_pl M).2.2.1 (.static (m_y M))
    | 1 => inB (m_pl M).2.2.1 (.instanceMethod (m_y M)) && inB (m_pl M).2.2.2 (.selects (m_y M).cls (m_y M) (m_y M)) && (match cls[m_o M]? with
      | some q => q.1 == (m_y M).cls
      | none => false)
    | 2 => inB (m_pl M).2.2.1 (.instanceMethod (m_y M)) && (m_y M).name == "<init>" && m_ret M == none
    | _ => false) && decide ((m_y M).cls ≠ "java/lang/invoke/MethodHandle") && decide ((m_y M).cls ≠ "java/lang/invoke/VarHandle") && decide ((parseMethodDescriptor (m_y M).desc).map (fun d => d.parameters.length) = some (m_np M)) && decide (m_L M ≤ 80)
theorem wordsB_ok {M : PM} (h : wordsB M = true) : wordsOK M := by
  simp only [wordsB, Bool.and_eq_true, decide_eq_true_eq] at h
  obtain ⟨⟨⟨⟨⟨⟨⟨⟨h1, h2⟩, h3⟩, h4⟩, h5⟩, h6⟩, h7⟩, h8⟩, h9⟩ := h
  refine ⟨h1, h2, inB_ok h3, inB_ok h4, fun k => ?_, fun k => ?_, fun k => ?_, h6, h7, h8, h9⟩
  · rw [k] at h5
    exact inB_ok h5
  · rw [k] at h5
    simp only [Bool.and_eq_true] at h5
    refine ⟨inB_ok h5.1.1, inB_ok h5.1.2, ?_⟩
    have h := h5.2
    split at h
    next q hq => exact ⟨q.2.1, q.2.2, by rw [hq, ← beq_iff_eq.mp h]⟩
    · cases h
  · rw [k] at h5
    simp only [Bool.and_eq_true, beq_iff_eq] at h5
    exact ⟨inB_ok h5.1.1, h5.1.2, h5.2⟩
def codeB (M : PM) : Bool := (m_code M).zipIdx.all (fun q => chkI mOf mlT mlN M q.2 q.1)
theorem codeB_ok {M : PM} (h : codeB M = true) : codeOK mOf mlT mlN M := fun pc i hi => List.all_eq_true.mp h (i, pc) (List.mem_zipIdx_iff_getElem?.mpr hi)
set_option maxRecDepth 100000 in
theorem wk_Bo_init : wordsB P_Bo_init = true := by decide +kernel
set_option maxRecDepth 100000 in
theorem ck_Bo_init : codeB P_Bo_init = true := by decide +kernel
set_option maxRecDepth 100000 in
theorem wk_Bo_build : wordsB P_Bo_build = true := by decide +kernel
set_option maxRecDepth 100000 in
theorem ck_Bo_build : codeB P_Bo_build = true := by decide +kernel
set_option maxRecDepth 100000 in
theorem wk_Bo_clear : wordsB P_Bo_clear = true := by decide +kernel
set_option maxRecDepth 100000 in
theorem ck_Bo_clear : codeB P_Bo_clear = true := by decide +kernel
set_option maxRecDepth 100000 in
theorem wk_Bo_put : wordsB P_Bo_put = true := by decide +kernel
set_option maxRecDepth 100000 in
theorem ck_Bo_put : codeB P_Bo_put = true := by decide +kernel
set_option maxRecDepth 100000 in
theorem wk_Bo_has : wordsB P_Bo_has = true := by decide +kernel
set_option maxRecDepth 100000 in
theorem ck_Bo_has : codeB P_Bo_has = true := by decide +kernel
set_option maxRecDepth 100000 in
theorem wk_Bo_isEmpty : wordsB P_Bo_isEmpty = true := by decide +kernel
set_option maxRecDepth 100000 in
theorem ck_Bo_isEmpty : codeB P_Bo_isEmpty = true := by decide +kernel
set_option maxRecDepth 100000 in
theorem wk_Bo_lengthen : wordsB P_Bo_lengthen = true := by decide +kernel
set_option maxRecDepth 100000 in
theorem ck_Bo_lengthen : codeB P_Bo_lengthen = true := by decide +kernel
set_option maxRecDepth 100000 in
theorem wk_Bo_putAhead : wordsB P_Bo_putAhead = true := by decide +kernel
set_option maxRecDepth 100000 in
theorem ck_Bo_putAhead : codeB P_Bo_putAhead = true := by decide +kernel
set_option maxRecDepth 100000 in
theorem wk_Bo_keep : wordsB P_Bo_keep = true := by decide +kernel
set_option maxRecDepth 100000 in
theorem ck_Bo_keep : codeB P_Bo_keep = true := by decide +kernel
set_option maxRecDepth 100000 in
theorem wk_Bo_sort : wordsB P_Bo_sort = true := by decide +kernel
set_option maxRecDepth 100000 in
theorem ck_Bo_sort : codeB P_Bo_sort = true := by decide +kernel
set_option maxRecDepth 100000 in
theorem wk_Bo_findStarts : wordsB P_Bo_findStarts = true := by decide +kernel
set_option maxRecDepth 100000 in
theorem ck_Bo_findStarts : codeB P_Bo_findStarts = true := by decide +kernel
set_option maxRecDepth 100000 in
theorem wk_Bo_sizeOf : wordsB P_Bo_sizeOf = true := by decide +kernel
set_option maxRecDepth 100000 in
theorem ck_Bo_sizeOf : codeB P_Bo_sizeOf = true := by decide +kernel
set_option maxRecDepth 100000 in
theorem wk_Bo_indexOf : wordsB P_Bo_indexOf = true := by decide +kernel
set_option maxRecDepth 100000 in
theorem ck_Bo_indexOf : codeB P_Bo_indexOf = true := by decide +kernel
set_option maxRecDepth 100000 in
theorem wk_Bo_codeAt : wordsB P_Bo_codeAt = true := by decide +kernel
set_option maxRecDepth 100000 in
theorem ck_Bo_codeAt : codeB P_Bo_codeAt = true := by decide +kernel
set_option maxRecDepth 100000 in
theorem wk_Ce_init : wordsB P_Ce_init = true := by decide +kernel
set_option maxRecDepth 100000 in
theorem ck_Ce_init : codeB P_Ce_init = true := by decide +kernel
set_option maxRecDepth 100000 in
theorem wk_Ce_build : wordsB P_Ce_build = true := by decide +kernel
set_option maxRecDepth 100000 in
theorem ck_Ce_build : codeB P_Ce_build = true := by decide +kernel
set_option maxRecDepth 100000 in
theorem wk_Ce_keyBehind : wordsB P_Ce_keyBehind = true := by decide +kernel
set_option maxRecDepth 100000 in
theorem ck_Ce_keyBehind : codeB P_Ce_keyBehind = true := by decide +kernel
set_option maxRecDepth 100000 in
theorem wk_Ce_stateOf : wordsB P_Ce_stateOf = true := by decide +kernel
set_option maxRecDepth 100000 in
theorem ck_Ce_stateOf : codeB P_Ce_stateOf = true := by decide +kernel
set_option maxRecDepth 100000 in
theorem wk_Ce_growStates : wordsB P_Ce_growStates = true := by decide +kernel
set_option maxRecDepth 100000 in
theorem ck_Ce_growStates : codeB P_Ce_growStates = true := by decide +kernel
set_option maxRecDepth 100000 in
theorem wk_Ce_growSlots : wordsB P_Ce_growSlots = true := by decide +kernel
set_option maxRecDepth 100000 in
theorem ck_Ce_growSlots : codeB P_Ce_growSlots = true := by decide +kernel
set_option maxRecDepth 100000 in
theorem wk_Ce_addEdge : wordsB P_Ce_addEdge = true := by decide +kernel
set_option maxRecDepth 100000 in
theorem ck_Ce_addEdge : codeB P_Ce_addEdge = true := by decide +kernel
set_option maxRecDepth 100000 in
theorem wk_Ce_countFrom : wordsB P_Ce_countFrom = true := by decide +kernel
set_option maxRecDepth 100000 in
theorem ck_Ce_countFrom : codeB P_Ce_countFrom = true := by decide +kernel
set_option maxRecDepth 100000 in
theorem wk_Ce_amount : wordsB P_Ce_amount = true := by decide +kernel
set_option maxRecDepth 100000 in
theorem ck_Ce_amount : codeB P_Ce_amount = true := by decide +kernel
set_option maxRecDepth 100000 in
theorem wk_Ce_bringTo : wordsB P_Ce_bringTo = true := by decide +kernel
set_option maxRecDepth 100000 in
theorem ck_Ce_bringTo : codeB P_Ce_bringTo = true := by decide +kernel
set_option maxRecDepth 100000 in
theorem wk_Ce_rankOf : wordsB P_Ce_rankOf = true := by decide +kernel
set_option maxRecDepth 100000 in
theorem ck_Ce_rankOf : codeB P_Ce_rankOf = true := by decide +kernel
set_option maxRecDepth 100000 in
theorem wk_Cu_init : wordsB P_Cu_init = true := by decide +kernel
set_option maxRecDepth 100000 in
theorem ck_Cu_init : codeB P_Cu_init = true := by decide +kernel
set_option maxRecDepth 100000 in
theorem wk_Cu_fewest : wordsB P_Cu_fewest = true := by decide +kernel
set_option maxRecDepth 100000 in
theorem ck_Cu_fewest : codeB P_Cu_fewest = true := by decide +kernel
set_option maxRecDepth 100000 in
theorem wk_Cu_findChoosable : wordsB P_Cu_findChoosable = true := by decide +kernel
set_option maxRecDepth 100000 in
theorem ck_Cu_findChoosable : codeB P_Cu_findChoosable = true := by decide +kernel
set_option maxRecDepth 100000 in
theorem wk_Cu_searchOfSize : wordsB P_Cu_searchOfSize = true := by decide +kernel
set_option maxRecDepth 100000 in
theorem ck_Cu_searchOfSize : codeB P_Cu_searchOfSize = true := by decide +kernel
set_option maxRecDepth 100000 in
theorem wk_Cu_chosenMask : wordsB P_Cu_chosenMask = true := by decide +kernel
set_option maxRecDepth 100000 in
theorem ck_Cu_chosenMask : codeB P_Cu_chosenMask = true := by decide +kernel
set_option maxRecDepth 100000 in
theorem wk_Cu_chooseNext : wordsB P_Cu_chooseNext = true := by decide +kernel
set_option maxRecDepth 100000 in
theorem ck_Cu_chooseNext : codeB P_Cu_chooseNext = true := by decide +kernel
set_option maxRecDepth 100000 in
theorem wk_Cu_isRefuted : wordsB P_Cu_isRefuted = true := by decide +kernel
set_option maxRecDepth 100000 in
theorem ck_Cu_isRefuted : codeB P_Cu_isRefuted = true := by decide +kernel
set_option maxRecDepth 100000 in
theorem wk_Cu_heals : wordsB P_Cu_heals = true := by decide +kernel
set_option maxRecDepth 100000 in
theorem ck_Cu_heals : codeB P_Cu_heals = true := by decide +kernel
set_option maxRecDepth 100000 in
theorem wk_Gr_init : wordsB P_Gr_init = true := by decide +kernel
set_option maxRecDepth 100000 in
theorem ck_Gr_init : codeB P_Gr_init = true := by decide +kernel
set_option maxRecDepth 100000 in
theorem wk_Gr_has : wordsB P_Gr_has = true := by decide +kernel
set_option maxRecDepth 100000 in
theorem ck_Gr_has : codeB P_Gr_has = true := by decide +kernel
set_option maxRecDepth 100000 in
theorem wk_Gr_isIn : wordsB P_Gr_isIn = true := by decide +kernel
set_option maxRecDepth 100000 in
theorem ck_Gr_isIn : codeB P_Gr_isIn = true := by decide +kernel
set_option maxRecDepth 100000 in
theorem wk_Gr_takeTold : wordsB P_Gr_takeTold = true := by decide +kernel
set_option maxRecDepth 100000 in
theorem ck_Gr_takeTold : codeB P_Gr_takeTold = true := by decide +kernel
set_option maxRecDepth 100000 in
theorem wk_Gr_copyFrom : wordsB P_Gr_copyFrom = true := by decide +kernel
set_option maxRecDepth 100000 in
theorem ck_Gr_copyFrom : codeB P_Gr_copyFrom = true := by decide +kernel
set_option maxRecDepth 100000 in
theorem wk_Gr_act : wordsB P_Gr_act = true := by decide +kernel
set_option maxRecDepth 100000 in
theorem ck_Gr_act : codeB P_Gr_act = true := by decide +kernel
set_option maxRecDepth 100000 in
theorem wk_Gr_takeBackAct : wordsB P_Gr_takeBackAct = true := by decide +kernel
set_option maxRecDepth 100000 in
theorem ck_Gr_takeBackAct : codeB P_Gr_takeBackAct = true := by decide +kernel
set_option maxRecDepth 100000 in
theorem wk_Gr_change : wordsB P_Gr_change = true := by decide +kernel
set_option maxRecDepth 100000 in
theorem ck_Gr_change : codeB P_Gr_change = true := by decide +kernel
set_option maxRecDepth 100000 in
theorem wk_Gr_unmark : wordsB P_Gr_unmark = true := by decide +kernel
set_option maxRecDepth 100000 in
theorem ck_Gr_unmark : codeB P_Gr_unmark = true := by decide +kernel
set_option maxRecDepth 100000 in
theorem wk_Gr_unlikeLetters : wordsB P_Gr_unlikeLetters = true := by decide +kernel
set_option maxRecDepth 100000 in
theorem ck_Gr_unlikeLetters : codeB P_Gr_unlikeLetters = true := by decide +kernel
set_option maxRecDepth 100000 in
theorem wk_Gr_groupBegins : wordsB P_Gr_groupBegins = true := by decide +kernel
set_option maxRecDepth 100000 in
theorem ck_Gr_groupBegins : codeB P_Gr_groupBegins = true := by decide +kernel
set_option maxRecDepth 100000 in
theorem wk_Gr_noneBeginsAnother : wordsB P_Gr_noneBeginsAnother = true := by decide +kernel
set_option maxRecDepth 100000 in
theorem ck_Gr_noneBeginsAnother : codeB P_Gr_noneBeginsAnother = true := by decide +kernel
set_option maxRecDepth 100000 in
theorem wk_Gr_noneEndsAnother : wordsB P_Gr_noneEndsAnother = true := by decide +kernel
set_option maxRecDepth 100000 in
theorem ck_Gr_noneEndsAnother : codeB P_Gr_noneEndsAnother = true := by decide +kernel
set_option maxRecDepth 100000 in
theorem wk_Gr_overlap : wordsB P_Gr_overlap = true := by decide +kernel
set_option maxRecDepth 100000 in
theorem ck_Gr_overlap : codeB P_Gr_overlap = true := by decide +kernel
set_option maxRecDepth 100000 in
theorem wk_Gr_inByNumber : wordsB P_Gr_inByNumber = true := by decide +kernel
set_option maxRecDepth 100000 in
theorem ck_Gr_inByNumber : codeB P_Gr_inByNumber = true := by decide +kernel
set_option maxRecDepth 100000 in
theorem wk_Re_init : wordsB P_Re_init = true := by decide +kernel
set_option maxRecDepth 100000 in
theorem ck_Re_init : codeB P_Re_init = true := by decide +kernel
set_option maxRecDepth 100000 in
theorem wk_Re_isKind : wordsB P_Re_isKind = true := by decide +kernel
set_option maxRecDepth 100000 in
theorem ck_Re_isKind : codeB P_Re_isKind = true := by decide +kernel
set_option maxRecDepth 100000 in
theorem wk_Re_prefers : wordsB P_Re_prefers = true := by decide +kernel
set_option maxRecDepth 100000 in
theorem ck_Re_prefers : codeB P_Re_prefers = true := by decide +kernel
set_option maxRecDepth 100000 in
theorem wk_Re_choose : wordsB P_Re_choose = true := by decide +kernel
set_option maxRecDepth 100000 in
theorem ck_Re_choose : codeB P_Re_choose = true := by decide +kernel
set_option maxRecDepth 100000 in
theorem wk_Re_countTaken : wordsB P_Re_countTaken = true := by decide +kernel
set_option maxRecDepth 100000 in
theorem ck_Re_countTaken : codeB P_Re_countTaken = true := by decide +kernel
set_option maxRecDepth 100000 in
theorem wk_Re_takenAt : wordsB P_Re_takenAt = true := by decide +kernel
set_option maxRecDepth 100000 in
theorem ck_Re_takenAt : codeB P_Re_takenAt = true := by decide +kernel
set_option maxRecDepth 100000 in
theorem wk_Re_findFool : wordsB P_Re_findFool = true := by decide +kernel
set_option maxRecDepth 100000 in
theorem ck_Re_findFool : codeB P_Re_findFool = true := by decide +kernel
set_option maxRecDepth 100000 in
theorem wk_Re_startTrial : wordsB P_Re_startTrial = true := by decide +kernel
set_option maxRecDepth 100000 in
theorem ck_Re_startTrial : codeB P_Re_startTrial = true := by decide +kernel
set_option maxRecDepth 100000 in
theorem wk_Re_coverRest : wordsB P_Re_coverRest = true := by decide +kernel
set_option maxRecDepth 100000 in
theorem ck_Re_coverRest : codeB P_Re_coverRest = true := by decide +kernel
set_option maxRecDepth 100000 in
theorem wk_Re_coverWith : wordsB P_Re_coverWith = true := by decide +kernel
set_option maxRecDepth 100000 in
theorem ck_Re_coverWith : codeB P_Re_coverWith = true := by decide +kernel
set_option maxRecDepth 100000 in
theorem wk_Re_keepBetter : wordsB P_Re_keepBetter = true := by decide +kernel
set_option maxRecDepth 100000 in
theorem ck_Re_keepBetter : codeB P_Re_keepBetter = true := by decide +kernel
set_option maxRecDepth 100000 in
theorem wk_Re_trialIsEarlier : wordsB P_Re_trialIsEarlier = true := by decide +kernel
set_option maxRecDepth 100000 in
theorem ck_Re_trialIsEarlier : codeB P_Re_trialIsEarlier = true := by decide +kernel
set_option maxRecDepth 100000 in
theorem wk_Re_copyTo : wordsB P_Re_copyTo = true := by decide +kernel
set_option maxRecDepth 100000 in
theorem ck_Re_copyTo : codeB P_Re_copyTo = true := by decide +kernel
set_option maxRecDepth 100000 in
theorem wk_Sp_init : wordsB P_Sp_init = true := by decide +kernel
set_option maxRecDepth 100000 in
theorem ck_Sp_init : codeB P_Sp_init = true := by decide +kernel
set_option maxRecDepth 100000 in
theorem wk_Sp_ask : wordsB P_Sp_ask = true := by decide +kernel
set_option maxRecDepth 100000 in
theorem ck_Sp_ask : codeB P_Sp_ask = true := by decide +kernel
set_option maxRecDepth 100000 in
theorem wk_Sp_search : wordsB P_Sp_search = true := by decide +kernel
set_option maxRecDepth 100000 in
theorem ck_Sp_search : codeB P_Sp_search = true := by decide +kernel
set_option maxRecDepth 100000 in
theorem wk_Sp_shortestOf : wordsB P_Sp_shortestOf = true := by decide +kernel
set_option maxRecDepth 100000 in
theorem ck_Sp_shortestOf : codeB P_Sp_shortestOf = true := by decide +kernel
set_option maxRecDepth 100000 in
theorem wk_Sp_goOn : wordsB P_Sp_goOn = true := by decide +kernel
set_option maxRecDepth 100000 in
theorem ck_Sp_goOn : codeB P_Sp_goOn = true := by decide +kernel
set_option maxRecDepth 100000 in
theorem wk_Sp_countNew : wordsB P_Sp_countNew = true := by decide +kernel
set_option maxRecDepth 100000 in
theorem ck_Sp_countNew : codeB P_Sp_countNew = true := by decide +kernel
set_option maxRecDepth 100000 in
theorem wk_Sp_copyTo : wordsB P_Sp_copyTo = true := by decide +kernel
set_option maxRecDepth 100000 in
theorem ck_Sp_copyTo : codeB P_Sp_copyTo = true := by decide +kernel
set_option maxRecDepth 100000 in
theorem wk_Ta_init : wordsB P_Ta_init = true := by decide +kernel
set_option maxRecDepth 100000 in
theorem ck_Ta_init : codeB P_Ta_init = true := by decide +kernel
set_option maxRecDepth 100000 in
theorem wk_Ta_build : wordsB P_Ta_build = true := by decide +kernel
set_option maxRecDepth 100000 in
theorem ck_Ta_build : codeB P_Ta_build = true := by decide +kernel
set_option maxRecDepth 100000 in
theorem wk_Ta_addFirstRound : wordsB P_Ta_addFirstRound = true := by decide +kernel
set_option maxRecDepth 100000 in
theorem ck_Ta_addFirstRound : codeB P_Ta_addFirstRound = true := by decide +kernel
set_option maxRecDepth 100000 in
theorem wk_Ta_addNextRound : wordsB P_Ta_addNextRound = true := by decide +kernel
set_option maxRecDepth 100000 in
theorem ck_Ta_addNextRound : codeB P_Ta_addNextRound = true := by decide +kernel
set_option maxRecDepth 100000 in
theorem wk_Ta_add : wordsB P_Ta_add = true := by decide +kernel
set_option maxRecDepth 100000 in
theorem ck_Ta_add : codeB P_Ta_add = true := by decide +kernel
set_option maxRecDepth 100000 in
theorem wk_Ta_find : wordsB P_Ta_find = true := by decide +kernel
set_option maxRecDepth 100000 in
theorem ck_Ta_find : codeB P_Ta_find = true := by decide +kernel
set_option maxRecDepth 100000 in
theorem wk_Ta_sortAsInDictionary : wordsB P_Ta_sortAsInDictionary = true := by decide +kernel
set_option maxRecDepth 100000 in
theorem ck_Ta_sortAsInDictionary : codeB P_Ta_sortAsInDictionary = true := by decide +kernel
