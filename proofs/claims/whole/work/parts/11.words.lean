/-! The words by their places in the tables: by wip/gen/names.py -/
theorem k_PP_init : Cond.code y_PP_init b_PP_init 1 none ∈ Gw := gq (tg_1 (List.mem_of_getElem? (i := 24) (by rfl))) rfl
theorem k_PP_open : Cond.code y_PP_open b_PP_open 2 (some .int) ∈ Gw := gq (tg_3 (List.mem_of_getElem? (i := 5) (by rfl))) rfl
theorem k_PP_kind : Cond.code y_PP_kind b_PP_kind 1 (some .int) ∈ Gw := gq (tg_2 (List.mem_of_getElem? (i := 135) (by rfl))) rfl
theorem k_PP_clue : Cond.code y_PP_clue b_PP_clue 4 (some .int) ∈ Gw := gq (tg_3 (List.mem_of_getElem? (i := 79) (by rfl))) rfl
theorem k_PP_group : Cond.code y_PP_group b_PP_group 5 (some .int) ∈ Gw := gq (tg_3 (List.mem_of_getElem? (i := 121) (by rfl))) rfl
theorem k_PP_rule : Cond.code y_PP_rule b_PP_rule 4 (some .int) ∈ Gw := gq (tg_3 (List.mem_of_getElem? (i := 152) (by rfl))) rfl
theorem k_PP_give : Cond.code y_PP_give b_PP_give 4 (some .int) ∈ Gw := gq (tg_3 (List.mem_of_getElem? (i := 163) (by rfl))) rfl
theorem k_PP_given : Cond.code y_PP_given b_PP_given 2 (some .int) ∈ Gw := gq (tg_3 (List.mem_of_getElem? (i := 181) (by rfl))) rfl
theorem k_PP_fillings : Cond.code y_PP_fillings b_PP_fillings 1 (some .int) ∈ Gw := gq (tg_2 (List.mem_of_getElem? (i := 139) (by rfl))) rfl
theorem k_PP_value : Cond.code y_PP_value b_PP_value 2 (some .int) ∈ Gw := gq (tg_3 (List.mem_of_getElem? (i := 189) (by rfl))) rfl
theorem k_PP_fresh : Cond.code y_PP_fresh b_PP_fresh 1 (some .int) ∈ Gw := gq (tg_2 (List.mem_of_getElem? (i := 176) (by rfl))) rfl
theorem k_PP_reason : Cond.code y_PP_reason b_PP_reason 2 (some .int) ∈ Gw := gq (tg_3 (List.mem_of_getElem? (i := 215) (by rfl))) rfl
theorem k_PP_candidates : Cond.code y_PP_candidates b_PP_candidates 2 (some .int) ∈ Gw := gq (tg_3 (List.mem_of_getElem? (i := 222) (by rfl))) rfl
theorem k_PP_step : Cond.code y_PP_step b_PP_step 5 (some .int) ∈ Gw := gq (tg_2 (List.mem_of_getElem? (i := 181) (by rfl))) rfl
theorem k_PP_grade : Cond.code y_PP_grade b_PP_grade 4 (some .int) ∈ Gw := gq (tg_2 (List.mem_of_getElem? (i := 224) (by rfl))) rfl
theorem k_PP_full : Cond.code y_PP_full b_PP_full 5 (some .int) ∈ Gw := gq (tg_3 (List.mem_of_getElem? (i := 230) (by rfl))) rfl
theorem k_PP_thin : Cond.code y_PP_thin b_PP_thin 5 (some .int) ∈ Gw := gq (tg_3 (List.mem_of_getElem? (i := 237) (by rfl))) rfl
theorem k_PP_checkCell : Cond.code y_PP_checkCell b_PP_checkCell 2 none ∈ Gw := gq (tg_3 (List.mem_of_getElem? (i := 167) (by rfl))) rfl
theorem k_PP_startNew : Cond.code y_PP_startNew b_PP_startNew 3 none ∈ Gw := gq (tg_1 (List.mem_of_getElem? (i := 163) (by rfl))) rfl
theorem k_PP_renewUnits : Cond.code y_PP_renewUnits b_PP_renewUnits 1 none ∈ Gw := gq (tg_2 (List.mem_of_getElem? (i := 57) (by rfl))) rfl
theorem k_PP_atFirst : Cond.code y_PP_atFirst b_PP_atFirst 4 (some .long) ∈ Gw := gq (tg_2 (List.mem_of_getElem? (i := 104) (by rfl))) rfl
theorem k_PP_firstFilling : Cond.code y_PP_firstFilling b_PP_firstFilling 1 (some .long) ∈ Gw := gq (tg_3 (List.mem_of_getElem? (i := 193) (by rfl))) rfl
theorem k_PP_isEasy : Cond.code y_PP_isEasy b_PP_isEasy 2 (some .boolean) ∈ Gw := gq (tg_4 (List.mem_of_getElem? (i := 1) (by rfl))) rfl
theorem k_MO_init : Cond.code y_MO_init b_MO_init 4 none ∈ Gw := gq (tg_4 (List.mem_of_getElem? (i := 6) (by rfl))) rfl
theorem k_MO_thrown : Cond.code y_MO_thrown b_MO_thrown 1 (some .int) ∈ Gw := gq (tg_4 (List.mem_of_getElem? (i := 105) (by rfl))) rfl
theorem k_MO_begin : Cond.code y_MO_begin b_MO_begin 3 none ∈ Gw := gq (tg_4 (List.mem_of_getElem? (i := 20) (by rfl))) rfl
theorem k_MO_allValues : Cond.code y_MO_allValues b_MO_allValues 1 (some .int) ∈ Gw := gq (tg_4 (List.mem_of_getElem? (i := 28) (by rfl))) rfl
theorem k_MO_refresh : Cond.code y_MO_refresh b_MO_refresh 2 none ∈ Gw := gq (tg_4 (List.mem_of_getElem? (i := 24) (by rfl))) rfl
theorem k_MO_open : Cond.code y_MO_open b_MO_open 2 (some .int) ∈ Gw := gq (tg_4 (List.mem_of_getElem? (i := 109) (by rfl))) rfl
theorem k_MO_kind : Cond.code y_MO_kind b_MO_kind 1 (some .int) ∈ Gw := gq (tg_4 (List.mem_of_getElem? (i := 113) (by rfl))) rfl
theorem k_MO_isClue : Cond.code y_MO_isClue b_MO_isClue 5 (some .boolean) ∈ Gw := gq (tg_4 (List.mem_of_getElem? (i := 120) (by rfl))) rfl
theorem k_MO_clue : Cond.code y_MO_clue b_MO_clue 4 (some .int) ∈ Gw := gq (tg_4 (List.mem_of_getElem? (i := 117) (by rfl))) rfl
theorem k_MO_noCell : Cond.code y_MO_noCell b_MO_noCell 2 (some .boolean) ∈ Gw := gq (tg_4 (List.mem_of_getElem? (i := 128) (by rfl))) rfl
theorem k_MO_sizeOf : Cond.code y_MO_sizeOf b_MO_sizeOf 4 (some .int) ∈ Gw := gq (tg_4 (List.mem_of_getElem? (i := 132) (by rfl))) rfl
theorem k_MO_group : Cond.code y_MO_group b_MO_group 5 (some .int) ∈ Gw := gq (tg_4 (List.mem_of_getElem? (i := 124) (by rfl))) rfl
theorem k_MO_rule : Cond.code y_MO_rule b_MO_rule 4 (some .int) ∈ Gw := gq (tg_4 (List.mem_of_getElem? (i := 136) (by rfl))) rfl
theorem k_MO_isValue : Cond.code y_MO_isValue b_MO_isValue 2 (some .boolean) ∈ Gw := gq (tg_4 (List.mem_of_getElem? (i := 144) (by rfl))) rfl
theorem k_MO_give : Cond.code y_MO_give b_MO_give 4 (some .int) ∈ Gw := gq (tg_4 (List.mem_of_getElem? (i := 140) (by rfl))) rfl
theorem k_MO_given : Cond.code y_MO_given b_MO_given 2 (some .int) ∈ Gw := gq (tg_4 (List.mem_of_getElem? (i := 148) (by rfl))) rfl
theorem k_MO_stretchesOf : Cond.code y_MO_stretchesOf b_MO_stretchesOf 5 (some .int) ∈ Gw := gq (tg_4 (List.mem_of_getElem? (i := 10) (by rfl))) rfl
theorem k_MO_valueOf : Cond.code y_MO_valueOf b_MO_valueOf 3 (some .int) ∈ Gw := gq (tg_4 (List.mem_of_getElem? (i := 167) (by rfl))) rfl
theorem k_MO_ones : Cond.code y_MO_ones b_MO_ones 3 (some .int) ∈ Gw := gq (tg_4 (List.mem_of_getElem? (i := 163) (by rfl))) rfl
theorem k_MO_lay : Cond.code y_MO_lay b_MO_lay 8 (some .boolean) ∈ Gw := gq (tg_4 (List.mem_of_getElem? (i := 160) (by rfl))) rfl
theorem k_MO_columnsFit : Cond.code y_MO_columnsFit b_MO_columnsFit 5 (some .boolean) ∈ Gw := gq (tg_4 (List.mem_of_getElem? (i := 179) (by rfl))) rfl
theorem k_MO_groupsFit : Cond.code y_MO_groupsFit b_MO_groupsFit 7 (some .boolean) ∈ Gw := gq (tg_4 (List.mem_of_getElem? (i := 175) (by rfl))) rfl
theorem k_MO_apart : Cond.code y_MO_apart b_MO_apart 2 (some .int) ∈ Gw := gq (tg_4 (List.mem_of_getElem? (i := 16) (by rfl))) rfl
theorem k_MO_touch : Cond.code y_MO_touch b_MO_touch 2 (some .boolean) ∈ Gw := gq (tg_4 (List.mem_of_getElem? (i := 13) (by rfl))) rfl
theorem k_MO_starsFit : Cond.code y_MO_starsFit b_MO_starsFit 5 (some .boolean) ∈ Gw := gq (tg_4 (List.mem_of_getElem? (i := 183) (by rfl))) rfl
theorem k_MO_isFilling : Cond.code y_MO_isFilling b_MO_isFilling 1 (some .boolean) ∈ Gw := gq (tg_4 (List.mem_of_getElem? (i := 171) (by rfl))) rfl
theorem k_MO_search : Cond.code y_MO_search b_MO_search 4 none ∈ Gw := gq (tg_4 (List.mem_of_getElem? (i := 156) (by rfl))) rfl
theorem k_MO_fillings : Cond.code y_MO_fillings b_MO_fillings 1 (some .int) ∈ Gw := gq (tg_4 (List.mem_of_getElem? (i := 152) (by rfl))) rfl
theorem k_MO_value : Cond.code y_MO_value b_MO_value 2 (some .int) ∈ Gw := gq (tg_4 (List.mem_of_getElem? (i := 187) (by rfl))) rfl
theorem k_MO_may : Cond.code y_MO_may b_MO_may 3 (some .boolean) ∈ Gw := gq (tg_4 (List.mem_of_getElem? (i := 227) (by rfl))) rfl
theorem k_MO_lose : Cond.code y_MO_lose b_MO_lose 2 none ∈ Gw := gq (tg_4 (List.mem_of_getElem? (i := 231) (by rfl))) rfl
theorem k_MO_beginUnit : Cond.code y_MO_beginUnit b_MO_beginUnit 2 none ∈ Gw := gq (tg_4 (List.mem_of_getElem? (i := 219) (by rfl))) rfl
theorem k_MO_addCell : Cond.code y_MO_addCell b_MO_addCell 2 none ∈ Gw := gq (tg_4 (List.mem_of_getElem? (i := 223) (by rfl))) rfl
theorem k_MO_addLine : Cond.code y_MO_addLine b_MO_addLine 3 none ∈ Gw := gq (tg_4 (List.mem_of_getElem? (i := 215) (by rfl))) rfl
theorem k_MO_tryPicture : Cond.code y_MO_tryPicture b_MO_tryPicture 5 none ∈ Gw := gq (tg_4 (List.mem_of_getElem? (i := 211) (by rfl))) rfl
theorem k_MO_goes : Cond.code y_MO_goes b_MO_goes 4 (some .boolean) ∈ Gw := gq (tg_4 (List.mem_of_getElem? (i := 239) (by rfl))) rfl
theorem k_MO_note : Cond.code y_MO_note b_MO_note 8 none ∈ Gw := gq (tg_5 (List.mem_of_getElem? (i := 3) (by rfl))) rfl
theorem k_MO_trySquare : Cond.code y_MO_trySquare b_MO_trySquare 7 none ∈ Gw := gq (tg_4 (List.mem_of_getElem? (i := 235) (by rfl))) rfl
theorem k_MO_tryStar : Cond.code y_MO_tryStar b_MO_tryStar 9 none ∈ Gw := gq (tg_5 (List.mem_of_getElem? (i := 7) (by rfl))) rfl
theorem k_MO_tryPairs : Cond.code y_MO_tryPairs b_MO_tryPairs 4 none ∈ Gw := gq (tg_5 (List.mem_of_getElem? (i := 15) (by rfl))) rfl
theorem k_MO_addGroup : Cond.code y_MO_addGroup b_MO_addGroup 3 none ∈ Gw := gq (tg_5 (List.mem_of_getElem? (i := 11) (by rfl))) rfl
theorem k_MO_look : Cond.code y_MO_look b_MO_look 3 (some .boolean) ∈ Gw := gq (tg_4 (List.mem_of_getElem? (i := 207) (by rfl))) rfl
theorem k_MO_reasonByOne : Cond.code y_MO_reasonByOne b_MO_reasonByOne 2 none ∈ Gw := gq (tg_4 (List.mem_of_getElem? (i := 203) (by rfl))) rfl
theorem k_MO_isEmpty : Cond.code y_MO_isEmpty b_MO_isEmpty 3 (some .boolean) ∈ Gw := gq (tg_5 (List.mem_of_getElem? (i := 27) (by rfl))) rfl
theorem k_MO_fails : Cond.code y_MO_fails b_MO_fails 5 (some .boolean) ∈ Gw := gq (tg_5 (List.mem_of_getElem? (i := 23) (by rfl))) rfl
theorem k_MO_reasonByBoth : Cond.code y_MO_reasonByBoth b_MO_reasonByBoth 4 none ∈ Gw := gq (tg_5 (List.mem_of_getElem? (i := 19) (by rfl))) rfl
theorem k_MO_countAll : Cond.code y_MO_countAll b_MO_countAll 3 (some .int) ∈ Gw := gq (tg_4 (List.mem_of_getElem? (i := 195) (by rfl))) rfl
theorem k_MO_fresh : Cond.code y_MO_fresh b_MO_fresh 1 (some .int) ∈ Gw := gq (tg_4 (List.mem_of_getElem? (i := 191) (by rfl))) rfl
theorem k_MO_reason : Cond.code y_MO_reason b_MO_reason 3 (some .int) ∈ Gw := gq (tg_4 (List.mem_of_getElem? (i := 199) (by rfl))) rfl
theorem k_MO_candidates : Cond.code y_MO_candidates b_MO_candidates 2 (some .int) ∈ Gw := gq (tg_5 (List.mem_of_getElem? (i := 31) (by rfl))) rfl
theorem k_MO_firstLost : Cond.code y_MO_firstLost b_MO_firstLost 3 (some .int) ∈ Gw := gq (tg_5 (List.mem_of_getElem? (i := 39) (by rfl))) rfl
theorem k_MO_firstFailing : Cond.code y_MO_firstFailing b_MO_firstFailing 3 (some .int) ∈ Gw := gq (tg_5 (List.mem_of_getElem? (i := 43) (by rfl))) rfl
theorem k_MO_step : Cond.code y_MO_step b_MO_step 3 (some .int) ∈ Gw := gq (tg_5 (List.mem_of_getElem? (i := 35) (by rfl))) rfl
theorem k_MO_isDone : Cond.code y_MO_isDone b_MO_isDone 3 (some .boolean) ∈ Gw := gq (tg_5 (List.mem_of_getElem? (i := 55) (by rfl))) rfl
theorem k_MO_gradeNow : Cond.code y_MO_gradeNow b_MO_gradeNow 2 (some .int) ∈ Gw := gq (tg_5 (List.mem_of_getElem? (i := 51) (by rfl))) rfl
theorem k_MO_grade : Cond.code y_MO_grade b_MO_grade 1 (some .int) ∈ Gw := gq (tg_5 (List.mem_of_getElem? (i := 47) (by rfl))) rfl
theorem k_MO_full : Cond.code y_MO_full b_MO_full 3 (some .int) ∈ Gw := gq (tg_5 (List.mem_of_getElem? (i := 59) (by rfl))) rfl
theorem k_MO_thin : Cond.code y_MO_thin b_MO_thin 8 (some .int) ∈ Gw := gq (tg_5 (List.mem_of_getElem? (i := 63) (by rfl))) rfl
theorem k_KD_init : Cond.code y_KD_init b_KD_init 5 none ∈ Gw := gq (tg_1 (List.mem_of_getElem? (i := 35) (by rfl))) rfl
theorem k_KD_hasCell : Cond.code y_KD_hasCell b_KD_hasCell 2 (some .boolean) ∈ Gw := gq (tg_3 (List.mem_of_getElem? (i := 128) (by rfl))) rfl
theorem k_KD_hasValue : Cond.code y_KD_hasValue b_KD_hasValue 2 (some .boolean) ∈ Gw := gq (tg_3 (List.mem_of_getElem? (i := 174) (by rfl))) rfl
theorem k_KD_bit : Cond.code y_KD_bit b_KD_bit 3 (some .long) ∈ Gw := gq (tg_2 (List.mem_of_getElem? (i := 4) (by rfl))) rfl
theorem k_KD_allOf : Cond.code y_KD_allOf b_KD_allOf 2 (some .long) ∈ Gw := gq (tg_1 (List.mem_of_getElem? (i := 211) (by rfl))) rfl
theorem k_KD_cellOf : Cond.code y_KD_cellOf b_KD_cellOf 4 (some .int) ∈ Gw := gq (tg_2 (List.mem_of_getElem? (i := 205) (by rfl))) rfl
theorem k_KD_valuesIn : Cond.code y_KD_valuesIn b_KD_valuesIn 4 (some .int) ∈ Gw := gq (tg_2 (List.mem_of_getElem? (i := 219) (by rfl))) rfl
theorem k_KD_valueIn : Cond.code y_KD_valueIn b_KD_valueIn 4 (some .int) ∈ Gw := gq (tg_2 (List.mem_of_getElem? (i := 212) (by rfl))) rfl
theorem k_KD_membersOf : Cond.code y_KD_membersOf b_KD_membersOf 4 (some .int) ∈ Gw := gq (tg_2 (List.mem_of_getElem? (i := 94) (by rfl))) rfl
theorem k_KD_rowCells : Cond.code y_KD_rowCells b_KD_rowCells 4 (some .int) ∈ Gw := gq (tg_1 (List.mem_of_getElem? (i := 194) (by rfl))) rfl
theorem k_KD_columnCells : Cond.code y_KD_columnCells b_KD_columnCells 4 (some .int) ∈ Gw := gq (tg_2 (List.mem_of_getElem? (i := 10) (by rfl))) rfl
theorem k_KD_scopeOf : Cond.code y_KD_scopeOf b_KD_scopeOf 5 (some .long) ∈ Gw := gq (tg_1 (List.mem_of_getElem? (i := 204) (by rfl))) rfl
theorem k_KD_firstOf : Cond.code y_KD_firstOf b_KD_firstOf 1 (some .int) ∈ Gw := gq (tg_1 (List.mem_of_getElem? (i := 232) (by rfl))) rfl
theorem k_PI_init : Cond.code y_PI_init b_PI_init 2 none ∈ Gw := gq (tg_1 (List.mem_of_getElem? (i := 32) (by rfl))) rfl
theorem k_PI_makeNew : Cond.code y_PI_makeNew b_PI_makeNew 2 none ∈ Gw := gq (tg_1 (List.mem_of_getElem? (i := 169) (by rfl))) rfl
theorem k_PI_addFixedUnits : Cond.code y_PI_addFixedUnits b_PI_addFixedUnits 2 none ∈ Gw := gq (tg_1 (List.mem_of_getElem? (i := 185) (by rfl))) rfl
theorem k_PI_addOtherUnits : Cond.code y_PI_addOtherUnits b_PI_addOtherUnits 4 none ∈ Gw := gq (tg_2 (List.mem_of_getElem? (i := 67) (by rfl))) rfl
theorem k_PI_isClue : Cond.code y_PI_isClue b_PI_isClue 3 (some .boolean) ∈ Gw := gq (tg_3 (List.mem_of_getElem? (i := 113) (by rfl))) rfl
theorem k_PI_readClue : Cond.code y_PI_readClue b_PI_readClue 4 (some .int) ∈ Gw := gq (tg_1 (List.mem_of_getElem? (i := 39) (by rfl))) rfl
theorem k_PI_wayOf : Cond.code y_PI_wayOf b_PI_wayOf 7 (some .long) ∈ Gw := gq (tg_2 (List.mem_of_getElem? (i := 81) (by rfl))) rfl
theorem k_RE_init : Cond.code y_RE_init b_RE_init 1 none ∈ Gw := gq (tg_1 (List.mem_of_getElem? (i := 123) (by rfl))) rfl
theorem k_RE_byLines : Cond.code y_RE_byLines b_RE_byLines 3 (some .long) ∈ Gw := gq (tg_2 (List.mem_of_getElem? (i := 228) (by rfl))) rfl
theorem k_RE_byBoth : Cond.code y_RE_byBoth b_RE_byBoth 11 (some .long) ∈ Gw := gq (tg_2 (List.mem_of_getElem? (i := 232) (by rfl))) rfl
theorem k_RE_firstByLines : Cond.code y_RE_firstByLines b_RE_firstByLines 5 (some .long) ∈ Gw := gq (tg_2 (List.mem_of_getElem? (i := 185) (by rfl))) rfl
theorem k_RE_firstBySupposing : Cond.code y_RE_firstBySupposing b_RE_firstBySupposing 6 (some .long) ∈ Gw := gq (tg_2 (List.mem_of_getElem? (i := 193) (by rfl))) rfl
theorem k_RE_countFillings : Cond.code y_RE_countFillings b_RE_countFillings 5 (some .int) ∈ Gw := gq (tg_2 (List.mem_of_getElem? (i := 143) (by rfl))) rfl
theorem k_RE_supposeEach : Cond.code y_RE_supposeEach b_RE_supposeEach 10 (some .long) ∈ Gw := gq (tg_2 (List.mem_of_getElem? (i := 237) (by rfl))) rfl
theorem k_RE_isRefuted : Cond.code y_RE_isRefuted b_RE_isRefuted 10 (some .boolean) ∈ Gw := gq (tg_2 (List.mem_of_getElem? (i := 197) (by rfl))) rfl
theorem k_RE_search : Cond.code y_RE_search b_RE_search 16 none ∈ Gw := gq (tg_2 (List.mem_of_getElem? (i := 152) (by rfl))) rfl
theorem k_RE_firstOpenCell : Cond.code y_RE_firstOpenCell b_RE_firstOpenCell 4 (some .int) ∈ Gw := gq (tg_2 (List.mem_of_getElem? (i := 164) (by rfl))) rfl
theorem k_SQ_init : Cond.code y_SQ_init b_SQ_init 1 none ∈ Gw := gq (tg_1 (List.mem_of_getElem? (i := 89) (by rfl))) rfl
theorem k_SQ_isRule : Cond.code y_SQ_isRule b_SQ_isRule 1 (some .boolean) ∈ Gw := gq (tg_3 (List.mem_of_getElem? (i := 155) (by rfl))) rfl
theorem k_SQ_makeNew : Cond.code y_SQ_makeNew b_SQ_makeNew 2 none ∈ Gw := gq (tg_1 (List.mem_of_getElem? (i := 172) (by rfl))) rfl
theorem k_SQ_addFixedUnits : Cond.code y_SQ_addFixedUnits b_SQ_addFixedUnits 3 none ∈ Gw := gq (tg_1 (List.mem_of_getElem? (i := 188) (by rfl))) rfl
theorem k_SQ_addOtherUnits : Cond.code y_SQ_addOtherUnits b_SQ_addOtherUnits 3 none ∈ Gw := gq (tg_2 (List.mem_of_getElem? (i := 88) (by rfl))) rfl
theorem k_SQ_addUnlike : Cond.code y_SQ_addUnlike b_SQ_addUnlike 5 none ∈ Gw := gq (tg_1 (List.mem_of_getElem? (i := 198) (by rfl))) rfl
theorem k_SQ_addWays : Cond.code y_SQ_addWays b_SQ_addWays 10 none ∈ Gw := gq (tg_1 (List.mem_of_getElem? (i := 219) (by rfl))) rfl
theorem k_SQ_obeys : Cond.code y_SQ_obeys b_SQ_obeys 7 (some .boolean) ∈ Gw := gq (tg_1 (List.mem_of_getElem? (i := 223) (by rfl))) rfl
theorem k_ST_init : Cond.code y_ST_init b_ST_init 1 none ∈ Gw := gq (tg_1 (List.mem_of_getElem? (i := 110) (by rfl))) rfl
theorem k_ST_makeNew : Cond.code y_ST_makeNew b_ST_makeNew 2 none ∈ Gw := gq (tg_1 (List.mem_of_getElem? (i := 175) (by rfl))) rfl
theorem k_ST_addFixedUnits : Cond.code y_ST_addFixedUnits b_ST_addFixedUnits 4 none ∈ Gw := gq (tg_2 (List.mem_of_getElem? (i := 13) (by rfl))) rfl
theorem k_ST_addOtherUnits : Cond.code y_ST_addOtherUnits b_ST_addOtherUnits 4 none ∈ Gw := gq (tg_2 (List.mem_of_getElem? (i := 97) (by rfl))) rfl
theorem k_ST_touch : Cond.code y_ST_touch b_ST_touch 2 (some .boolean) ∈ Gw := gq (tg_2 (List.mem_of_getElem? (i := 38) (by rfl))) rfl
theorem k_ST_addJustOne : Cond.code y_ST_addJustOne b_ST_addJustOne 4 none ∈ Gw := gq (tg_2 (List.mem_of_getElem? (i := 20) (by rfl))) rfl
theorem k_ST_wayWithStar : Cond.code y_ST_wayWithStar b_ST_wayWithStar 6 (some .long) ∈ Gw := gq (tg_2 (List.mem_of_getElem? (i := 28) (by rfl))) rfl
theorem k_ST_addNotBoth : Cond.code y_ST_addNotBoth b_ST_addNotBoth 4 none ∈ Gw := gq (tg_2 (List.mem_of_getElem? (i := 45) (by rfl))) rfl
theorem k_UN_init : Cond.code y_UN_init b_UN_init 1 none ∈ Gw := gq (tg_1 (List.mem_of_getElem? (i := 129) (by rfl))) rfl
theorem k_UN_dropAll : Cond.code y_UN_dropAll b_UN_dropAll 1 none ∈ Gw := gq (tg_1 (List.mem_of_getElem? (i := 179) (by rfl))) rfl
theorem k_UN_fixAll : Cond.code y_UN_fixAll b_UN_fixAll 1 none ∈ Gw := gq (tg_2 (List.mem_of_getElem? (i := 53) (by rfl))) rfl
theorem k_UN_dropUnfixed : Cond.code y_UN_dropUnfixed b_UN_dropUnfixed 1 none ∈ Gw := gq (tg_2 (List.mem_of_getElem? (i := 61) (by rfl))) rfl
theorem k_UN_begin : Cond.code y_UN_begin b_UN_begin 3 none ∈ Gw := gq (tg_1 (List.mem_of_getElem? (i := 215) (by rfl))) rfl
theorem k_UN_addWay : Cond.code y_UN_addWay b_UN_addWay 4 none ∈ Gw := gq (tg_1 (List.mem_of_getElem? (i := 227) (by rfl))) rfl
theorem k_UN_haveWays : Cond.code y_UN_haveWays b_UN_haveWays 2 (some .boolean) ∈ Gw := gq (tg_2 (List.mem_of_getElem? (i := 147) (by rfl))) rfl
theorem k_UN_keptAtOnce : Cond.code y_UN_keptAtOnce b_UN_keptAtOnce 6 (some .long) ∈ Gw := gq (tg_2 (List.mem_of_getElem? (i := 189) (by rfl))) rfl
theorem k_UN_narrow : Cond.code y_UN_narrow b_UN_narrow 13 (some .long) ∈ Gw := gq (tg_2 (List.mem_of_getElem? (i := 156) (by rfl))) rfl
theorem k_UN_keptBy : Cond.code y_UN_keptBy b_UN_keptBy 9 (some .long) ∈ Gw := gq (tg_2 (List.mem_of_getElem? (i := 160) (by rfl))) rfl
theorem k_JI_bitCount : Cond.code y_JI_bitCount b_JI_bitCount 1 (some .int) ∈ Gw := gq (tg_1 (List.mem_of_getElem? (i := 235) (by rfl))) rfl
theorem k_JL_bitCount : Cond.code y_JL_bitCount b_JL_bitCount 2 (some .int) ∈ Gw := gq (tg_2 (List.mem_of_getElem? (i := 168) (by rfl))) rfl
theorem in_PP_0 : u_lay R_PP F_PP 0 ∈ Gw := gq (tg_2 (List.mem_of_getElem? (i := 115) (by decide +kernel))) (by decide +kernel)
theorem in_PP_1 : u_lay R_PP F_PP 1 ∈ Gw := gq (tg_2 (List.mem_of_getElem? (i := 117) (by decide +kernel))) (by decide +kernel)
theorem in_PP_2 : u_lay R_PP F_PP 2 ∈ Gw := gq (tg_2 (List.mem_of_getElem? (i := 119) (by decide +kernel))) (by decide +kernel)
theorem in_PP_3 : u_lay R_PP F_PP 3 ∈ Gw := gq (tg_2 (List.mem_of_getElem? (i := 121) (by decide +kernel))) (by decide +kernel)
theorem in_PP_4 : u_lay R_PP F_PP 4 ∈ Gw := gq (tg_2 (List.mem_of_getElem? (i := 123) (by decide +kernel))) (by decide +kernel)
theorem in_PP_5 : u_lay R_PP F_PP 5 ∈ Gw := gq (tg_2 (List.mem_of_getElem? (i := 125) (by decide +kernel))) (by decide +kernel)
theorem in_PP_6 : u_lay R_PP F_PP 6 ∈ Gw := gq (tg_2 (List.mem_of_getElem? (i := 127) (by decide +kernel))) (by decide +kernel)
theorem in_PP_7 : u_lay R_PP F_PP 7 ∈ Gw := gq (tg_2 (List.mem_of_getElem? (i := 129) (by decide +kernel))) (by decide +kernel)
theorem in_PP : ∀ w ∈ u_ws R_PP F_PP 8, w ∈ Gw := by
  intro w h
  obtain ⟨j, hj, rfl⟩ := List.mem_map.mp h
  have hj := List.mem_range.mp hj
  match j, hj with
  | 0, _ => exact in_PP_0
  | 1, _ => exact in_PP_1
  | 2, _ => exact in_PP_2
  | 3, _ => exact in_PP_3
  | 4, _ => exact in_PP_4
  | 5, _ => exact in_PP_5
  | 6, _ => exact in_PP_6
  | 7, _ => exact in_PP_7
  | j + 8, hj => exact absurd hj (by omega)
theorem in_PI_0 : u_lay R_PI F_PI 0 ∈ Gw := gq (tg_1 (List.mem_of_getElem? (i := 71) (by decide +kernel))) (by decide +kernel)
theorem in_PI_1 : u_lay R_PI F_PI 1 ∈ Gw := gq (tg_1 (List.mem_of_getElem? (i := 73) (by decide +kernel))) (by decide +kernel)
theorem in_PI_2 : u_lay R_PI F_PI 2 ∈ Gw := gq (tg_1 (List.mem_of_getElem? (i := 75) (by decide +kernel))) (by decide +kernel)
theorem in_PI_3 : u_lay R_PI F_PI 3 ∈ Gw := gq (tg_1 (List.mem_of_getElem? (i := 77) (by decide +kernel))) (by decide +kernel)
theorem in_PI_4 : u_lay R_PI F_PI 4 ∈ Gw := gq (tg_1 (List.mem_of_getElem? (i := 79) (by decide +kernel))) (by decide +kernel)
theorem in_PI_5 : u_lay R_PI F_PI 5 ∈ Gw := gq (tg_1 (List.mem_of_getElem? (i := 81) (by decide +kernel))) (by decide +kernel)
theorem in_PI_6 : u_lay R_PI F_PI 6 ∈ Gw := gq (tg_1 (List.mem_of_getElem? (i := 67) (by decide +kernel))) (by decide +kernel)
theorem in_PI_7 : u_lay R_PI F_PI 7 ∈ Gw := gq (tg_1 (List.mem_of_getElem? (i := 69) (by decide +kernel))) (by decide +kernel)
theorem in_PI : ∀ w ∈ u_ws R_PI F_PI 8, w ∈ Gw := by
  intro w h
  obtain ⟨j, hj, rfl⟩ := List.mem_map.mp h
  have hj := List.mem_range.mp hj
  match j, hj with
  | 0, _ => exact in_PI_0
  | 1, _ => exact in_PI_1
  | 2, _ => exact in_PI_2
  | 3, _ => exact in_PI_3
  | 4, _ => exact in_PI_4
  | 5, _ => exact in_PI_5
  | 6, _ => exact in_PI_6
  | 7, _ => exact in_PI_7
  | j + 8, hj => exact absurd hj (by omega)
theorem in_SQ_0 : u_lay R_SQ F_SQ 0 ∈ Gw := gq (tg_1 (List.mem_of_getElem? (i := 99) (by decide +kernel))) (by decide +kernel)
theorem in_SQ_1 : u_lay R_SQ F_SQ 1 ∈ Gw := gq (tg_1 (List.mem_of_getElem? (i := 100) (by decide +kernel))) (by decide +kernel)
theorem in_SQ_2 : u_lay R_SQ F_SQ 2 ∈ Gw := gq (tg_1 (List.mem_of_getElem? (i := 101) (by decide +kernel))) (by decide +kernel)
theorem in_SQ_3 : u_lay R_SQ F_SQ 3 ∈ Gw := gq (tg_1 (List.mem_of_getElem? (i := 102) (by decide +kernel))) (by decide +kernel)
theorem in_SQ_4 : u_lay R_SQ F_SQ 4 ∈ Gw := gq (tg_1 (List.mem_of_getElem? (i := 103) (by decide +kernel))) (by decide +kernel)
theorem in_SQ_5 : u_lay R_SQ F_SQ 5 ∈ Gw := gq (tg_1 (List.mem_of_getElem? (i := 104) (by decide +kernel))) (by decide +kernel)
theorem in_SQ_6 : u_lay R_SQ F_SQ 6 ∈ Gw := gq (tg_1 (List.mem_of_getElem? (i := 95) (by decide +kernel))) (by decide +kernel)
theorem in_SQ_7 : u_lay R_SQ F_SQ 7 ∈ Gw := gq (tg_1 (List.mem_of_getElem? (i := 97) (by decide +kernel))) (by decide +kernel)
theorem in_SQ : ∀ w ∈ u_ws R_SQ F_SQ 8, w ∈ Gw := by
  intro w h
  obtain ⟨j, hj, rfl⟩ := List.mem_map.mp h
  have hj := List.mem_range.mp hj
  match j, hj with
  | 0, _ => exact in_SQ_0
  | 1, _ => exact in_SQ_1
  | 2, _ => exact in_SQ_2
  | 3, _ => exact in_SQ_3
  | 4, _ => exact in_SQ_4
  | 5, _ => exact in_SQ_5
  | 6, _ => exact in_SQ_6
  | 7, _ => exact in_SQ_7
  | j + 8, hj => exact absurd hj (by omega)
theorem in_ST_0 : u_lay R_ST F_ST 0 ∈ Gw := gq (tg_1 (List.mem_of_getElem? (i := 112) (by decide +kernel))) (by decide +kernel)
theorem in_ST_1 : u_lay R_ST F_ST 1 ∈ Gw := gq (tg_1 (List.mem_of_getElem? (i := 113) (by decide +kernel))) (by decide +kernel)
theorem in_ST_2 : u_lay R_ST F_ST 2 ∈ Gw := gq (tg_1 (List.mem_of_getElem? (i := 114) (by decide +kernel))) (by decide +kernel)
theorem in_ST_3 : u_lay R_ST F_ST 3 ∈ Gw := gq (tg_1 (List.mem_of_getElem? (i := 115) (by decide +kernel))) (by decide +kernel)
theorem in_ST_4 : u_lay R_ST F_ST 4 ∈ Gw := gq (tg_1 (List.mem_of_getElem? (i := 116) (by decide +kernel))) (by decide +kernel)
theorem in_ST_5 : u_lay R_ST F_ST 5 ∈ Gw := gq (tg_1 (List.mem_of_getElem? (i := 117) (by decide +kernel))) (by decide +kernel)
theorem in_ST : ∀ w ∈ u_ws R_ST F_ST 6, w ∈ Gw := by
  intro w h
  obtain ⟨j, hj, rfl⟩ := List.mem_map.mp h
  have hj := List.mem_range.mp hj
  match j, hj with
  | 0, _ => exact in_ST_0
  | 1, _ => exact in_ST_1
  | 2, _ => exact in_ST_2
  | 3, _ => exact in_ST_3
  | 4, _ => exact in_ST_4
  | 5, _ => exact in_ST_5
  | j + 6, hj => exact absurd hj (by omega)
theorem in_RE_0 : u_lay R_RE F_RE 0 ∈ Gw := gq (tg_1 (List.mem_of_getElem? (i := 153) (by decide +kernel))) (by decide +kernel)
theorem in_RE_1 : u_lay R_RE F_RE 1 ∈ Gw := gq (tg_1 (List.mem_of_getElem? (i := 155) (by decide +kernel))) (by decide +kernel)
theorem in_RE_2 : u_lay R_RE F_RE 2 ∈ Gw := gq (tg_1 (List.mem_of_getElem? (i := 157) (by decide +kernel))) (by decide +kernel)
theorem in_RE : ∀ w ∈ u_ws R_RE F_RE 3, w ∈ Gw := by
  intro w h
  obtain ⟨j, hj, rfl⟩ := List.mem_map.mp h
  have hj := List.mem_range.mp hj
  match j, hj with
  | 0, _ => exact in_RE_0
  | 1, _ => exact in_RE_1
  | 2, _ => exact in_RE_2
  | j + 3, hj => exact absurd hj (by omega)
theorem in_UN_0 : u_lay R_UN F_UN 0 ∈ Gw := gq (tg_1 (List.mem_of_getElem? (i := 136) (by decide +kernel))) (by decide +kernel)
theorem in_UN_1 : u_lay R_UN F_UN 1 ∈ Gw := gq (tg_1 (List.mem_of_getElem? (i := 138) (by decide +kernel))) (by decide +kernel)
theorem in_UN_2 : u_lay R_UN F_UN 2 ∈ Gw := gq (tg_1 (List.mem_of_getElem? (i := 140) (by decide +kernel))) (by decide +kernel)
theorem in_UN_3 : u_lay R_UN F_UN 3 ∈ Gw := gq (tg_1 (List.mem_of_getElem? (i := 142) (by decide +kernel))) (by decide +kernel)
theorem in_UN_4 : u_lay R_UN F_UN 4 ∈ Gw := gq (tg_1 (List.mem_of_getElem? (i := 144) (by decide +kernel))) (by decide +kernel)
theorem in_UN : ∀ w ∈ u_ws R_UN F_UN 5, w ∈ Gw := by
  intro w h
  obtain ⟨j, hj, rfl⟩ := List.mem_map.mp h
  have hj := List.mem_range.mp hj
  match j, hj with
  | 0, _ => exact in_UN_0
  | 1, _ => exact in_UN_1
  | 2, _ => exact in_UN_2
  | 3, _ => exact in_UN_3
  | 4, _ => exact in_UN_4
  | j + 5, hj => exact absurd hj (by omega)
theorem in_MO_0 : u_lay R_MO F_MO 0 ∈ Gw := gq (tg_4 (List.mem_of_getElem? (i := 53) (by decide +kernel))) (by decide +kernel)
theorem in_MO_1 : u_lay R_MO F_MO 1 ∈ Gw := gq (tg_4 (List.mem_of_getElem? (i := 55) (by decide +kernel))) (by decide +kernel)
theorem in_MO_2 : u_lay R_MO F_MO 2 ∈ Gw := gq (tg_4 (List.mem_of_getElem? (i := 57) (by decide +kernel))) (by decide +kernel)
theorem in_MO_3 : u_lay R_MO F_MO 3 ∈ Gw := gq (tg_4 (List.mem_of_getElem? (i := 59) (by decide +kernel))) (by decide +kernel)
theorem in_MO_4 : u_lay R_MO F_MO 4 ∈ Gw := gq (tg_4 (List.mem_of_getElem? (i := 61) (by decide +kernel))) (by decide +kernel)
theorem in_MO_5 : u_lay R_MO F_MO 5 ∈ Gw := gq (tg_4 (List.mem_of_getElem? (i := 63) (by decide +kernel))) (by decide +kernel)
theorem in_MO_6 : u_lay R_MO F_MO 6 ∈ Gw := gq (tg_4 (List.mem_of_getElem? (i := 65) (by decide +kernel))) (by decide +kernel)
theorem in_MO_7 : u_lay R_MO F_MO 7 ∈ Gw := gq (tg_4 (List.mem_of_getElem? (i := 67) (by decide +kernel))) (by decide +kernel)
theorem in_MO_8 : u_lay R_MO F_MO 8 ∈ Gw := gq (tg_4 (List.mem_of_getElem? (i := 69) (by decide +kernel))) (by decide +kernel)
theorem in_MO_9 : u_lay R_MO F_MO 9 ∈ Gw := gq (tg_4 (List.mem_of_getElem? (i := 71) (by decide +kernel))) (by decide +kernel)
theorem in_MO_10 : u_lay R_MO F_MO 10 ∈ Gw := gq (tg_4 (List.mem_of_getElem? (i := 73) (by decide +kernel))) (by decide +kernel)
theorem in_MO_11 : u_lay R_MO F_MO 11 ∈ Gw := gq (tg_4 (List.mem_of_getElem? (i := 75) (by decide +kernel))) (by decide +kernel)
theorem in_MO_12 : u_lay R_MO F_MO 12 ∈ Gw := gq (tg_4 (List.mem_of_getElem? (i := 77) (by decide +kernel))) (by decide +kernel)
theorem in_MO_13 : u_lay R_MO F_MO 13 ∈ Gw := gq (tg_4 (List.mem_of_getElem? (i := 79) (by decide +kernel))) (by decide +kernel)
theorem in_MO_14 : u_lay R_MO F_MO 14 ∈ Gw := gq (tg_4 (List.mem_of_getElem? (i := 81) (by decide +kernel))) (by decide +kernel)
theorem in_MO_15 : u_lay R_MO F_MO 15 ∈ Gw := gq (tg_4 (List.mem_of_getElem? (i := 83) (by decide +kernel))) (by decide +kernel)
theorem in_MO_16 : u_lay R_MO F_MO 16 ∈ Gw := gq (tg_4 (List.mem_of_getElem? (i := 85) (by decide +kernel))) (by decide +kernel)
theorem in_MO_17 : u_lay R_MO F_MO 17 ∈ Gw := gq (tg_4 (List.mem_of_getElem? (i := 87) (by decide +kernel))) (by decide +kernel)
theorem in_MO_18 : u_lay R_MO F_MO 18 ∈ Gw := gq (tg_4 (List.mem_of_getElem? (i := 89) (by decide +kernel))) (by decide +kernel)
theorem in_MO_19 : u_lay R_MO F_MO 19 ∈ Gw := gq (tg_4 (List.mem_of_getElem? (i := 91) (by decide +kernel))) (by decide +kernel)
theorem in_MO_20 : u_lay R_MO F_MO 20 ∈ Gw := gq (tg_4 (List.mem_of_getElem? (i := 93) (by decide +kernel))) (by decide +kernel)
theorem in_MO_21 : u_lay R_MO F_MO 21 ∈ Gw := gq (tg_4 (List.mem_of_getElem? (i := 95) (by decide +kernel))) (by decide +kernel)
theorem in_MO_22 : u_lay R_MO F_MO 22 ∈ Gw := gq (tg_4 (List.mem_of_getElem? (i := 97) (by decide +kernel))) (by decide +kernel)
theorem in_MO_23 : u_lay R_MO F_MO 23 ∈ Gw := gq (tg_4 (List.mem_of_getElem? (i := 99) (by decide +kernel))) (by decide +kernel)
theorem in_MO : ∀ w ∈ u_ws R_MO F_MO 24, w ∈ Gw := by
  intro w h
  obtain ⟨j, hj, rfl⟩ := List.mem_map.mp h
  have hj := List.mem_range.mp hj
  match j, hj with
  | 0, _ => exact in_MO_0
  | 1, _ => exact in_MO_1
  | 2, _ => exact in_MO_2
  | 3, _ => exact in_MO_3
  | 4, _ => exact in_MO_4
  | 5, _ => exact in_MO_5
  | 6, _ => exact in_MO_6
  | 7, _ => exact in_MO_7
  | 8, _ => exact in_MO_8
  | 9, _ => exact in_MO_9
  | 10, _ => exact in_MO_10
  | 11, _ => exact in_MO_11
  | 12, _ => exact in_MO_12
  | 13, _ => exact in_MO_13
  | 14, _ => exact in_MO_14
  | 15, _ => exact in_MO_15
  | 16, _ => exact in_MO_16
  | 17, _ => exact in_MO_17
  | 18, _ => exact in_MO_18
  | 19, _ => exact in_MO_19
  | 20, _ => exact in_MO_20
  | 21, _ => exact in_MO_21
  | 22, _ => exact in_MO_22
  | 23, _ => exact in_MO_23
  | j + 24, hj => exact absurd hj (by omega)
theorem q_1 : (Cond.initialized R_PP) ∈ Gw := gq (tg_1 (List.mem_of_getElem? (i := 1) (by decide +kernel))) rfl
theorem q_2 : (Cond.initialized R_KD) ∈ Gw := gq (tg_1 (List.mem_of_getElem? (i := 2) (by decide +kernel))) rfl
theorem q_3 : (Cond.initialized R_PI) ∈ Gw := gq (tg_1 (List.mem_of_getElem? (i := 3) (by decide +kernel))) rfl
theorem q_4 : (Cond.initialized R_SQ) ∈ Gw := gq (tg_1 (List.mem_of_getElem? (i := 4) (by decide +kernel))) rfl
theorem q_5 : (Cond.initialized R_ST) ∈ Gw := gq (tg_1 (List.mem_of_getElem? (i := 5) (by decide +kernel))) rfl
theorem q_6 : (Cond.initialized R_RE) ∈ Gw := gq (tg_1 (List.mem_of_getElem? (i := 6) (by decide +kernel))) rfl
theorem q_7 : (Cond.initialized R_UN) ∈ Gw := gq (tg_1 (List.mem_of_getElem? (i := 7) (by decide +kernel))) rfl
theorem q_8 : (Cond.initialized R_JI) ∈ Gw := gq (tg_1 (List.mem_of_getElem? (i := 8) (by decide +kernel))) rfl
theorem q_10 : (Cond.initialized R_MO) ∈ Gw := gq (tg_1 (List.mem_of_getElem? (i := 10) (by decide +kernel))) rfl
theorem q_18 : (Cond.initialized R_JL) ∈ Gw := gq (tg_1 (List.mem_of_getElem? (i := 18) (by decide +kernel))) rfl
theorem q_40 : (Cond.fieldLink R_PI 9 "PuzzlePress$Picture" "clues" "[I") ∈ Gw := gq (tg_1 (List.mem_of_getElem? (i := 40) (by decide +kernel))) rfl
theorem q_42 : (Cond.fieldLink R_PI 13 "PuzzlePress$Picture" "clueOf" "[I") ∈ Gw := gq (tg_1 (List.mem_of_getElem? (i := 42) (by decide +kernel))) rfl
theorem q_43 : (Cond.fieldLink R_KD 9 "PuzzlePress$Kind" "side" "I") ∈ Gw := gq (tg_1 (List.mem_of_getElem? (i := 43) (by decide +kernel))) rfl
theorem q_44 : (Cond.fieldLink R_KD 15 "PuzzlePress$Kind" "cells" "I") ∈ Gw := gq (tg_1 (List.mem_of_getElem? (i := 44) (by decide +kernel))) rfl
theorem q_45 : (Cond.fieldLink R_ST 9 "PuzzlePress$Stars" "cells" "I") ∈ Gw := gq (tg_1 (List.mem_of_getElem? (i := 45) (by decide +kernel))) rfl
theorem q_46 : (Cond.sameField "PuzzlePress$Stars" "PuzzlePress$Kind" "cells" "I") ∈ Gw := gq (tg_1 (List.mem_of_getElem? (i := 46) (by decide +kernel))) rfl
theorem q_47 : (Cond.fieldLink R_PP 56 "PuzzlePress$Kind" "cells" "I") ∈ Gw := gq (tg_1 (List.mem_of_getElem? (i := 47) (by decide +kernel))) rfl
theorem q_48 : (Cond.fieldLink R_RE 35 "PuzzlePress$Kind" "cells" "I") ∈ Gw := gq (tg_1 (List.mem_of_getElem? (i := 48) (by decide +kernel))) rfl
theorem q_49 : (Cond.fieldLink R_KD 18 "PuzzlePress$Kind" "least" "I") ∈ Gw := gq (tg_1 (List.mem_of_getElem? (i := 49) (by decide +kernel))) rfl
theorem q_50 : (Cond.fieldLink R_RE 41 "PuzzlePress$Kind" "least" "I") ∈ Gw := gq (tg_1 (List.mem_of_getElem? (i := 50) (by decide +kernel))) rfl
theorem q_51 : (Cond.fieldLink R_SQ 57 "PuzzlePress$Square" "least" "I") ∈ Gw := gq (tg_1 (List.mem_of_getElem? (i := 51) (by decide +kernel))) rfl
theorem q_52 : (Cond.sameField "PuzzlePress$Square" "PuzzlePress$Kind" "least" "I") ∈ Gw := gq (tg_1 (List.mem_of_getElem? (i := 52) (by decide +kernel))) rfl
theorem q_53 : (Cond.fieldLink R_KD 21 "PuzzlePress$Kind" "values" "I") ∈ Gw := gq (tg_1 (List.mem_of_getElem? (i := 53) (by decide +kernel))) rfl
theorem q_54 : (Cond.fieldLink R_RE 44 "PuzzlePress$Kind" "values" "I") ∈ Gw := gq (tg_1 (List.mem_of_getElem? (i := 54) (by decide +kernel))) rfl
theorem q_55 : (Cond.fieldLink R_SQ 61 "PuzzlePress$Square" "values" "I") ∈ Gw := gq (tg_1 (List.mem_of_getElem? (i := 55) (by decide +kernel))) rfl
theorem q_56 : (Cond.sameField "PuzzlePress$Square" "PuzzlePress$Kind" "values" "I") ∈ Gw := gq (tg_1 (List.mem_of_getElem? (i := 56) (by decide +kernel))) rfl
theorem q_61 : (Cond.fieldLink R_KD 27 "PuzzlePress$Kind" "groupOf" "[I") ∈ Gw := gq (tg_1 (List.mem_of_getElem? (i := 61) (by decide +kernel))) rfl
theorem q_62 : (Cond.fieldLink R_ST 13 "PuzzlePress$Stars" "groupOf" "[I") ∈ Gw := gq (tg_1 (List.mem_of_getElem? (i := 62) (by decide +kernel))) rfl
theorem q_63 : (Cond.sameField "PuzzlePress$Stars" "PuzzlePress$Kind" "groupOf" "[I") ∈ Gw := gq (tg_1 (List.mem_of_getElem? (i := 63) (by decide +kernel))) rfl
theorem q_64 : (Cond.fieldLink R_SQ 16 "PuzzlePress$Square" "groupOf" "[I") ∈ Gw := gq (tg_1 (List.mem_of_getElem? (i := 64) (by decide +kernel))) rfl
theorem q_65 : (Cond.sameField "PuzzlePress$Square" "PuzzlePress$Kind" "groupOf" "[I") ∈ Gw := gq (tg_1 (List.mem_of_getElem? (i := 65) (by decide +kernel))) rfl
theorem q_91 : (Cond.fieldLink R_SQ 9 "PuzzlePress$Square" "rules" "[I") ∈ Gw := gq (tg_1 (List.mem_of_getElem? (i := 91) (by decide +kernel))) rfl
theorem q_93 : (Cond.fieldLink R_SQ 13 "PuzzlePress$Square" "numbers" "[I") ∈ Gw := gq (tg_1 (List.mem_of_getElem? (i := 93) (by decide +kernel))) rfl
theorem q_131 : (Cond.fieldLink R_UN 11 "PuzzlePress$Units" "scopes" "[J") ∈ Gw := gq (tg_1 (List.mem_of_getElem? (i := 131) (by decide +kernel))) rfl
theorem q_132 : (Cond.fieldLink R_UN 15 "PuzzlePress$Units" "starts" "[I") ∈ Gw := gq (tg_1 (List.mem_of_getElem? (i := 132) (by decide +kernel))) rfl
theorem q_133 : (Cond.fieldLink R_UN 19 "PuzzlePress$Units" "ways" "[J") ∈ Gw := gq (tg_1 (List.mem_of_getElem? (i := 133) (by decide +kernel))) rfl
theorem q_134 : (Cond.fieldLink R_UN 22 "PuzzlePress$Units" "count" "I") ∈ Gw := gq (tg_1 (List.mem_of_getElem? (i := 134) (by decide +kernel))) rfl
theorem q_135 : (Cond.fieldLink R_UN 26 "PuzzlePress$Units" "fixed" "I") ∈ Gw := gq (tg_1 (List.mem_of_getElem? (i := 135) (by decide +kernel))) rfl
theorem q_148 : (Cond.fieldLink R_RE 12 "PuzzlePress$Reasoner" "units" "LPuzzlePress$Units;") ∈ Gw := gq (tg_1 (List.mem_of_getElem? (i := 148) (by decide +kernel))) rfl
theorem q_149 : (Cond.fieldLink R_PP 172 "PuzzlePress$Reasoner" "units" "LPuzzlePress$Units;") ∈ Gw := gq (tg_1 (List.mem_of_getElem? (i := 149) (by decide +kernel))) rfl
theorem q_150 : (Cond.fieldLink R_RE 58 "PuzzlePress$Reasoner" "firstFound" "J") ∈ Gw := gq (tg_1 (List.mem_of_getElem? (i := 150) (by decide +kernel))) rfl
theorem q_152 : (Cond.fieldLink R_RE 55 "PuzzlePress$Reasoner" "found" "I") ∈ Gw := gq (tg_1 (List.mem_of_getElem? (i := 152) (by decide +kernel))) rfl
theorem q_164 : (Cond.methodLink R_PP 169 ⟨"PuzzlePress$Kind", "makeNew", "()V"⟩) ∈ Gw := gq (tg_1 (List.mem_of_getElem? (i := 164) (by decide +kernel))) rfl
theorem q_166 : (Cond.sameMethod "PuzzlePress$Kind" "PuzzlePress$Kind" "makeNew" "()V") ∈ Gw := gq (tg_1 (List.mem_of_getElem? (i := 166) (by decide +kernel))) rfl
theorem q_167 : (Cond.selects R_PI ⟨"PuzzlePress$Kind", "makeNew", "()V"⟩ y_PI_makeNew) ∈ Gw := gq (tg_1 (List.mem_of_getElem? (i := 167) (by decide +kernel))) rfl
theorem q_168 : (Cond.instanceMethod y_PI_makeNew) ∈ Gw := gq (tg_1 (List.mem_of_getElem? (i := 168) (by decide +kernel))) rfl
theorem q_170 : (Cond.selects R_SQ ⟨"PuzzlePress$Kind", "makeNew", "()V"⟩ y_SQ_makeNew) ∈ Gw := gq (tg_1 (List.mem_of_getElem? (i := 170) (by decide +kernel))) rfl
theorem q_171 : (Cond.instanceMethod y_SQ_makeNew) ∈ Gw := gq (tg_1 (List.mem_of_getElem? (i := 171) (by decide +kernel))) rfl
theorem q_173 : (Cond.selects R_ST ⟨"PuzzlePress$Kind", "makeNew", "()V"⟩ y_ST_makeNew) ∈ Gw := gq (tg_1 (List.mem_of_getElem? (i := 173) (by decide +kernel))) rfl
theorem q_174 : (Cond.instanceMethod y_ST_makeNew) ∈ Gw := gq (tg_1 (List.mem_of_getElem? (i := 174) (by decide +kernel))) rfl
theorem q_176 : (Cond.methodLink R_PP 176 ⟨"PuzzlePress$Units", "dropAll", "()V"⟩) ∈ Gw := gq (tg_1 (List.mem_of_getElem? (i := 176) (by decide +kernel))) rfl
theorem q_177 : (Cond.instanceMethod y_UN_dropAll) ∈ Gw := gq (tg_1 (List.mem_of_getElem? (i := 177) (by decide +kernel))) rfl
theorem q_178 : (Cond.selects R_UN y_UN_dropAll y_UN_dropAll) ∈ Gw := gq (tg_1 (List.mem_of_getElem? (i := 178) (by decide +kernel))) rfl
theorem q_180 : (Cond.methodLink R_PP 181 ⟨"PuzzlePress$Kind", "addFixedUnits", "(LPuzzlePress$Units;)V"⟩) ∈ Gw := gq (tg_1 (List.mem_of_getElem? (i := 180) (by decide +kernel))) rfl
theorem q_182 : (Cond.sameMethod "PuzzlePress$Kind" "PuzzlePress$Kind" "addFixedUnits" "(LPuzzlePress$Units;)V") ∈ Gw := gq (tg_1 (List.mem_of_getElem? (i := 182) (by decide +kernel))) rfl
theorem q_183 : (Cond.selects R_PI ⟨"PuzzlePress$Kind", "addFixedUnits", "(LPuzzlePress$Units;)V"⟩ y_PI_addFixedUnits) ∈ Gw := gq (tg_1 (List.mem_of_getElem? (i := 183) (by decide +kernel))) rfl
theorem q_184 : (Cond.instanceMethod y_PI_addFixedUnits) ∈ Gw := gq (tg_1 (List.mem_of_getElem? (i := 184) (by decide +kernel))) rfl
theorem q_186 : (Cond.selects R_SQ ⟨"PuzzlePress$Kind", "addFixedUnits", "(LPuzzlePress$Units;)V"⟩ y_SQ_addFixedUnits) ∈ Gw := gq (tg_1 (List.mem_of_getElem? (i := 186) (by decide +kernel))) rfl
theorem q_187 : (Cond.instanceMethod y_SQ_addFixedUnits) ∈ Gw := gq (tg_1 (List.mem_of_getElem? (i := 187) (by decide +kernel))) rfl
theorem q_189 : (Cond.methodLink R_SQ 19 ⟨"PuzzlePress$Square", "rowCells", "(I)I"⟩) ∈ Gw := gq (tg_1 (List.mem_of_getElem? (i := 189) (by decide +kernel))) rfl
theorem q_190 : (Cond.sameMethod "PuzzlePress$Square" "PuzzlePress$Kind" "rowCells" "(I)I") ∈ Gw := gq (tg_1 (List.mem_of_getElem? (i := 190) (by decide +kernel))) rfl
theorem q_192 : (Cond.selects R_SQ ⟨"PuzzlePress$Square", "rowCells", "(I)I"⟩ y_KD_rowCells) ∈ Gw := gq (tg_1 (List.mem_of_getElem? (i := 192) (by decide +kernel))) rfl
theorem q_193 : (Cond.instanceMethod y_KD_rowCells) ∈ Gw := gq (tg_1 (List.mem_of_getElem? (i := 193) (by decide +kernel))) rfl
theorem q_195 : (Cond.methodLink R_SQ 23 ⟨"PuzzlePress$Square", "addUnlike", "(LPuzzlePress$Units;III)V"⟩) ∈ Gw := gq (tg_1 (List.mem_of_getElem? (i := 195) (by decide +kernel))) rfl
theorem q_197 : (Cond.instanceMethod y_SQ_addUnlike) ∈ Gw := gq (tg_1 (List.mem_of_getElem? (i := 197) (by decide +kernel))) rfl
theorem q_199 : (Cond.methodLink R_SQ 33 ⟨"PuzzlePress$Square", "scopeOf", "(I)J"⟩) ∈ Gw := gq (tg_1 (List.mem_of_getElem? (i := 199) (by decide +kernel))) rfl
theorem q_200 : (Cond.sameMethod "PuzzlePress$Square" "PuzzlePress$Kind" "scopeOf" "(I)J") ∈ Gw := gq (tg_1 (List.mem_of_getElem? (i := 200) (by decide +kernel))) rfl
theorem q_202 : (Cond.selects R_SQ ⟨"PuzzlePress$Square", "scopeOf", "(I)J"⟩ y_KD_scopeOf) ∈ Gw := gq (tg_1 (List.mem_of_getElem? (i := 202) (by decide +kernel))) rfl
theorem q_203 : (Cond.instanceMethod y_KD_scopeOf) ∈ Gw := gq (tg_1 (List.mem_of_getElem? (i := 203) (by decide +kernel))) rfl
theorem q_205 : (Cond.methodLink R_KD 31 ⟨"PuzzlePress$Kind", "allOf", "(I)J"⟩) ∈ Gw := gq (tg_1 (List.mem_of_getElem? (i := 205) (by decide +kernel))) rfl
theorem q_206 : (Cond.instanceMethod y_KD_allOf) ∈ Gw := gq (tg_1 (List.mem_of_getElem? (i := 206) (by decide +kernel))) rfl
theorem q_207 : (Cond.sameMethod "PuzzlePress$Kind" "PuzzlePress$Kind" "allOf" "(I)J") ∈ Gw := gq (tg_1 (List.mem_of_getElem? (i := 207) (by decide +kernel))) rfl
theorem q_208 : (Cond.selects R_PI ⟨"PuzzlePress$Kind", "allOf", "(I)J"⟩ y_KD_allOf) ∈ Gw := gq (tg_1 (List.mem_of_getElem? (i := 208) (by decide +kernel))) rfl
theorem q_209 : (Cond.selects R_SQ ⟨"PuzzlePress$Kind", "allOf", "(I)J"⟩ y_KD_allOf) ∈ Gw := gq (tg_1 (List.mem_of_getElem? (i := 209) (by decide +kernel))) rfl
theorem q_210 : (Cond.selects R_ST ⟨"PuzzlePress$Kind", "allOf", "(I)J"⟩ y_KD_allOf) ∈ Gw := gq (tg_1 (List.mem_of_getElem? (i := 210) (by decide +kernel))) rfl
theorem q_212 : (Cond.methodLink R_SQ 37 ⟨"PuzzlePress$Units", "begin", "(J)V"⟩) ∈ Gw := gq (tg_1 (List.mem_of_getElem? (i := 212) (by decide +kernel))) rfl
theorem q_213 : (Cond.instanceMethod y_UN_begin) ∈ Gw := gq (tg_1 (List.mem_of_getElem? (i := 213) (by decide +kernel))) rfl
theorem q_214 : (Cond.selects R_UN y_UN_begin y_UN_begin) ∈ Gw := gq (tg_1 (List.mem_of_getElem? (i := 214) (by decide +kernel))) rfl
theorem q_216 : (Cond.methodLink R_SQ 43 ⟨"PuzzlePress$Square", "addWays", "(LPuzzlePress$Units;IJIII)V"⟩) ∈ Gw := gq (tg_1 (List.mem_of_getElem? (i := 216) (by decide +kernel))) rfl
theorem q_218 : (Cond.instanceMethod y_SQ_addWays) ∈ Gw := gq (tg_1 (List.mem_of_getElem? (i := 218) (by decide +kernel))) rfl
theorem q_220 : (Cond.methodLink R_SQ 47 ⟨"PuzzlePress$Square", "obeys", "(III)Z"⟩) ∈ Gw := gq (tg_1 (List.mem_of_getElem? (i := 220) (by decide +kernel))) rfl
theorem q_222 : (Cond.instanceMethod y_SQ_obeys) ∈ Gw := gq (tg_1 (List.mem_of_getElem? (i := 222) (by decide +kernel))) rfl
theorem q_224 : (Cond.methodLink R_SQ 51 ⟨"PuzzlePress$Units", "addWay", "(J)V"⟩) ∈ Gw := gq (tg_1 (List.mem_of_getElem? (i := 224) (by decide +kernel))) rfl
theorem q_225 : (Cond.instanceMethod y_UN_addWay) ∈ Gw := gq (tg_1 (List.mem_of_getElem? (i := 225) (by decide +kernel))) rfl
theorem q_226 : (Cond.selects R_UN y_UN_addWay y_UN_addWay) ∈ Gw := gq (tg_1 (List.mem_of_getElem? (i := 226) (by decide +kernel))) rfl
theorem q_228 : (Cond.methodLink R_SQ 54 ⟨"PuzzlePress$Square", "firstOf", "(I)I"⟩) ∈ Gw := gq (tg_1 (List.mem_of_getElem? (i := 228) (by decide +kernel))) rfl
theorem q_229 : (Cond.sameMethod "PuzzlePress$Square" "PuzzlePress$Kind" "firstOf" "(I)I") ∈ Gw := gq (tg_1 (List.mem_of_getElem? (i := 229) (by decide +kernel))) rfl
theorem q_231 : (Cond.static y_KD_firstOf) ∈ Gw := gq (tg_1 (List.mem_of_getElem? (i := 231) (by decide +kernel))) rfl
theorem q_233 : (Cond.methodLink R_KD 43 ⟨"java/lang/Integer", "bitCount", "(I)I"⟩) ∈ Gw := gq (tg_1 (List.mem_of_getElem? (i := 233) (by decide +kernel))) rfl
theorem q_234 : (Cond.static y_JI_bitCount) ∈ Gw := gq (tg_1 (List.mem_of_getElem? (i := 234) (by decide +kernel))) rfl
theorem q_236 : (Cond.constant R_JI 265 (1431655765)) ∈ Gw := gq (tg_1 (List.mem_of_getElem? (i := 236) (by decide +kernel))) rfl
theorem q_237 : (Cond.constant R_JI 266 (858993459)) ∈ Gw := gq (tg_1 (List.mem_of_getElem? (i := 237) (by decide +kernel))) rfl
theorem q_238 : (Cond.constant R_JI 267 (252645135)) ∈ Gw := gq (tg_1 (List.mem_of_getElem? (i := 238) (by decide +kernel))) rfl
theorem q_239 : (Cond.methodLink R_SQ 64 ⟨"PuzzlePress$Square", "bit", "(II)J"⟩) ∈ Gw := gq (tg_1 (List.mem_of_getElem? (i := 239) (by decide +kernel))) rfl
theorem q_240 : (Cond.sameMethod "PuzzlePress$Square" "PuzzlePress$Kind" "bit" "(II)J") ∈ Gw := gq (tg_2 (List.mem_of_getElem? (i := 0) (by decide +kernel))) rfl
theorem q_242 : (Cond.selects R_SQ ⟨"PuzzlePress$Square", "bit", "(II)J"⟩ y_KD_bit) ∈ Gw := gq (tg_2 (List.mem_of_getElem? (i := 2) (by decide +kernel))) rfl
theorem q_243 : (Cond.instanceMethod y_KD_bit) ∈ Gw := gq (tg_2 (List.mem_of_getElem? (i := 3) (by decide +kernel))) rfl
theorem q_245 : (Cond.methodLink R_SQ 27 ⟨"PuzzlePress$Square", "columnCells", "(I)I"⟩) ∈ Gw := gq (tg_2 (List.mem_of_getElem? (i := 5) (by decide +kernel))) rfl
theorem q_246 : (Cond.sameMethod "PuzzlePress$Square" "PuzzlePress$Kind" "columnCells" "(I)I") ∈ Gw := gq (tg_2 (List.mem_of_getElem? (i := 6) (by decide +kernel))) rfl
theorem q_248 : (Cond.selects R_SQ ⟨"PuzzlePress$Square", "columnCells", "(I)I"⟩ y_KD_columnCells) ∈ Gw := gq (tg_2 (List.mem_of_getElem? (i := 8) (by decide +kernel))) rfl
theorem q_249 : (Cond.instanceMethod y_KD_columnCells) ∈ Gw := gq (tg_2 (List.mem_of_getElem? (i := 9) (by decide +kernel))) rfl
theorem q_251 : (Cond.selects R_ST ⟨"PuzzlePress$Kind", "addFixedUnits", "(LPuzzlePress$Units;)V"⟩ y_ST_addFixedUnits) ∈ Gw := gq (tg_2 (List.mem_of_getElem? (i := 11) (by decide +kernel))) rfl
theorem q_252 : (Cond.instanceMethod y_ST_addFixedUnits) ∈ Gw := gq (tg_2 (List.mem_of_getElem? (i := 12) (by decide +kernel))) rfl
theorem q_254 : (Cond.methodLink R_ST 17 ⟨"PuzzlePress$Stars", "rowCells", "(I)I"⟩) ∈ Gw := gq (tg_2 (List.mem_of_getElem? (i := 14) (by decide +kernel))) rfl
theorem q_255 : (Cond.sameMethod "PuzzlePress$Stars" "PuzzlePress$Kind" "rowCells" "(I)I") ∈ Gw := gq (tg_2 (List.mem_of_getElem? (i := 15) (by decide +kernel))) rfl
theorem q_256 : (Cond.selects R_ST ⟨"PuzzlePress$Stars", "rowCells", "(I)I"⟩ y_KD_rowCells) ∈ Gw := gq (tg_2 (List.mem_of_getElem? (i := 16) (by decide +kernel))) rfl
theorem q_257 : (Cond.methodLink R_ST 21 ⟨"PuzzlePress$Stars", "addJustOne", "(LPuzzlePress$Units;I)V"⟩) ∈ Gw := gq (tg_2 (List.mem_of_getElem? (i := 17) (by decide +kernel))) rfl
theorem q_259 : (Cond.instanceMethod y_ST_addJustOne) ∈ Gw := gq (tg_2 (List.mem_of_getElem? (i := 19) (by decide +kernel))) rfl
theorem q_261 : (Cond.methodLink R_ST 44 ⟨"PuzzlePress$Stars", "scopeOf", "(I)J"⟩) ∈ Gw := gq (tg_2 (List.mem_of_getElem? (i := 21) (by decide +kernel))) rfl
theorem q_262 : (Cond.sameMethod "PuzzlePress$Stars" "PuzzlePress$Kind" "scopeOf" "(I)J") ∈ Gw := gq (tg_2 (List.mem_of_getElem? (i := 22) (by decide +kernel))) rfl
theorem q_263 : (Cond.selects R_ST ⟨"PuzzlePress$Stars", "scopeOf", "(I)J"⟩ y_KD_scopeOf) ∈ Gw := gq (tg_2 (List.mem_of_getElem? (i := 23) (by decide +kernel))) rfl
theorem q_264 : (Cond.methodLink R_ST 48 ⟨"PuzzlePress$Units", "begin", "(J)V"⟩) ∈ Gw := gq (tg_2 (List.mem_of_getElem? (i := 24) (by decide +kernel))) rfl
theorem q_265 : (Cond.methodLink R_ST 54 ⟨"PuzzlePress$Stars", "wayWithStar", "(II)J"⟩) ∈ Gw := gq (tg_2 (List.mem_of_getElem? (i := 25) (by decide +kernel))) rfl
theorem q_267 : (Cond.instanceMethod y_ST_wayWithStar) ∈ Gw := gq (tg_2 (List.mem_of_getElem? (i := 27) (by decide +kernel))) rfl
theorem q_269 : (Cond.methodLink R_ST 61 ⟨"PuzzlePress$Stars", "bit", "(II)J"⟩) ∈ Gw := gq (tg_2 (List.mem_of_getElem? (i := 29) (by decide +kernel))) rfl
theorem q_270 : (Cond.sameMethod "PuzzlePress$Stars" "PuzzlePress$Kind" "bit" "(II)J") ∈ Gw := gq (tg_2 (List.mem_of_getElem? (i := 30) (by decide +kernel))) rfl
theorem q_271 : (Cond.selects R_ST ⟨"PuzzlePress$Stars", "bit", "(II)J"⟩ y_KD_bit) ∈ Gw := gq (tg_2 (List.mem_of_getElem? (i := 31) (by decide +kernel))) rfl
theorem q_272 : (Cond.methodLink R_ST 58 ⟨"PuzzlePress$Units", "addWay", "(J)V"⟩) ∈ Gw := gq (tg_2 (List.mem_of_getElem? (i := 32) (by decide +kernel))) rfl
theorem q_273 : (Cond.methodLink R_ST 25 ⟨"PuzzlePress$Stars", "columnCells", "(I)I"⟩) ∈ Gw := gq (tg_2 (List.mem_of_getElem? (i := 33) (by decide +kernel))) rfl
theorem q_274 : (Cond.sameMethod "PuzzlePress$Stars" "PuzzlePress$Kind" "columnCells" "(I)I") ∈ Gw := gq (tg_2 (List.mem_of_getElem? (i := 34) (by decide +kernel))) rfl
theorem q_275 : (Cond.selects R_ST ⟨"PuzzlePress$Stars", "columnCells", "(I)I"⟩ y_KD_columnCells) ∈ Gw := gq (tg_2 (List.mem_of_getElem? (i := 35) (by decide +kernel))) rfl
theorem q_276 : (Cond.methodLink R_ST 28 ⟨"PuzzlePress$Stars", "touch", "(II)Z"⟩) ∈ Gw := gq (tg_2 (List.mem_of_getElem? (i := 36) (by decide +kernel))) rfl
theorem q_277 : (Cond.static y_ST_touch) ∈ Gw := gq (tg_2 (List.mem_of_getElem? (i := 37) (by decide +kernel))) rfl
theorem q_282 : (Cond.methodLink R_ST 32 ⟨"PuzzlePress$Stars", "addNotBoth", "(LPuzzlePress$Units;II)V"⟩) ∈ Gw := gq (tg_2 (List.mem_of_getElem? (i := 42) (by decide +kernel))) rfl
theorem q_284 : (Cond.instanceMethod y_ST_addNotBoth) ∈ Gw := gq (tg_2 (List.mem_of_getElem? (i := 44) (by decide +kernel))) rfl
theorem q_286 : (Cond.methodLink R_ST 64 ⟨"PuzzlePress$Stars", "allOf", "(I)J"⟩) ∈ Gw := gq (tg_2 (List.mem_of_getElem? (i := 46) (by decide +kernel))) rfl
theorem q_287 : (Cond.sameMethod "PuzzlePress$Stars" "PuzzlePress$Kind" "allOf" "(I)J") ∈ Gw := gq (tg_2 (List.mem_of_getElem? (i := 47) (by decide +kernel))) rfl
theorem q_289 : (Cond.selects R_ST ⟨"PuzzlePress$Stars", "allOf", "(I)J"⟩ y_KD_allOf) ∈ Gw := gq (tg_2 (List.mem_of_getElem? (i := 49) (by decide +kernel))) rfl
theorem q_290 : (Cond.methodLink R_PP 185 ⟨"PuzzlePress$Units", "fixAll", "()V"⟩) ∈ Gw := gq (tg_2 (List.mem_of_getElem? (i := 50) (by decide +kernel))) rfl
theorem q_291 : (Cond.instanceMethod y_UN_fixAll) ∈ Gw := gq (tg_2 (List.mem_of_getElem? (i := 51) (by decide +kernel))) rfl
theorem q_292 : (Cond.selects R_UN y_UN_fixAll y_UN_fixAll) ∈ Gw := gq (tg_2 (List.mem_of_getElem? (i := 52) (by decide +kernel))) rfl
theorem q_294 : (Cond.methodLink R_PP 74 ⟨"PuzzlePress", "renewUnits", "()V"⟩) ∈ Gw := gq (tg_2 (List.mem_of_getElem? (i := 54) (by decide +kernel))) rfl
theorem q_296 : (Cond.instanceMethod y_PP_renewUnits) ∈ Gw := gq (tg_2 (List.mem_of_getElem? (i := 56) (by decide +kernel))) rfl
theorem q_298 : (Cond.methodLink R_PP 188 ⟨"PuzzlePress$Units", "dropUnfixed", "()V"⟩) ∈ Gw := gq (tg_2 (List.mem_of_getElem? (i := 58) (by decide +kernel))) rfl
theorem q_299 : (Cond.instanceMethod y_UN_dropUnfixed) ∈ Gw := gq (tg_2 (List.mem_of_getElem? (i := 59) (by decide +kernel))) rfl
theorem q_300 : (Cond.selects R_UN y_UN_dropUnfixed y_UN_dropUnfixed) ∈ Gw := gq (tg_2 (List.mem_of_getElem? (i := 60) (by decide +kernel))) rfl
theorem q_302 : (Cond.methodLink R_PP 191 ⟨"PuzzlePress$Kind", "addOtherUnits", "(LPuzzlePress$Units;)V"⟩) ∈ Gw := gq (tg_2 (List.mem_of_getElem? (i := 62) (by decide +kernel))) rfl
theorem q_304 : (Cond.sameMethod "PuzzlePress$Kind" "PuzzlePress$Kind" "addOtherUnits" "(LPuzzlePress$Units;)V") ∈ Gw := gq (tg_2 (List.mem_of_getElem? (i := 64) (by decide +kernel))) rfl
theorem q_305 : (Cond.selects R_PI ⟨"PuzzlePress$Kind", "addOtherUnits", "(LPuzzlePress$Units;)V"⟩ y_PI_addOtherUnits) ∈ Gw := gq (tg_2 (List.mem_of_getElem? (i := 65) (by decide +kernel))) rfl
theorem q_306 : (Cond.instanceMethod y_PI_addOtherUnits) ∈ Gw := gq (tg_2 (List.mem_of_getElem? (i := 66) (by decide +kernel))) rfl
theorem q_308 : (Cond.methodLink R_PI 20 ⟨"PuzzlePress$Picture", "rowCells", "(I)I"⟩) ∈ Gw := gq (tg_2 (List.mem_of_getElem? (i := 68) (by decide +kernel))) rfl
theorem q_309 : (Cond.sameMethod "PuzzlePress$Picture" "PuzzlePress$Kind" "rowCells" "(I)I") ∈ Gw := gq (tg_2 (List.mem_of_getElem? (i := 69) (by decide +kernel))) rfl
theorem q_310 : (Cond.selects R_PI ⟨"PuzzlePress$Picture", "rowCells", "(I)I"⟩ y_KD_rowCells) ∈ Gw := gq (tg_2 (List.mem_of_getElem? (i := 70) (by decide +kernel))) rfl
theorem q_311 : (Cond.methodLink R_PI 23 ⟨"PuzzlePress$Picture", "columnCells", "(I)I"⟩) ∈ Gw := gq (tg_2 (List.mem_of_getElem? (i := 71) (by decide +kernel))) rfl
theorem q_312 : (Cond.sameMethod "PuzzlePress$Picture" "PuzzlePress$Kind" "columnCells" "(I)I") ∈ Gw := gq (tg_2 (List.mem_of_getElem? (i := 72) (by decide +kernel))) rfl
theorem q_313 : (Cond.selects R_PI ⟨"PuzzlePress$Picture", "columnCells", "(I)I"⟩ y_KD_columnCells) ∈ Gw := gq (tg_2 (List.mem_of_getElem? (i := 73) (by decide +kernel))) rfl
theorem q_314 : (Cond.methodLink R_PI 26 ⟨"PuzzlePress$Picture", "scopeOf", "(I)J"⟩) ∈ Gw := gq (tg_2 (List.mem_of_getElem? (i := 74) (by decide +kernel))) rfl
theorem q_315 : (Cond.sameMethod "PuzzlePress$Picture" "PuzzlePress$Kind" "scopeOf" "(I)J") ∈ Gw := gq (tg_2 (List.mem_of_getElem? (i := 75) (by decide +kernel))) rfl
theorem q_316 : (Cond.selects R_PI ⟨"PuzzlePress$Picture", "scopeOf", "(I)J"⟩ y_KD_scopeOf) ∈ Gw := gq (tg_2 (List.mem_of_getElem? (i := 76) (by decide +kernel))) rfl
theorem q_317 : (Cond.methodLink R_PI 30 ⟨"PuzzlePress$Units", "begin", "(J)V"⟩) ∈ Gw := gq (tg_2 (List.mem_of_getElem? (i := 77) (by decide +kernel))) rfl
theorem q_318 : (Cond.methodLink R_PI 36 ⟨"PuzzlePress$Picture", "wayOf", "(II)J"⟩) ∈ Gw := gq (tg_2 (List.mem_of_getElem? (i := 78) (by decide +kernel))) rfl
theorem q_320 : (Cond.instanceMethod y_PI_wayOf) ∈ Gw := gq (tg_2 (List.mem_of_getElem? (i := 80) (by decide +kernel))) rfl
theorem q_322 : (Cond.methodLink R_PI 43 ⟨"PuzzlePress$Picture", "bit", "(II)J"⟩) ∈ Gw := gq (tg_2 (List.mem_of_getElem? (i := 82) (by decide +kernel))) rfl
theorem q_323 : (Cond.sameMethod "PuzzlePress$Picture" "PuzzlePress$Kind" "bit" "(II)J") ∈ Gw := gq (tg_2 (List.mem_of_getElem? (i := 83) (by decide +kernel))) rfl
theorem q_324 : (Cond.selects R_PI ⟨"PuzzlePress$Picture", "bit", "(II)J"⟩ y_KD_bit) ∈ Gw := gq (tg_2 (List.mem_of_getElem? (i := 84) (by decide +kernel))) rfl
theorem q_325 : (Cond.methodLink R_PI 40 ⟨"PuzzlePress$Units", "addWay", "(J)V"⟩) ∈ Gw := gq (tg_2 (List.mem_of_getElem? (i := 85) (by decide +kernel))) rfl
theorem q_326 : (Cond.selects R_SQ ⟨"PuzzlePress$Kind", "addOtherUnits", "(LPuzzlePress$Units;)V"⟩ y_SQ_addOtherUnits) ∈ Gw := gq (tg_2 (List.mem_of_getElem? (i := 86) (by decide +kernel))) rfl
theorem q_327 : (Cond.instanceMethod y_SQ_addOtherUnits) ∈ Gw := gq (tg_2 (List.mem_of_getElem? (i := 87) (by decide +kernel))) rfl
theorem q_329 : (Cond.methodLink R_SQ 30 ⟨"PuzzlePress$Square", "membersOf", "(I)I"⟩) ∈ Gw := gq (tg_2 (List.mem_of_getElem? (i := 89) (by decide +kernel))) rfl
theorem q_330 : (Cond.sameMethod "PuzzlePress$Square" "PuzzlePress$Kind" "membersOf" "(I)I") ∈ Gw := gq (tg_2 (List.mem_of_getElem? (i := 90) (by decide +kernel))) rfl
theorem q_332 : (Cond.selects R_SQ ⟨"PuzzlePress$Square", "membersOf", "(I)I"⟩ y_KD_membersOf) ∈ Gw := gq (tg_2 (List.mem_of_getElem? (i := 92) (by decide +kernel))) rfl
theorem q_333 : (Cond.instanceMethod y_KD_membersOf) ∈ Gw := gq (tg_2 (List.mem_of_getElem? (i := 93) (by decide +kernel))) rfl
theorem q_335 : (Cond.selects R_ST ⟨"PuzzlePress$Kind", "addOtherUnits", "(LPuzzlePress$Units;)V"⟩ y_ST_addOtherUnits) ∈ Gw := gq (tg_2 (List.mem_of_getElem? (i := 95) (by decide +kernel))) rfl
theorem q_336 : (Cond.instanceMethod y_ST_addOtherUnits) ∈ Gw := gq (tg_2 (List.mem_of_getElem? (i := 96) (by decide +kernel))) rfl
theorem q_338 : (Cond.methodLink R_ST 36 ⟨"PuzzlePress$Stars", "membersOf", "(I)I"⟩) ∈ Gw := gq (tg_2 (List.mem_of_getElem? (i := 98) (by decide +kernel))) rfl
theorem q_339 : (Cond.sameMethod "PuzzlePress$Stars" "PuzzlePress$Kind" "membersOf" "(I)I") ∈ Gw := gq (tg_2 (List.mem_of_getElem? (i := 99) (by decide +kernel))) rfl
theorem q_340 : (Cond.selects R_ST ⟨"PuzzlePress$Stars", "membersOf", "(I)I"⟩ y_KD_membersOf) ∈ Gw := gq (tg_2 (List.mem_of_getElem? (i := 100) (by decide +kernel))) rfl
theorem q_341 : (Cond.methodLink R_PP 115 ⟨"PuzzlePress", "atFirst", "()J"⟩) ∈ Gw := gq (tg_2 (List.mem_of_getElem? (i := 101) (by decide +kernel))) rfl
theorem q_343 : (Cond.instanceMethod y_PP_atFirst) ∈ Gw := gq (tg_2 (List.mem_of_getElem? (i := 103) (by decide +kernel))) rfl
theorem q_345 : (Cond.methodLink R_PP 194 ⟨"PuzzlePress$Kind", "allOf", "(I)J"⟩) ∈ Gw := gq (tg_2 (List.mem_of_getElem? (i := 105) (by decide +kernel))) rfl
theorem q_346 : (Cond.methodLink R_PP 198 ⟨"PuzzlePress$Kind", "bit", "(II)J"⟩) ∈ Gw := gq (tg_2 (List.mem_of_getElem? (i := 106) (by decide +kernel))) rfl
theorem q_347 : (Cond.fieldLink R_PP 10 "PuzzlePress" "picture" "LPuzzlePress$Picture;") ∈ Gw := gq (tg_2 (List.mem_of_getElem? (i := 107) (by decide +kernel))) rfl
theorem q_348 : (Cond.fieldLink R_PP 19 "PuzzlePress" "square" "LPuzzlePress$Square;") ∈ Gw := gq (tg_2 (List.mem_of_getElem? (i := 108) (by decide +kernel))) rfl
theorem q_349 : (Cond.fieldLink R_PP 26 "PuzzlePress" "stars" "LPuzzlePress$Stars;") ∈ Gw := gq (tg_2 (List.mem_of_getElem? (i := 109) (by decide +kernel))) rfl
theorem q_350 : (Cond.fieldLink R_PP 33 "PuzzlePress" "reasoner" "LPuzzlePress$Reasoner;") ∈ Gw := gq (tg_2 (List.mem_of_getElem? (i := 110) (by decide +kernel))) rfl
theorem q_351 : (Cond.fieldLink R_PP 37 "PuzzlePress" "givens" "[I") ∈ Gw := gq (tg_2 (List.mem_of_getElem? (i := 111) (by decide +kernel))) rfl
theorem q_352 : (Cond.fieldLink R_PP 41 "PuzzlePress" "now" "LPuzzlePress$Kind;") ∈ Gw := gq (tg_2 (List.mem_of_getElem? (i := 112) (by decide +kernel))) rfl
theorem q_353 : (Cond.fieldLink R_PP 45 "PuzzlePress" "kindNumber" "I") ∈ Gw := gq (tg_2 (List.mem_of_getElem? (i := 113) (by decide +kernel))) rfl
theorem q_354 : (Cond.fieldLink R_PP 119 "PuzzlePress" "left" "J") ∈ Gw := gq (tg_2 (List.mem_of_getElem? (i := 114) (by decide +kernel))) rfl
theorem q_380 : (Cond.methodLink R_PP 123 ⟨"PuzzlePress$Reasoner", "countFillings", "(LPuzzlePress$Kind;JI)I"⟩) ∈ Gw := gq (tg_2 (List.mem_of_getElem? (i := 140) (by decide +kernel))) rfl
theorem q_381 : (Cond.instanceMethod y_RE_countFillings) ∈ Gw := gq (tg_2 (List.mem_of_getElem? (i := 141) (by decide +kernel))) rfl
theorem q_382 : (Cond.selects R_RE y_RE_countFillings y_RE_countFillings) ∈ Gw := gq (tg_2 (List.mem_of_getElem? (i := 142) (by decide +kernel))) rfl
theorem q_384 : (Cond.methodLink R_RE 62 ⟨"PuzzlePress$Units", "haveWays", "()Z"⟩) ∈ Gw := gq (tg_2 (List.mem_of_getElem? (i := 144) (by decide +kernel))) rfl
theorem q_385 : (Cond.instanceMethod y_UN_haveWays) ∈ Gw := gq (tg_2 (List.mem_of_getElem? (i := 145) (by decide +kernel))) rfl
theorem q_386 : (Cond.selects R_UN y_UN_haveWays y_UN_haveWays) ∈ Gw := gq (tg_2 (List.mem_of_getElem? (i := 146) (by decide +kernel))) rfl
theorem q_388 : (Cond.constantLong R_RE 18 (-1)) ∈ Gw := gq (tg_2 (List.mem_of_getElem? (i := 148) (by decide +kernel))) rfl
theorem q_389 : (Cond.methodLink R_RE 66 ⟨"PuzzlePress$Reasoner", "search", "(LPuzzlePress$Kind;JJII)V"⟩) ∈ Gw := gq (tg_2 (List.mem_of_getElem? (i := 149) (by decide +kernel))) rfl
theorem q_391 : (Cond.instanceMethod y_RE_search) ∈ Gw := gq (tg_2 (List.mem_of_getElem? (i := 151) (by decide +kernel))) rfl
theorem q_393 : (Cond.methodLink R_RE 20 ⟨"PuzzlePress$Units", "narrow", "(JJ)J"⟩) ∈ Gw := gq (tg_2 (List.mem_of_getElem? (i := 153) (by decide +kernel))) rfl
theorem q_394 : (Cond.instanceMethod y_UN_narrow) ∈ Gw := gq (tg_2 (List.mem_of_getElem? (i := 154) (by decide +kernel))) rfl
theorem q_395 : (Cond.selects R_UN y_UN_narrow y_UN_narrow) ∈ Gw := gq (tg_2 (List.mem_of_getElem? (i := 155) (by decide +kernel))) rfl
theorem q_397 : (Cond.methodLink R_UN 29 ⟨"PuzzlePress$Units", "keptBy", "(IJ)J"⟩) ∈ Gw := gq (tg_2 (List.mem_of_getElem? (i := 157) (by decide +kernel))) rfl
theorem q_399 : (Cond.instanceMethod y_UN_keptBy) ∈ Gw := gq (tg_2 (List.mem_of_getElem? (i := 159) (by decide +kernel))) rfl
theorem q_401 : (Cond.constantLong R_UN 33 (-1)) ∈ Gw := gq (tg_2 (List.mem_of_getElem? (i := 161) (by decide +kernel))) rfl
theorem q_402 : (Cond.methodLink R_RE 74 ⟨"PuzzlePress$Reasoner", "firstOpenCell", "(LPuzzlePress$Kind;J)I"⟩) ∈ Gw := gq (tg_2 (List.mem_of_getElem? (i := 162) (by decide +kernel))) rfl
theorem q_403 : (Cond.static y_RE_firstOpenCell) ∈ Gw := gq (tg_2 (List.mem_of_getElem? (i := 163) (by decide +kernel))) rfl
theorem q_405 : (Cond.methodLink R_RE 70 ⟨"PuzzlePress$Kind", "allOf", "(I)J"⟩) ∈ Gw := gq (tg_2 (List.mem_of_getElem? (i := 165) (by decide +kernel))) rfl
theorem q_406 : (Cond.methodLink R_RE 78 ⟨"java/lang/Long", "bitCount", "(J)I"⟩) ∈ Gw := gq (tg_2 (List.mem_of_getElem? (i := 166) (by decide +kernel))) rfl
theorem q_407 : (Cond.static y_JL_bitCount) ∈ Gw := gq (tg_2 (List.mem_of_getElem? (i := 167) (by decide +kernel))) rfl
theorem q_409 : (Cond.constantLong R_JL 314 (6148914691236517205)) ∈ Gw := gq (tg_2 (List.mem_of_getElem? (i := 169) (by decide +kernel))) rfl
theorem q_410 : (Cond.constantLong R_JL 316 (3689348814741910323)) ∈ Gw := gq (tg_2 (List.mem_of_getElem? (i := 170) (by decide +kernel))) rfl
theorem q_411 : (Cond.constantLong R_JL 318 (1085102592571150095)) ∈ Gw := gq (tg_2 (List.mem_of_getElem? (i := 171) (by decide +kernel))) rfl
theorem q_412 : (Cond.methodLink R_RE 51 ⟨"PuzzlePress$Kind", "bit", "(II)J"⟩) ∈ Gw := gq (tg_2 (List.mem_of_getElem? (i := 172) (by decide +kernel))) rfl
theorem q_417 : (Cond.methodLink R_PP 134 ⟨"java/lang/Long", "bitCount", "(J)I"⟩) ∈ Gw := gq (tg_2 (List.mem_of_getElem? (i := 177) (by decide +kernel))) rfl
theorem q_422 : (Cond.methodLink R_PP 150 ⟨"PuzzlePress$Reasoner", "firstByLines", "(J)J"⟩) ∈ Gw := gq (tg_2 (List.mem_of_getElem? (i := 182) (by decide +kernel))) rfl
theorem q_423 : (Cond.instanceMethod y_RE_firstByLines) ∈ Gw := gq (tg_2 (List.mem_of_getElem? (i := 183) (by decide +kernel))) rfl
theorem q_424 : (Cond.selects R_RE y_RE_firstByLines y_RE_firstByLines) ∈ Gw := gq (tg_2 (List.mem_of_getElem? (i := 184) (by decide +kernel))) rfl
theorem q_426 : (Cond.methodLink R_RE 32 ⟨"PuzzlePress$Units", "keptAtOnce", "(J)J"⟩) ∈ Gw := gq (tg_2 (List.mem_of_getElem? (i := 186) (by decide +kernel))) rfl
theorem q_427 : (Cond.instanceMethod y_UN_keptAtOnce) ∈ Gw := gq (tg_2 (List.mem_of_getElem? (i := 187) (by decide +kernel))) rfl
theorem q_428 : (Cond.selects R_UN y_UN_keptAtOnce y_UN_keptAtOnce) ∈ Gw := gq (tg_2 (List.mem_of_getElem? (i := 188) (by decide +kernel))) rfl
theorem q_430 : (Cond.methodLink R_PP 153 ⟨"PuzzlePress$Reasoner", "firstBySupposing", "(LPuzzlePress$Kind;J)J"⟩) ∈ Gw := gq (tg_2 (List.mem_of_getElem? (i := 190) (by decide +kernel))) rfl
theorem q_431 : (Cond.instanceMethod y_RE_firstBySupposing) ∈ Gw := gq (tg_2 (List.mem_of_getElem? (i := 191) (by decide +kernel))) rfl
theorem q_432 : (Cond.selects R_RE y_RE_firstBySupposing y_RE_firstBySupposing) ∈ Gw := gq (tg_2 (List.mem_of_getElem? (i := 192) (by decide +kernel))) rfl
theorem q_434 : (Cond.methodLink R_RE 47 ⟨"PuzzlePress$Reasoner", "isRefuted", "(LPuzzlePress$Kind;JII)Z"⟩) ∈ Gw := gq (tg_2 (List.mem_of_getElem? (i := 194) (by decide +kernel))) rfl
theorem q_436 : (Cond.instanceMethod y_RE_isRefuted) ∈ Gw := gq (tg_2 (List.mem_of_getElem? (i := 196) (by decide +kernel))) rfl
theorem q_438 : (Cond.constantLong R_PP 156 (-1)) ∈ Gw := gq (tg_2 (List.mem_of_getElem? (i := 198) (by decide +kernel))) rfl
theorem q_439 : (Cond.methodLink R_PP 158 ⟨"PuzzlePress$Kind", "cellOf", "(J)I"⟩) ∈ Gw := gq (tg_2 (List.mem_of_getElem? (i := 199) (by decide +kernel))) rfl
theorem q_440 : (Cond.instanceMethod y_KD_cellOf) ∈ Gw := gq (tg_2 (List.mem_of_getElem? (i := 200) (by decide +kernel))) rfl
theorem q_441 : (Cond.sameMethod "PuzzlePress$Kind" "PuzzlePress$Kind" "cellOf" "(J)I") ∈ Gw := gq (tg_2 (List.mem_of_getElem? (i := 201) (by decide +kernel))) rfl
theorem q_442 : (Cond.selects R_PI ⟨"PuzzlePress$Kind", "cellOf", "(J)I"⟩ y_KD_cellOf) ∈ Gw := gq (tg_2 (List.mem_of_getElem? (i := 202) (by decide +kernel))) rfl
theorem q_443 : (Cond.selects R_SQ ⟨"PuzzlePress$Kind", "cellOf", "(J)I"⟩ y_KD_cellOf) ∈ Gw := gq (tg_2 (List.mem_of_getElem? (i := 203) (by decide +kernel))) rfl
theorem q_444 : (Cond.selects R_ST ⟨"PuzzlePress$Kind", "cellOf", "(J)I"⟩ y_KD_cellOf) ∈ Gw := gq (tg_2 (List.mem_of_getElem? (i := 204) (by decide +kernel))) rfl
theorem q_446 : (Cond.methodLink R_PP 130 ⟨"PuzzlePress$Kind", "valueIn", "(JI)I"⟩) ∈ Gw := gq (tg_2 (List.mem_of_getElem? (i := 206) (by decide +kernel))) rfl
theorem q_447 : (Cond.instanceMethod y_KD_valueIn) ∈ Gw := gq (tg_2 (List.mem_of_getElem? (i := 207) (by decide +kernel))) rfl
theorem q_448 : (Cond.sameMethod "PuzzlePress$Kind" "PuzzlePress$Kind" "valueIn" "(JI)I") ∈ Gw := gq (tg_2 (List.mem_of_getElem? (i := 208) (by decide +kernel))) rfl
theorem q_449 : (Cond.selects R_PI ⟨"PuzzlePress$Kind", "valueIn", "(JI)I"⟩ y_KD_valueIn) ∈ Gw := gq (tg_2 (List.mem_of_getElem? (i := 209) (by decide +kernel))) rfl
theorem q_450 : (Cond.selects R_SQ ⟨"PuzzlePress$Kind", "valueIn", "(JI)I"⟩ y_KD_valueIn) ∈ Gw := gq (tg_2 (List.mem_of_getElem? (i := 210) (by decide +kernel))) rfl
theorem q_451 : (Cond.selects R_ST ⟨"PuzzlePress$Kind", "valueIn", "(JI)I"⟩ y_KD_valueIn) ∈ Gw := gq (tg_2 (List.mem_of_getElem? (i := 211) (by decide +kernel))) rfl
theorem q_453 : (Cond.methodLink R_KD 35 ⟨"PuzzlePress$Kind", "valuesIn", "(JI)I"⟩) ∈ Gw := gq (tg_2 (List.mem_of_getElem? (i := 213) (by decide +kernel))) rfl
theorem q_454 : (Cond.instanceMethod y_KD_valuesIn) ∈ Gw := gq (tg_2 (List.mem_of_getElem? (i := 214) (by decide +kernel))) rfl
theorem q_455 : (Cond.sameMethod "PuzzlePress$Kind" "PuzzlePress$Kind" "valuesIn" "(JI)I") ∈ Gw := gq (tg_2 (List.mem_of_getElem? (i := 215) (by decide +kernel))) rfl
theorem q_456 : (Cond.selects R_PI ⟨"PuzzlePress$Kind", "valuesIn", "(JI)I"⟩ y_KD_valuesIn) ∈ Gw := gq (tg_2 (List.mem_of_getElem? (i := 216) (by decide +kernel))) rfl
theorem q_457 : (Cond.selects R_SQ ⟨"PuzzlePress$Kind", "valuesIn", "(JI)I"⟩ y_KD_valuesIn) ∈ Gw := gq (tg_2 (List.mem_of_getElem? (i := 217) (by decide +kernel))) rfl
theorem q_458 : (Cond.selects R_ST ⟨"PuzzlePress$Kind", "valuesIn", "(JI)I"⟩ y_KD_valuesIn) ∈ Gw := gq (tg_2 (List.mem_of_getElem? (i := 218) (by decide +kernel))) rfl
theorem q_460 : (Cond.methodLink R_KD 39 ⟨"PuzzlePress$Kind", "firstOf", "(I)I"⟩) ∈ Gw := gq (tg_2 (List.mem_of_getElem? (i := 220) (by decide +kernel))) rfl
theorem q_465 : (Cond.methodLink R_PP 139 ⟨"PuzzlePress$Reasoner", "byLines", "(J)J"⟩) ∈ Gw := gq (tg_2 (List.mem_of_getElem? (i := 225) (by decide +kernel))) rfl
theorem q_466 : (Cond.instanceMethod y_RE_byLines) ∈ Gw := gq (tg_2 (List.mem_of_getElem? (i := 226) (by decide +kernel))) rfl
theorem q_467 : (Cond.selects R_RE y_RE_byLines y_RE_byLines) ∈ Gw := gq (tg_2 (List.mem_of_getElem? (i := 227) (by decide +kernel))) rfl
theorem q_469 : (Cond.methodLink R_PP 143 ⟨"PuzzlePress$Reasoner", "byBoth", "(LPuzzlePress$Kind;J)J"⟩) ∈ Gw := gq (tg_2 (List.mem_of_getElem? (i := 229) (by decide +kernel))) rfl
theorem q_470 : (Cond.instanceMethod y_RE_byBoth) ∈ Gw := gq (tg_2 (List.mem_of_getElem? (i := 230) (by decide +kernel))) rfl
theorem q_471 : (Cond.selects R_RE y_RE_byBoth y_RE_byBoth) ∈ Gw := gq (tg_2 (List.mem_of_getElem? (i := 231) (by decide +kernel))) rfl
theorem q_473 : (Cond.methodLink R_RE 24 ⟨"PuzzlePress$Reasoner", "byLines", "(J)J"⟩) ∈ Gw := gq (tg_2 (List.mem_of_getElem? (i := 233) (by decide +kernel))) rfl
theorem q_474 : (Cond.methodLink R_RE 28 ⟨"PuzzlePress$Reasoner", "supposeEach", "(LPuzzlePress$Kind;J)J"⟩) ∈ Gw := gq (tg_2 (List.mem_of_getElem? (i := 234) (by decide +kernel))) rfl
theorem q_476 : (Cond.instanceMethod y_RE_supposeEach) ∈ Gw := gq (tg_2 (List.mem_of_getElem? (i := 236) (by decide +kernel))) rfl
theorem q_734 : (Cond.methodLink R_MO 116 ⟨"PuzzlePressModel", "apart", "(II)I"⟩) ∈ Gw := gq (tg_4 (List.mem_of_getElem? (i := 14) (by decide +kernel))) rfl
theorem q_735 : (Cond.static y_MO_apart) ∈ Gw := gq (tg_4 (List.mem_of_getElem? (i := 15) (by decide +kernel))) rfl
theorem q_737 : (Cond.methodLink R_MO 79 ⟨"PuzzlePressModel", "begin", "(I)V"⟩) ∈ Gw := gq (tg_4 (List.mem_of_getElem? (i := 17) (by decide +kernel))) rfl
theorem q_739 : (Cond.instanceMethod y_MO_begin) ∈ Gw := gq (tg_4 (List.mem_of_getElem? (i := 19) (by decide +kernel))) rfl
theorem q_741 : (Cond.methodLink R_MO 89 ⟨"PuzzlePressModel", "refresh", "()V"⟩) ∈ Gw := gq (tg_4 (List.mem_of_getElem? (i := 21) (by decide +kernel))) rfl
theorem q_743 : (Cond.instanceMethod y_MO_refresh) ∈ Gw := gq (tg_4 (List.mem_of_getElem? (i := 23) (by decide +kernel))) rfl
theorem q_745 : (Cond.methodLink R_MO 92 ⟨"PuzzlePressModel", "allValues", "()I"⟩) ∈ Gw := gq (tg_4 (List.mem_of_getElem? (i := 25) (by decide +kernel))) rfl
theorem q_747 : (Cond.instanceMethod y_MO_allValues) ∈ Gw := gq (tg_4 (List.mem_of_getElem? (i := 27) (by decide +kernel))) rfl
theorem q_749 : (Cond.fieldLink R_MO 83 "PuzzlePressModel" "thrown" "I") ∈ Gw := gq (tg_4 (List.mem_of_getElem? (i := 29) (by decide +kernel))) rfl
theorem q_750 : (Cond.fieldLink R_MO 86 "PuzzlePressModel" "kind" "I") ∈ Gw := gq (tg_4 (List.mem_of_getElem? (i := 30) (by decide +kernel))) rfl
theorem q_751 : (Cond.fieldLink R_MO 7 "PuzzlePressModel" "cells" "I") ∈ Gw := gq (tg_4 (List.mem_of_getElem? (i := 31) (by decide +kernel))) rfl
theorem q_752 : (Cond.fieldLink R_MO 13 "PuzzlePressModel" "wide" "I") ∈ Gw := gq (tg_4 (List.mem_of_getElem? (i := 32) (by decide +kernel))) rfl
theorem q_753 : (Cond.fieldLink R_MO 16 "PuzzlePressModel" "clues" "[I") ∈ Gw := gq (tg_4 (List.mem_of_getElem? (i := 33) (by decide +kernel))) rfl
theorem q_754 : (Cond.fieldLink R_MO 20 "PuzzlePressModel" "groups" "[I") ∈ Gw := gq (tg_4 (List.mem_of_getElem? (i := 34) (by decide +kernel))) rfl
theorem q_755 : (Cond.fieldLink R_MO 23 "PuzzlePressModel" "rules" "[I") ∈ Gw := gq (tg_4 (List.mem_of_getElem? (i := 35) (by decide +kernel))) rfl
theorem q_756 : (Cond.fieldLink R_MO 26 "PuzzlePressModel" "numbers" "[I") ∈ Gw := gq (tg_4 (List.mem_of_getElem? (i := 36) (by decide +kernel))) rfl
theorem q_757 : (Cond.fieldLink R_MO 29 "PuzzlePressModel" "givens" "[I") ∈ Gw := gq (tg_4 (List.mem_of_getElem? (i := 37) (by decide +kernel))) rfl
theorem q_758 : (Cond.fieldLink R_MO 32 "PuzzlePressModel" "candidates" "[I") ∈ Gw := gq (tg_4 (List.mem_of_getElem? (i := 38) (by decide +kernel))) rfl
theorem q_759 : (Cond.fieldLink R_MO 35 "PuzzlePressModel" "now" "[I") ∈ Gw := gq (tg_4 (List.mem_of_getElem? (i := 39) (by decide +kernel))) rfl
theorem q_760 : (Cond.fieldLink R_MO 38 "PuzzlePressModel" "lost" "[I") ∈ Gw := gq (tg_4 (List.mem_of_getElem? (i := 40) (by decide +kernel))) rfl
theorem q_761 : (Cond.fieldLink R_MO 41 "PuzzlePressModel" "kept" "[I") ∈ Gw := gq (tg_4 (List.mem_of_getElem? (i := 41) (by decide +kernel))) rfl
theorem q_762 : (Cond.fieldLink R_MO 141 "PuzzlePressModel" "many" "I") ∈ Gw := gq (tg_4 (List.mem_of_getElem? (i := 42) (by decide +kernel))) rfl
theorem q_763 : (Cond.fieldLink R_MO 44 "PuzzlePressModel" "unit" "[I") ∈ Gw := gq (tg_4 (List.mem_of_getElem? (i := 43) (by decide +kernel))) rfl
theorem q_764 : (Cond.fieldLink R_MO 47 "PuzzlePressModel" "can" "[I") ∈ Gw := gq (tg_4 (List.mem_of_getElem? (i := 44) (by decide +kernel))) rfl
theorem q_765 : (Cond.fieldLink R_MO 129 "PuzzlePressModel" "found" "I") ∈ Gw := gq (tg_4 (List.mem_of_getElem? (i := 45) (by decide +kernel))) rfl
theorem q_766 : (Cond.fieldLink R_MO 50 "PuzzlePressModel" "first" "[I") ∈ Gw := gq (tg_4 (List.mem_of_getElem? (i := 46) (by decide +kernel))) rfl
theorem q_767 : (Cond.fieldLink R_MO 53 "PuzzlePressModel" "fill" "[I") ∈ Gw := gq (tg_4 (List.mem_of_getElem? (i := 47) (by decide +kernel))) rfl
theorem q_768 : (Cond.fieldLink R_MO 56 "PuzzlePressModel" "pattern" "[I") ∈ Gw := gq (tg_4 (List.mem_of_getElem? (i := 48) (by decide +kernel))) rfl
theorem q_769 : (Cond.fieldLink R_MO 59 "PuzzlePressModel" "stretches" "[I") ∈ Gw := gq (tg_4 (List.mem_of_getElem? (i := 49) (by decide +kernel))) rfl
theorem q_770 : (Cond.fieldLink R_MO 62 "PuzzlePressModel" "orders" "[I") ∈ Gw := gq (tg_4 (List.mem_of_getElem? (i := 50) (by decide +kernel))) rfl
theorem q_771 : (Cond.fieldLink R_MO 65 "PuzzlePressModel" "besides" "[I") ∈ Gw := gq (tg_4 (List.mem_of_getElem? (i := 51) (by decide +kernel))) rfl
theorem q_772 : (Cond.fieldLink R_MO 68 "PuzzlePressModel" "beside" "[I") ∈ Gw := gq (tg_4 (List.mem_of_getElem? (i := 52) (by decide +kernel))) rfl
theorem q_838 : (Cond.methodLink R_MO 96 ⟨"PuzzlePressModel", "isClue", "(I)Z"⟩) ∈ Gw := gq (tg_4 (List.mem_of_getElem? (i := 118) (by decide +kernel))) rfl
theorem q_839 : (Cond.static y_MO_isClue) ∈ Gw := gq (tg_4 (List.mem_of_getElem? (i := 119) (by decide +kernel))) rfl
theorem q_845 : (Cond.methodLink R_MO 100 ⟨"PuzzlePressModel", "noCell", "(I)Z"⟩) ∈ Gw := gq (tg_4 (List.mem_of_getElem? (i := 125) (by decide +kernel))) rfl
theorem q_847 : (Cond.instanceMethod y_MO_noCell) ∈ Gw := gq (tg_4 (List.mem_of_getElem? (i := 127) (by decide +kernel))) rfl
theorem q_849 : (Cond.methodLink R_MO 103 ⟨"PuzzlePressModel", "sizeOf", "(I)I"⟩) ∈ Gw := gq (tg_4 (List.mem_of_getElem? (i := 129) (by decide +kernel))) rfl
theorem q_851 : (Cond.instanceMethod y_MO_sizeOf) ∈ Gw := gq (tg_4 (List.mem_of_getElem? (i := 131) (by decide +kernel))) rfl
theorem q_861 : (Cond.methodLink R_MO 106 ⟨"PuzzlePressModel", "isValue", "(I)Z"⟩) ∈ Gw := gq (tg_4 (List.mem_of_getElem? (i := 141) (by decide +kernel))) rfl
theorem q_863 : (Cond.instanceMethod y_MO_isValue) ∈ Gw := gq (tg_4 (List.mem_of_getElem? (i := 143) (by decide +kernel))) rfl
theorem q_873 : (Cond.methodLink R_MO 138 ⟨"PuzzlePressModel", "search", "()V"⟩) ∈ Gw := gq (tg_4 (List.mem_of_getElem? (i := 153) (by decide +kernel))) rfl
theorem q_875 : (Cond.instanceMethod y_MO_search) ∈ Gw := gq (tg_4 (List.mem_of_getElem? (i := 155) (by decide +kernel))) rfl
theorem q_877 : (Cond.methodLink R_MO 132 ⟨"PuzzlePressModel", "lay", "(II)Z"⟩) ∈ Gw := gq (tg_4 (List.mem_of_getElem? (i := 157) (by decide +kernel))) rfl
theorem q_879 : (Cond.instanceMethod y_MO_lay) ∈ Gw := gq (tg_4 (List.mem_of_getElem? (i := 159) (by decide +kernel))) rfl
theorem q_881 : (Cond.methodLink R_MO 109 ⟨"PuzzlePressModel", "ones", "(I)I"⟩) ∈ Gw := gq (tg_4 (List.mem_of_getElem? (i := 161) (by decide +kernel))) rfl
theorem q_882 : (Cond.static y_MO_ones) ∈ Gw := gq (tg_4 (List.mem_of_getElem? (i := 162) (by decide +kernel))) rfl
theorem q_884 : (Cond.methodLink R_MO 112 ⟨"PuzzlePressModel", "valueOf", "(II)I"⟩) ∈ Gw := gq (tg_4 (List.mem_of_getElem? (i := 164) (by decide +kernel))) rfl
theorem q_886 : (Cond.instanceMethod y_MO_valueOf) ∈ Gw := gq (tg_4 (List.mem_of_getElem? (i := 166) (by decide +kernel))) rfl
theorem q_888 : (Cond.methodLink R_MO 135 ⟨"PuzzlePressModel", "isFilling", "()Z"⟩) ∈ Gw := gq (tg_4 (List.mem_of_getElem? (i := 168) (by decide +kernel))) rfl
theorem q_890 : (Cond.instanceMethod y_MO_isFilling) ∈ Gw := gq (tg_4 (List.mem_of_getElem? (i := 170) (by decide +kernel))) rfl
theorem q_892 : (Cond.methodLink R_MO 119 ⟨"PuzzlePressModel", "groupsFit", "()Z"⟩) ∈ Gw := gq (tg_4 (List.mem_of_getElem? (i := 172) (by decide +kernel))) rfl
theorem q_894 : (Cond.instanceMethod y_MO_groupsFit) ∈ Gw := gq (tg_4 (List.mem_of_getElem? (i := 174) (by decide +kernel))) rfl
theorem q_896 : (Cond.methodLink R_MO 123 ⟨"PuzzlePressModel", "columnsFit", "()Z"⟩) ∈ Gw := gq (tg_4 (List.mem_of_getElem? (i := 176) (by decide +kernel))) rfl
theorem q_898 : (Cond.instanceMethod y_MO_columnsFit) ∈ Gw := gq (tg_4 (List.mem_of_getElem? (i := 178) (by decide +kernel))) rfl
theorem q_900 : (Cond.methodLink R_MO 126 ⟨"PuzzlePressModel", "starsFit", "()Z"⟩) ∈ Gw := gq (tg_4 (List.mem_of_getElem? (i := 180) (by decide +kernel))) rfl
theorem q_902 : (Cond.instanceMethod y_MO_starsFit) ∈ Gw := gq (tg_4 (List.mem_of_getElem? (i := 182) (by decide +kernel))) rfl
theorem q_912 : (Cond.methodLink R_MO 195 ⟨"PuzzlePressModel", "countAll", "()I"⟩) ∈ Gw := gq (tg_4 (List.mem_of_getElem? (i := 192) (by decide +kernel))) rfl
theorem q_914 : (Cond.instanceMethod y_MO_countAll) ∈ Gw := gq (tg_4 (List.mem_of_getElem? (i := 194) (by decide +kernel))) rfl
theorem q_920 : (Cond.methodLink R_MO 186 ⟨"PuzzlePressModel", "reasonByOne", "()V"⟩) ∈ Gw := gq (tg_4 (List.mem_of_getElem? (i := 200) (by decide +kernel))) rfl
theorem q_922 : (Cond.instanceMethod y_MO_reasonByOne) ∈ Gw := gq (tg_4 (List.mem_of_getElem? (i := 202) (by decide +kernel))) rfl
theorem q_924 : (Cond.methodLink R_MO 183 ⟨"PuzzlePressModel", "look", "()Z"⟩) ∈ Gw := gq (tg_4 (List.mem_of_getElem? (i := 204) (by decide +kernel))) rfl
theorem q_926 : (Cond.instanceMethod y_MO_look) ∈ Gw := gq (tg_4 (List.mem_of_getElem? (i := 206) (by decide +kernel))) rfl
theorem q_928 : (Cond.methodLink R_MO 167 ⟨"PuzzlePressModel", "tryPicture", "(I)V"⟩) ∈ Gw := gq (tg_4 (List.mem_of_getElem? (i := 208) (by decide +kernel))) rfl
theorem q_930 : (Cond.instanceMethod y_MO_tryPicture) ∈ Gw := gq (tg_4 (List.mem_of_getElem? (i := 210) (by decide +kernel))) rfl
theorem q_932 : (Cond.methodLink R_MO 150 ⟨"PuzzlePressModel", "addLine", "(I)V"⟩) ∈ Gw := gq (tg_4 (List.mem_of_getElem? (i := 212) (by decide +kernel))) rfl
theorem q_934 : (Cond.instanceMethod y_MO_addLine) ∈ Gw := gq (tg_4 (List.mem_of_getElem? (i := 214) (by decide +kernel))) rfl
theorem q_936 : (Cond.methodLink R_MO 144 ⟨"PuzzlePressModel", "beginUnit", "()V"⟩) ∈ Gw := gq (tg_4 (List.mem_of_getElem? (i := 216) (by decide +kernel))) rfl
theorem q_938 : (Cond.instanceMethod y_MO_beginUnit) ∈ Gw := gq (tg_4 (List.mem_of_getElem? (i := 218) (by decide +kernel))) rfl
theorem q_940 : (Cond.methodLink R_MO 147 ⟨"PuzzlePressModel", "addCell", "(I)V"⟩) ∈ Gw := gq (tg_4 (List.mem_of_getElem? (i := 220) (by decide +kernel))) rfl
theorem q_942 : (Cond.instanceMethod y_MO_addCell) ∈ Gw := gq (tg_4 (List.mem_of_getElem? (i := 222) (by decide +kernel))) rfl
theorem q_944 : (Cond.methodLink R_MO 153 ⟨"PuzzlePressModel", "may", "(II)Z"⟩) ∈ Gw := gq (tg_4 (List.mem_of_getElem? (i := 224) (by decide +kernel))) rfl
theorem q_946 : (Cond.instanceMethod y_MO_may) ∈ Gw := gq (tg_4 (List.mem_of_getElem? (i := 226) (by decide +kernel))) rfl
theorem q_948 : (Cond.methodLink R_MO 156 ⟨"PuzzlePressModel", "lose", "()V"⟩) ∈ Gw := gq (tg_4 (List.mem_of_getElem? (i := 228) (by decide +kernel))) rfl
theorem q_950 : (Cond.instanceMethod y_MO_lose) ∈ Gw := gq (tg_4 (List.mem_of_getElem? (i := 230) (by decide +kernel))) rfl
theorem q_952 : (Cond.methodLink R_MO 170 ⟨"PuzzlePressModel", "trySquare", "(II)V"⟩) ∈ Gw := gq (tg_4 (List.mem_of_getElem? (i := 232) (by decide +kernel))) rfl
theorem q_954 : (Cond.instanceMethod y_MO_trySquare) ∈ Gw := gq (tg_4 (List.mem_of_getElem? (i := 234) (by decide +kernel))) rfl
theorem q_956 : (Cond.methodLink R_MO 159 ⟨"PuzzlePressModel", "goes", "(III)Z"⟩) ∈ Gw := gq (tg_4 (List.mem_of_getElem? (i := 236) (by decide +kernel))) rfl
theorem q_958 : (Cond.instanceMethod y_MO_goes) ∈ Gw := gq (tg_4 (List.mem_of_getElem? (i := 238) (by decide +kernel))) rfl
theorem q_960 : (Cond.methodLink R_MO 163 ⟨"PuzzlePressModel", "note", "(IIIIII)V"⟩) ∈ Gw := gq (tg_5 (List.mem_of_getElem? (i := 0) (by decide +kernel))) rfl
theorem q_962 : (Cond.instanceMethod y_MO_note) ∈ Gw := gq (tg_5 (List.mem_of_getElem? (i := 2) (by decide +kernel))) rfl
theorem q_964 : (Cond.methodLink R_MO 174 ⟨"PuzzlePressModel", "tryStar", "()V"⟩) ∈ Gw := gq (tg_5 (List.mem_of_getElem? (i := 4) (by decide +kernel))) rfl
theorem q_966 : (Cond.instanceMethod y_MO_tryStar) ∈ Gw := gq (tg_5 (List.mem_of_getElem? (i := 6) (by decide +kernel))) rfl
theorem q_968 : (Cond.methodLink R_MO 177 ⟨"PuzzlePressModel", "addGroup", "(I)V"⟩) ∈ Gw := gq (tg_5 (List.mem_of_getElem? (i := 8) (by decide +kernel))) rfl
theorem q_970 : (Cond.instanceMethod y_MO_addGroup) ∈ Gw := gq (tg_5 (List.mem_of_getElem? (i := 10) (by decide +kernel))) rfl
theorem q_972 : (Cond.methodLink R_MO 180 ⟨"PuzzlePressModel", "tryPairs", "()V"⟩) ∈ Gw := gq (tg_5 (List.mem_of_getElem? (i := 12) (by decide +kernel))) rfl
theorem q_974 : (Cond.instanceMethod y_MO_tryPairs) ∈ Gw := gq (tg_5 (List.mem_of_getElem? (i := 14) (by decide +kernel))) rfl
theorem q_976 : (Cond.methodLink R_MO 198 ⟨"PuzzlePressModel", "reasonByBoth", "()V"⟩) ∈ Gw := gq (tg_5 (List.mem_of_getElem? (i := 16) (by decide +kernel))) rfl
theorem q_978 : (Cond.instanceMethod y_MO_reasonByBoth) ∈ Gw := gq (tg_5 (List.mem_of_getElem? (i := 18) (by decide +kernel))) rfl
theorem q_980 : (Cond.methodLink R_MO 192 ⟨"PuzzlePressModel", "fails", "(II)Z"⟩) ∈ Gw := gq (tg_5 (List.mem_of_getElem? (i := 20) (by decide +kernel))) rfl
theorem q_982 : (Cond.instanceMethod y_MO_fails) ∈ Gw := gq (tg_5 (List.mem_of_getElem? (i := 22) (by decide +kernel))) rfl
theorem q_984 : (Cond.methodLink R_MO 189 ⟨"PuzzlePressModel", "isEmpty", "()Z"⟩) ∈ Gw := gq (tg_5 (List.mem_of_getElem? (i := 24) (by decide +kernel))) rfl
theorem q_986 : (Cond.instanceMethod y_MO_isEmpty) ∈ Gw := gq (tg_5 (List.mem_of_getElem? (i := 26) (by decide +kernel))) rfl
theorem q_996 : (Cond.methodLink R_MO 201 ⟨"PuzzlePressModel", "firstLost", "()I"⟩) ∈ Gw := gq (tg_5 (List.mem_of_getElem? (i := 36) (by decide +kernel))) rfl
theorem q_998 : (Cond.instanceMethod y_MO_firstLost) ∈ Gw := gq (tg_5 (List.mem_of_getElem? (i := 38) (by decide +kernel))) rfl
theorem q_1000 : (Cond.methodLink R_MO 204 ⟨"PuzzlePressModel", "firstFailing", "()I"⟩) ∈ Gw := gq (tg_5 (List.mem_of_getElem? (i := 40) (by decide +kernel))) rfl
theorem q_1002 : (Cond.instanceMethod y_MO_firstFailing) ∈ Gw := gq (tg_5 (List.mem_of_getElem? (i := 42) (by decide +kernel))) rfl
theorem q_1008 : (Cond.methodLink R_MO 210 ⟨"PuzzlePressModel", "gradeNow", "()I"⟩) ∈ Gw := gq (tg_5 (List.mem_of_getElem? (i := 48) (by decide +kernel))) rfl
theorem q_1010 : (Cond.instanceMethod y_MO_gradeNow) ∈ Gw := gq (tg_5 (List.mem_of_getElem? (i := 50) (by decide +kernel))) rfl
theorem q_1012 : (Cond.methodLink R_MO 207 ⟨"PuzzlePressModel", "isDone", "()Z"⟩) ∈ Gw := gq (tg_5 (List.mem_of_getElem? (i := 52) (by decide +kernel))) rfl
theorem q_1014 : (Cond.instanceMethod y_MO_isDone) ∈ Gw := gq (tg_5 (List.mem_of_getElem? (i := 54) (by decide +kernel))) rfl
theorem q_1024 : (Cond.sameMethod "PuzzlePress$Kind" "PuzzlePress$Kind" "bit" "(II)J") ∈ Gw := gq (tg_5 (List.mem_of_getElem? (i := 64) (by decide +kernel))) rfl
theorem q_1025 : (Cond.selects R_PI ⟨"PuzzlePress$Kind", "bit", "(II)J"⟩ y_KD_bit) ∈ Gw := gq (tg_5 (List.mem_of_getElem? (i := 65) (by decide +kernel))) rfl
theorem q_1026 : (Cond.selects R_SQ ⟨"PuzzlePress$Kind", "bit", "(II)J"⟩ y_KD_bit) ∈ Gw := gq (tg_5 (List.mem_of_getElem? (i := 66) (by decide +kernel))) rfl
theorem q_1027 : (Cond.selects R_ST ⟨"PuzzlePress$Kind", "bit", "(II)J"⟩ y_KD_bit) ∈ Gw := gq (tg_5 (List.mem_of_getElem? (i := 67) (by decide +kernel))) rfl
theorem s_1 : (Cond.selects R_SQ y_SQ_addUnlike y_SQ_addUnlike) ∈ Gw := gs (List.mem_of_getElem? (i := 1) (by decide +kernel))
theorem s_2 : (Cond.selects R_SQ y_SQ_addWays y_SQ_addWays) ∈ Gw := gs (List.mem_of_getElem? (i := 2) (by decide +kernel))
theorem s_3 : (Cond.selects R_SQ y_SQ_obeys y_SQ_obeys) ∈ Gw := gs (List.mem_of_getElem? (i := 3) (by decide +kernel))
theorem s_4 : (Cond.selects R_ST y_ST_addJustOne y_ST_addJustOne) ∈ Gw := gs (List.mem_of_getElem? (i := 4) (by decide +kernel))
theorem s_5 : (Cond.selects R_ST y_ST_wayWithStar y_ST_wayWithStar) ∈ Gw := gs (List.mem_of_getElem? (i := 5) (by decide +kernel))
theorem s_6 : (Cond.selects R_ST y_ST_addNotBoth y_ST_addNotBoth) ∈ Gw := gs (List.mem_of_getElem? (i := 6) (by decide +kernel))
theorem s_7 : (Cond.selects R_PP y_PP_renewUnits y_PP_renewUnits) ∈ Gw := gs (List.mem_of_getElem? (i := 7) (by decide +kernel))
theorem s_8 : (Cond.selects R_PI y_PI_wayOf y_PI_wayOf) ∈ Gw := gs (List.mem_of_getElem? (i := 8) (by decide +kernel))
theorem s_9 : (Cond.selects R_PP y_PP_atFirst y_PP_atFirst) ∈ Gw := gs (List.mem_of_getElem? (i := 9) (by decide +kernel))
theorem s_10 : (Cond.selects R_RE y_RE_search y_RE_search) ∈ Gw := gs (List.mem_of_getElem? (i := 10) (by decide +kernel))
theorem s_11 : (Cond.selects R_UN y_UN_keptBy y_UN_keptBy) ∈ Gw := gs (List.mem_of_getElem? (i := 11) (by decide +kernel))
theorem s_12 : (Cond.selects R_RE y_RE_isRefuted y_RE_isRefuted) ∈ Gw := gs (List.mem_of_getElem? (i := 12) (by decide +kernel))
theorem s_13 : (Cond.selects R_RE y_RE_supposeEach y_RE_supposeEach) ∈ Gw := gs (List.mem_of_getElem? (i := 13) (by decide +kernel))
theorem s_17 : (Cond.selects R_MO y_MO_begin y_MO_begin) ∈ Gw := gs (List.mem_of_getElem? (i := 17) (by decide +kernel))
theorem s_18 : (Cond.selects R_MO y_MO_refresh y_MO_refresh) ∈ Gw := gs (List.mem_of_getElem? (i := 18) (by decide +kernel))
theorem s_19 : (Cond.selects R_MO y_MO_allValues y_MO_allValues) ∈ Gw := gs (List.mem_of_getElem? (i := 19) (by decide +kernel))
theorem s_20 : (Cond.selects R_MO y_MO_noCell y_MO_noCell) ∈ Gw := gs (List.mem_of_getElem? (i := 20) (by decide +kernel))
theorem s_21 : (Cond.selects R_MO y_MO_sizeOf y_MO_sizeOf) ∈ Gw := gs (List.mem_of_getElem? (i := 21) (by decide +kernel))
theorem s_22 : (Cond.selects R_MO y_MO_isValue y_MO_isValue) ∈ Gw := gs (List.mem_of_getElem? (i := 22) (by decide +kernel))
theorem s_23 : (Cond.selects R_MO y_MO_search y_MO_search) ∈ Gw := gs (List.mem_of_getElem? (i := 23) (by decide +kernel))
theorem s_24 : (Cond.selects R_MO y_MO_lay y_MO_lay) ∈ Gw := gs (List.mem_of_getElem? (i := 24) (by decide +kernel))
theorem s_25 : (Cond.selects R_MO y_MO_valueOf y_MO_valueOf) ∈ Gw := gs (List.mem_of_getElem? (i := 25) (by decide +kernel))
theorem s_26 : (Cond.selects R_MO y_MO_isFilling y_MO_isFilling) ∈ Gw := gs (List.mem_of_getElem? (i := 26) (by decide +kernel))
theorem s_27 : (Cond.selects R_MO y_MO_groupsFit y_MO_groupsFit) ∈ Gw := gs (List.mem_of_getElem? (i := 27) (by decide +kernel))
theorem s_28 : (Cond.selects R_MO y_MO_columnsFit y_MO_columnsFit) ∈ Gw := gs (List.mem_of_getElem? (i := 28) (by decide +kernel))
theorem s_29 : (Cond.selects R_MO y_MO_starsFit y_MO_starsFit) ∈ Gw := gs (List.mem_of_getElem? (i := 29) (by decide +kernel))
theorem s_30 : (Cond.selects R_MO y_MO_countAll y_MO_countAll) ∈ Gw := gs (List.mem_of_getElem? (i := 30) (by decide +kernel))
theorem s_31 : (Cond.selects R_MO y_MO_reasonByOne y_MO_reasonByOne) ∈ Gw := gs (List.mem_of_getElem? (i := 31) (by decide +kernel))
theorem s_32 : (Cond.selects R_MO y_MO_look y_MO_look) ∈ Gw := gs (List.mem_of_getElem? (i := 32) (by decide +kernel))
theorem s_33 : (Cond.selects R_MO y_MO_tryPicture y_MO_tryPicture) ∈ Gw := gs (List.mem_of_getElem? (i := 33) (by decide +kernel))
theorem s_34 : (Cond.selects R_MO y_MO_addLine y_MO_addLine) ∈ Gw := gs (List.mem_of_getElem? (i := 34) (by decide +kernel))
theorem s_35 : (Cond.selects R_MO y_MO_beginUnit y_MO_beginUnit) ∈ Gw := gs (List.mem_of_getElem? (i := 35) (by decide +kernel))
theorem s_36 : (Cond.selects R_MO y_MO_addCell y_MO_addCell) ∈ Gw := gs (List.mem_of_getElem? (i := 36) (by decide +kernel))
theorem s_37 : (Cond.selects R_MO y_MO_may y_MO_may) ∈ Gw := gs (List.mem_of_getElem? (i := 37) (by decide +kernel))
theorem s_38 : (Cond.selects R_MO y_MO_lose y_MO_lose) ∈ Gw := gs (List.mem_of_getElem? (i := 38) (by decide +kernel))
theorem s_39 : (Cond.selects R_MO y_MO_trySquare y_MO_trySquare) ∈ Gw := gs (List.mem_of_getElem? (i := 39) (by decide +kernel))
theorem s_40 : (Cond.selects R_MO y_MO_goes y_MO_goes) ∈ Gw := gs (List.mem_of_getElem? (i := 40) (by decide +kernel))
theorem s_41 : (Cond.selects R_MO y_MO_note y_MO_note) ∈ Gw := gs (List.mem_of_getElem? (i := 41) (by decide +kernel))
theorem s_42 : (Cond.selects R_MO y_MO_tryStar y_MO_tryStar) ∈ Gw := gs (List.mem_of_getElem? (i := 42) (by decide +kernel))
theorem s_43 : (Cond.selects R_MO y_MO_addGroup y_MO_addGroup) ∈ Gw := gs (List.mem_of_getElem? (i := 43) (by decide +kernel))
theorem s_44 : (Cond.selects R_MO y_MO_tryPairs y_MO_tryPairs) ∈ Gw := gs (List.mem_of_getElem? (i := 44) (by decide +kernel))
theorem s_45 : (Cond.selects R_MO y_MO_reasonByBoth y_MO_reasonByBoth) ∈ Gw := gs (List.mem_of_getElem? (i := 45) (by decide +kernel))
theorem s_46 : (Cond.selects R_MO y_MO_fails y_MO_fails) ∈ Gw := gs (List.mem_of_getElem? (i := 46) (by decide +kernel))
theorem s_47 : (Cond.selects R_MO y_MO_isEmpty y_MO_isEmpty) ∈ Gw := gs (List.mem_of_getElem? (i := 47) (by decide +kernel))
theorem s_48 : (Cond.selects R_MO y_MO_firstLost y_MO_firstLost) ∈ Gw := gs (List.mem_of_getElem? (i := 48) (by decide +kernel))
theorem s_49 : (Cond.selects R_MO y_MO_firstFailing y_MO_firstFailing) ∈ Gw := gs (List.mem_of_getElem? (i := 49) (by decide +kernel))
theorem s_50 : (Cond.selects R_MO y_MO_gradeNow y_MO_gradeNow) ∈ Gw := gs (List.mem_of_getElem? (i := 50) (by decide +kernel))
theorem s_51 : (Cond.selects R_MO y_MO_isDone y_MO_isDone) ∈ Gw := gs (List.mem_of_getElem? (i := 51) (by decide +kernel))
theorem ma_ST_39 : Cond.methodLink R_ST 39 Lib.Math.abs.name ∈ Gw ∧ Cond.static Lib.Math.abs.name ∈ Gw ∧ Cond.initialized "java/lang/Math" ∈ Gw ∧ Cond.code Lib.Math.abs.name Lib.Math.abs.code 1 (some .int) ∈ Gw := ⟨gq (tg_2 (List.mem_of_getElem? (i := 39) (by decide +kernel))) rfl, gq (tg_2 (List.mem_of_getElem? (i := 40) (by decide +kernel))) rfl, gq (tg_1 (List.mem_of_getElem? (i := 9) (by decide +kernel))) rfl, gq (tg_2 (List.mem_of_getElem? (i := 41) (by decide +kernel))) rfl⟩
