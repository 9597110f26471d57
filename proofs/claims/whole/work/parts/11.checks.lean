/-! by program (wip/whole/emit.py) out of the claim's listing -/
theorem zk_Reader_readRank : zchk zm_Reader_readRank = true := by decide +kernel
theorem zk_Reader_joins : zchk zm_Reader_joins = true := by decide +kernel
theorem zk_Reader_isBlank : zchk zm_Reader_isBlank = true := by decide +kernel
theorem zk_Reader_isLetter : zchk zm_Reader_isLetter = true := by decide +kernel
theorem zk_Reader_passLetters : zchk zm_Reader_passLetters = true := by decide +kernel
theorem zk_Reader_wordAt : zchk zm_Reader_wordAt = true := by decide +kernel
theorem zk_Reader_isFigure : zchk zm_Reader_isFigure = true := by decide +kernel
theorem zk_Reader_takeNumber : zchk zm_Reader_takeNumber = true := by decide +kernel
theorem zk_Reader_takeSign : zchk zm_Reader_takeSign = true := by decide +kernel
theorem zk_Reader_step : zchk zm_Reader_step = true := by decide +kernel
theorem zk_Reader_emit : zchk zm_Reader_emit = true := by decide +kernel
theorem zk_Reader_readJoined : zchk zm_Reader_readJoined = true := by decide +kernel
theorem zk_Reader_fail : zchk zm_Reader_fail = true := by decide +kernel
theorem zk_Reader_isComparison : zchk zm_Reader_isComparison = true := by decide +kernel
theorem zk_Reader_readAsk : zchk zm_Reader_readAsk = true := by decide +kernel
theorem zk_Reader_close : zchk zm_Reader_close = true := by decide +kernel
theorem zk_Reader_isNameOf : zchk zm_Reader_isNameOf = true := by decide +kernel
theorem zk_Reader_readName : zchk zm_Reader_readName = true := by decide +kernel
theorem zk_Reader_readNumber : zchk zm_Reader_readNumber = true := by decide +kernel
theorem zk_Reader_readOne : zchk zm_Reader_readOne = true := by decide +kernel
theorem zk_Reader_readOpened : zchk zm_Reader_readOpened = true := by decide +kernel
theorem zk_Herd_fields : zchk zm_Herd_fields = true := by decide +kernel
theorem zk_Herd_oxen : zchk zm_Herd_oxen = true := by decide +kernel
theorem zk_Planner_yieldFrom_0 : zchp zm_Planner_yieldFrom 0 50 = true := by decide +kernel
theorem zk_Planner_yieldFrom_1 : zchp zm_Planner_yieldFrom 50 21 = true := by decide +kernel
theorem zk_Planner_yieldFrom : zchk zm_Planner_yieldFrom = true := zchk_of [(0, 50), (50, 21)] (by decide +kernel) (List.forall_mem_cons.mpr ⟨zk_Planner_yieldFrom_0, List.forall_mem_cons.mpr ⟨zk_Planner_yieldFrom_1, fun _ h => absurd h List.not_mem_nil⟩⟩)
theorem zk_Planner_tryPair : zchk zm_Planner_tryPair = true := by decide +kernel
theorem zk_Pitches_isFree : zchk zm_Pitches_isFree = true := by decide +kernel
theorem zk_Pitches_choose : zchk zm_Pitches_choose = true := by decide +kernel
theorem zk_Pitches_pick : zchk zm_Pitches_pick = true := by decide +kernel
theorem zk_Ox_within : zchk zm_Ox_within = true := by decide +kernel
theorem zk_Ox_isPlace : zchk zm_Ox_isPlace = true := by decide +kernel
theorem zk_Ox_isDigit : zchk zm_Ox_isDigit = true := by decide +kernel
theorem zk_Ox_farm : zchk zm_Ox_farm = true := by decide +kernel
theorem zk_Herd_setFurrows : zchk zm_Herd_setFurrows = true := by decide +kernel
theorem zk_Herd_addField : zchk zm_Herd_addField = true := by decide +kernel
theorem zk_Ox_field : zchk zm_Ox_field = true := by decide +kernel
theorem zk_Ox_isFarm : zchk zm_Ox_isFarm = true := by decide +kernel
theorem zk_Ox_isFarmOrNone : zchk zm_Ox_isFarmOrNone = true := by decide +kernel
theorem zk_Herd_put : zchk zm_Herd_put = true := by decide +kernel
theorem zk_Herd_addOx : zchk zm_Herd_addOx = true := by decide +kernel
theorem zk_Ox_ox : zchk zm_Ox_ox = true := by decide +kernel
theorem zk_Ox_feedFour : zchk zm_Ox_feedFour = true := by decide +kernel
theorem zk_Ox_feed : zchk zm_Ox_feed = true := by decide +kernel
theorem zk_Ox_end : zchk zm_Ox_end = true := by decide +kernel
theorem zk_Texts_setClause : zchk zm_Texts_setClause = true := by decide +kernel
theorem zk_Texts_clear : zchk zm_Texts_clear = true := by decide +kernel
theorem zk_Texts_has : zchk zm_Texts_has = true := by decide +kernel
theorem zk_Reader_readClause_0 : zchp zm_Reader_readClause 0 50 = true := by decide +kernel
theorem zk_Reader_readClause_1 : zchp zm_Reader_readClause 50 29 = true := by decide +kernel
theorem zk_Reader_readClause : zchk zm_Reader_readClause = true := zchk_of [(0, 50), (50, 29)] (by decide +kernel) (List.forall_mem_cons.mpr ⟨zk_Reader_readClause_0, List.forall_mem_cons.mpr ⟨zk_Reader_readClause_1, fun _ h => absurd h List.not_mem_nil⟩⟩)
theorem zk_Reader_read : zchk zm_Reader_read = true := by decide +kernel
theorem zk_Ox_text : zchk zm_Ox_text = true := by decide +kernel
theorem zk_Ox_fault : zchk zm_Ox_fault = true := by decide +kernel
theorem zk_Ox_by : zchk zm_Ox_by = true := by decide +kernel
theorem zk_Ox_isOx : zchk zm_Ox_isOx = true := by decide +kernel
theorem zk_Ox_isPair : zchk zm_Ox_isPair = true := by decide +kernel
theorem zk_Ox_isField : zchk zm_Ox_isField = true := by decide +kernel
theorem zk_Herd_get : zchk zm_Herd_get = true := by decide +kernel
theorem zk_Ox_canBeYoked : zchk zm_Ox_canBeYoked = true := by decide +kernel
theorem zk_Herd_writeTo : zchk zm_Herd_writeTo = true := by decide +kernel
theorem zk_Steps_keep : zchk zm_Steps_keep = true := by decide +kernel
theorem zk_Yard_keepStep : zchk zm_Yard_keepStep = true := by decide +kernel
theorem zk_Ox_yoke : zchk zm_Ox_yoke = true := by decide +kernel
theorem zk_Herd_unyoke : zchk zm_Herd_unyoke = true := by decide +kernel
theorem zk_Ox_loose : zchk zm_Ox_loose = true := by decide +kernel
theorem zk_Ox_drive : zchk zm_Ox_drive = true := by decide +kernel
theorem zk_Ox_sell : zchk zm_Ox_sell = true := by decide +kernel
theorem zk_Herd_hour : zchk zm_Herd_hour = true := by decide +kernel
theorem zk_Laws_askCall : zchk zm_Laws_askCall = true := by decide +kernel
theorem zk_Yard_far : zchk zm_Yard_far = true := by decide +kernel
theorem zk_Laws_ask_0 : zchp zm_Laws_ask 0 50 = true := by decide +kernel
theorem zk_Laws_ask_1 : zchp zm_Laws_ask 50 35 = true := by decide +kernel
theorem zk_Laws_ask : zchk zm_Laws_ask = true := zchk_of [(0, 50), (50, 35)] (by decide +kernel) (List.forall_mem_cons.mpr ⟨zk_Laws_ask_0, List.forall_mem_cons.mpr ⟨zk_Laws_ask_1, fun _ h => absurd h List.not_mem_nil⟩⟩)
theorem zk_Laws_joined_0 : zchp zm_Laws_joined 0 50 = true := by decide +kernel
theorem zk_Laws_joined_1 : zchp zm_Laws_joined 50 30 = true := by decide +kernel
theorem zk_Laws_joined : zchk zm_Laws_joined = true := zchk_of [(0, 50), (50, 30)] (by decide +kernel) (List.forall_mem_cons.mpr ⟨zk_Laws_joined_0, List.forall_mem_cons.mpr ⟨zk_Laws_joined_1, fun _ h => absurd h List.not_mem_nil⟩⟩)
theorem zk_Laws_between : zchk zm_Laws_between = true := by decide +kernel
theorem zk_Laws_value_0 : zchp zm_Laws_value 0 50 = true := by decide +kernel
theorem zk_Laws_value_1 : zchp zm_Laws_value 50 50 = true := by decide +kernel
theorem zk_Laws_value_2 : zchp zm_Laws_value 100 34 = true := by decide +kernel
theorem zk_Laws_value : zchk zm_Laws_value = true := zchk_of [(0, 50), (50, 50), (100, 34)] (by decide +kernel) (List.forall_mem_cons.mpr ⟨zk_Laws_value_0, List.forall_mem_cons.mpr ⟨zk_Laws_value_1, List.forall_mem_cons.mpr ⟨zk_Laws_value_2, fun _ h => absurd h List.not_mem_nil⟩⟩⟩)
theorem zk_Laws_heeded : zchk zm_Laws_heeded = true := by decide +kernel
theorem zk_Laws_toSecond : zchk zm_Laws_toSecond = true := by decide +kernel
theorem zk_Ox_isIn : zchk zm_Ox_isIn = true := by decide +kernel
theorem zk_Ox_blow_0 : zchp zm_Ox_blow 0 50 = true := by decide +kernel
theorem zk_Ox_blow_1 : zchp zm_Ox_blow 50 42 = true := by decide +kernel
theorem zk_Ox_blow : zchk zm_Ox_blow = true := zchk_of [(0, 50), (50, 42)] (by decide +kernel) (List.forall_mem_cons.mpr ⟨zk_Ox_blow_0, List.forall_mem_cons.mpr ⟨zk_Ox_blow_1, fun _ h => absurd h List.not_mem_nil⟩⟩)
theorem zk_Ox_whistle : zchk zm_Ox_whistle = true := by decide +kernel
theorem zk_Herd_furrows : zchk zm_Herd_furrows = true := by decide +kernel
theorem zk_Laws_work : zchk zm_Laws_work = true := by decide +kernel
theorem zk_Herd_setHour : zchk zm_Herd_setHour = true := by decide +kernel
theorem zk_Ox_plough : zchk zm_Ox_plough = true := by decide +kernel
theorem zk_Herd_sleepAtOwner : zchk zm_Herd_sleepAtOwner = true := by decide +kernel
theorem zk_Ox_night : zchk zm_Ox_night = true := by decide +kernel
theorem zk_Herd_readBack : zchk zm_Herd_readBack = true := by decide +kernel
theorem zk_Steps_takeBack : zchk zm_Steps_takeBack = true := by decide +kernel
theorem zk_Ox_undo : zchk zm_Ox_undo = true := by decide +kernel
theorem zk_Ox_of : zchk zm_Ox_of = true := by decide +kernel
theorem zk_Ox_heeds : zchk zm_Ox_heeds = true := by decide +kernel
theorem zk_Ox_isHour : zchk zm_Ox_isHour = true := by decide +kernel
theorem zk_Ox_call : zchk zm_Ox_call = true := by decide +kernel
theorem zk_Ox_hush : zchk zm_Ox_hush = true := by decide +kernel
theorem zk_Stays_heedsCallAt : zchk zm_Stays_heedsCallAt = true := by decide +kernel
theorem zk_Stays_hoursTill : zchk zm_Stays_hoursTill = true := by decide +kernel
theorem zk_Stays_doneIn : zchk zm_Stays_doneIn = true := by decide +kernel
theorem zk_Ox_stay : zchk zm_Ox_stay = true := by decide +kernel
theorem zk_Stays_measure : zchk zm_Stays_measure = true := by decide +kernel
theorem zk_Stays_measured : zchk zm_Stays_measured = true := by decide +kernel
theorem zk_Planner_measurePairs : zchk zm_Planner_measurePairs = true := by decide +kernel
theorem zk_Planner_follow : zchk zm_Planner_follow = true := by decide +kernel
theorem zk_Planner_search : zchk zm_Planner_search = true := by decide +kernel
theorem zk_Ox_plan : zchk zm_Ox_plan = true := by decide +kernel
theorem zk_Stays_longestPair : zchk zm_Stays_longestPair = true := by decide +kernel
theorem zk_Ox_longest : zchk zm_Ox_longest = true := by decide +kernel
theorem zk_Laws_weight : zchk zm_Laws_weight = true := by decide +kernel
theorem zk_Laws_slip : zchk zm_Laws_slip = true := by decide +kernel
theorem zk_Odds_times : zchk zm_Odds_times = true := by decide +kernel
theorem zk_Odds_weighAll_0 : zchp zm_Odds_weighAll 0 50 = true := by decide +kernel
theorem zk_Odds_weighAll_1 : zchp zm_Odds_weighAll 50 34 = true := by decide +kernel
theorem zk_Odds_weighAll : zchk zm_Odds_weighAll = true := zchk_of [(0, 50), (50, 34)] (by decide +kernel) (List.forall_mem_cons.mpr ⟨zk_Odds_weighAll_0, List.forall_mem_cons.mpr ⟨zk_Odds_weighAll_1, fun _ h => absurd h List.not_mem_nil⟩⟩)
theorem zk_Odds_divisor : zchk zm_Odds_divisor = true := by decide +kernel
theorem zk_Odds_lowestUpper : zchk zm_Odds_lowestUpper = true := by decide +kernel
theorem zk_Odds_lowestLower : zchk zm_Odds_lowestLower = true := by decide +kernel
theorem zk_Ox_dark : zchk zm_Ox_dark = true := by decide +kernel
theorem zk_Pitches_fitsAll : zchk zm_Pitches_fitsAll = true := by decide +kernel
theorem zk_Pitches_search : zchk zm_Pitches_search = true := by decide +kernel
theorem zk_Ox_apart : zchk zm_Ox_apart = true := by decide +kernel
theorem zk_Herd_copyFrom : zchk zm_Herd_copyFrom = true := by decide +kernel
theorem zk_Integer_bitCount_0f7a4 : zchk zm_Integer_bitCount_0f7a4 = true := by decide +kernel
theorem zk_Ox_thunder : zchk zm_Ox_thunder = true := by decide +kernel
theorem zk_Steps_copyFrom : zchk zm_Steps_copyFrom = true := by decide +kernel
theorem zk_Yard_copyFrom : zchk zm_Yard_copyFrom = true := by decide +kernel
theorem zk_Ox_image : zchk zm_Ox_image = true := by decide +kernel
theorem zk_Ox_back : zchk zm_Ox_back = true := by decide +kernel
theorem zk_Steps_count : zchk zm_Steps_count = true := by decide +kernel
theorem zk_Ox_about_0 : zchp zm_Ox_about 0 50 = true := by decide +kernel
theorem zk_Ox_about_1 : zchp zm_Ox_about 50 21 = true := by decide +kernel
theorem zk_Ox_about : zchk zm_Ox_about = true := zchk_of [(0, 50), (50, 21)] (by decide +kernel) (List.forall_mem_cons.mpr ⟨zk_Ox_about_0, List.forall_mem_cons.mpr ⟨zk_Ox_about_1, fun _ h => absurd h List.not_mem_nil⟩⟩)
