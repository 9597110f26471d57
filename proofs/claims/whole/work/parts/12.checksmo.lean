/-! by program (wip/whole/emit.py) out of the claim's listing -/
theorem zk_Mo_isIn : zchk zm_Mo_isIn = true := by decide +kernel
theorem zk_Mo_farm : zchk zm_Mo_farm = true := by decide +kernel
theorem zk_Mo_field_0 : zchp zm_Mo_field 0 50 = true := by decide +kernel
theorem zk_Mo_field_1 : zchp zm_Mo_field 50 28 = true := by decide +kernel
theorem zk_Mo_field : zchk zm_Mo_field = true := zchk_of [(0, 50), (50, 28)] (by decide +kernel) (List.forall_mem_cons.mpr ⟨zk_Mo_field_0, List.forall_mem_cons.mpr ⟨zk_Mo_field_1, fun _ h => absurd h List.not_mem_nil⟩⟩)
theorem zk_Mo_isFarm : zchk zm_Mo_isFarm = true := by decide +kernel
theorem zk_Mo_make : zchk zm_Mo_make = true := by decide +kernel
theorem zk_Mo_ox_0 : zchp zm_Mo_ox 0 50 = true := by decide +kernel
theorem zk_Mo_ox_1 : zchp zm_Mo_ox 50 34 = true := by decide +kernel
theorem zk_Mo_ox : zchk zm_Mo_ox = true := zchk_of [(0, 50), (50, 34)] (by decide +kernel) (List.forall_mem_cons.mpr ⟨zk_Mo_ox_0, List.forall_mem_cons.mpr ⟨zk_Mo_ox_1, fun _ h => absurd h List.not_mem_nil⟩⟩)
theorem zk_Mo_four : zchk zm_Mo_four = true := by decide +kernel
theorem zk_Mo_feed : zchk zm_Mo_feed = true := by decide +kernel
theorem zk_Mo_end : zchk zm_Mo_end = true := by decide +kernel
theorem zk_Mo_byteAt : zchk zm_Mo_byteAt = true := by decide +kernel
theorem zk_Mo_isDigit : zchk zm_Mo_isDigit = true := by decide +kernel
theorem zk_Mo_isLetter : zchk zm_Mo_isLetter = true := by decide +kernel
theorem zk_Mo_nextToken_0 : zchp zm_Mo_nextToken 0 50 = true := by decide +kernel
theorem zk_Mo_nextToken_1 : zchp zm_Mo_nextToken 50 50 = true := by decide +kernel
theorem zk_Mo_nextToken_2 : zchp zm_Mo_nextToken 100 50 = true := by decide +kernel
theorem zk_Mo_nextToken_3 : zchp zm_Mo_nextToken 150 50 = true := by decide +kernel
theorem zk_Mo_nextToken_4 : zchp zm_Mo_nextToken 200 2 = true := by decide +kernel
theorem zk_Mo_nextToken : zchk zm_Mo_nextToken = true := zchk_of [(0, 50), (50, 50), (100, 50), (150, 50), (200, 2)] (by decide +kernel) (List.forall_mem_cons.mpr ⟨zk_Mo_nextToken_0, List.forall_mem_cons.mpr ⟨zk_Mo_nextToken_1, List.forall_mem_cons.mpr ⟨zk_Mo_nextToken_2, List.forall_mem_cons.mpr ⟨zk_Mo_nextToken_3, List.forall_mem_cons.mpr ⟨zk_Mo_nextToken_4, fun _ h => absurd h List.not_mem_nil⟩⟩⟩⟩⟩)
theorem zk_Mo_w3 : zchk zm_Mo_w3 = true := by decide +kernel
theorem zk_Mo_w5 : zchk zm_Mo_w5 = true := by decide +kernel
theorem zk_Mo_isWord : zchk zm_Mo_isWord = true := by decide +kernel
theorem zk_Mo_w6 : zchk zm_Mo_w6 = true := by decide +kernel
theorem zk_Mo_w4 : zchk zm_Mo_w4 = true := by decide +kernel
theorem zk_Mo_sortOf : zchk zm_Mo_sortOf = true := by decide +kernel
theorem zk_Mo_hasParen : zchk zm_Mo_hasParen = true := by decide +kernel
theorem zk_Mo_goesOn : zchk zm_Mo_goesOn = true := by decide +kernel
theorem zk_Mo_emit : zchk zm_Mo_emit = true := by decide +kernel
theorem zk_Mo_settle : zchk zm_Mo_settle = true := by decide +kernel
theorem zk_Mo_push : zchk zm_Mo_push = true := by decide +kernel
theorem zk_Mo_whole : zchk zm_Mo_whole = true := by decide +kernel
theorem zk_Mo_behindOne : zchk zm_Mo_behindOne = true := by decide +kernel
theorem zk_Mo_isStrength_0 : zchp zm_Mo_isStrength 0 50 = true := by decide +kernel
theorem zk_Mo_isStrength_1 : zchp zm_Mo_isStrength 50 25 = true := by decide +kernel
theorem zk_Mo_isStrength : zchk zm_Mo_isStrength = true := zchk_of [(0, 50), (50, 25)] (by decide +kernel) (List.forall_mem_cons.mpr ⟨zk_Mo_isStrength_0, List.forall_mem_cons.mpr ⟨zk_Mo_isStrength_1, fun _ h => absurd h List.not_mem_nil⟩⟩)
theorem zk_Mo_nameOf_0 : zchp zm_Mo_nameOf 0 50 = true := by decide +kernel
theorem zk_Mo_nameOf_1 : zchp zm_Mo_nameOf 50 50 = true := by decide +kernel
theorem zk_Mo_nameOf_2 : zchp zm_Mo_nameOf 100 20 = true := by decide +kernel
theorem zk_Mo_nameOf : zchk zm_Mo_nameOf = true := zchk_of [(0, 50), (50, 50), (100, 20)] (by decide +kernel) (List.forall_mem_cons.mpr ⟨zk_Mo_nameOf_0, List.forall_mem_cons.mpr ⟨zk_Mo_nameOf_1, List.forall_mem_cons.mpr ⟨zk_Mo_nameOf_2, fun _ h => absurd h List.not_mem_nil⟩⟩⟩)
theorem zk_Mo_isBarred : zchk zm_Mo_isBarred = true := by decide +kernel
theorem zk_Mo_beginOne_0 : zchp zm_Mo_beginOne 0 50 = true := by decide +kernel
theorem zk_Mo_beginOne_1 : zchp zm_Mo_beginOne 50 29 = true := by decide +kernel
theorem zk_Mo_beginOne : zchk zm_Mo_beginOne = true := zchk_of [(0, 50), (50, 29)] (by decide +kernel) (List.forall_mem_cons.mpr ⟨zk_Mo_beginOne_0, List.forall_mem_cons.mpr ⟨zk_Mo_beginOne_1, fun _ h => absurd h List.not_mem_nil⟩⟩)
theorem zk_Mo_summed : zchk zm_Mo_summed = true := by decide +kernel
theorem zk_Mo_compareOf : zchk zm_Mo_compareOf = true := by decide +kernel
theorem zk_Mo_asks_0 : zchp zm_Mo_asks 0 50 = true := by decide +kernel
theorem zk_Mo_asks_1 : zchp zm_Mo_asks 50 21 = true := by decide +kernel
theorem zk_Mo_asks : zchk zm_Mo_asks = true := zchk_of [(0, 50), (50, 21)] (by decide +kernel) (List.forall_mem_cons.mpr ⟨zk_Mo_asks_0, List.forall_mem_cons.mpr ⟨zk_Mo_asks_1, fun _ h => absurd h List.not_mem_nil⟩⟩)
theorem zk_Mo_either : zchk zm_Mo_either = true := by decide +kernel
theorem zk_Mo_clause_0 : zchp zm_Mo_clause 0 50 = true := by decide +kernel
theorem zk_Mo_clause_1 : zchp zm_Mo_clause 50 46 = true := by decide +kernel
theorem zk_Mo_clause : zchk zm_Mo_clause = true := zchk_of [(0, 50), (50, 46)] (by decide +kernel) (List.forall_mem_cons.mpr ⟨zk_Mo_clause_0, List.forall_mem_cons.mpr ⟨zk_Mo_clause_1, fun _ h => absurd h List.not_mem_nil⟩⟩)
theorem zk_Mo_readText : zchk zm_Mo_readText = true := by decide +kernel
theorem zk_Mo_text : zchk zm_Mo_text = true := by decide +kernel
theorem zk_Mo_fault : zchk zm_Mo_fault = true := by decide +kernel
theorem zk_Mo_by : zchk zm_Mo_by = true := by decide +kernel
theorem zk_Mo_isField : zchk zm_Mo_isField = true := by decide +kernel
theorem zk_Mo_isOx : zchk zm_Mo_isOx = true := by decide +kernel
theorem zk_Mo_told : zchk zm_Mo_told = true := by decide +kernel
theorem zk_Mo_canCome : zchk zm_Mo_canCome = true := by decide +kernel
theorem zk_Mo_keep_0 : zchp zm_Mo_keep 0 50 = true := by decide +kernel
theorem zk_Mo_keep_1 : zchp zm_Mo_keep 50 50 = true := by decide +kernel
theorem zk_Mo_keep_2 : zchp zm_Mo_keep 100 50 = true := by decide +kernel
theorem zk_Mo_keep_3 : zchp zm_Mo_keep 150 2 = true := by decide +kernel
theorem zk_Mo_keep : zchk zm_Mo_keep = true := zchk_of [(0, 50), (50, 50), (100, 50), (150, 2)] (by decide +kernel) (List.forall_mem_cons.mpr ⟨zk_Mo_keep_0, List.forall_mem_cons.mpr ⟨zk_Mo_keep_1, List.forall_mem_cons.mpr ⟨zk_Mo_keep_2, List.forall_mem_cons.mpr ⟨zk_Mo_keep_3, fun _ h => absurd h List.not_mem_nil⟩⟩⟩⟩)
theorem zk_Mo_yoke : zchk zm_Mo_yoke = true := by decide +kernel
theorem zk_Mo_part : zchk zm_Mo_part = true := by decide +kernel
theorem zk_Mo_loose : zchk zm_Mo_loose = true := by decide +kernel
theorem zk_Mo_drive : zchk zm_Mo_drive = true := by decide +kernel
theorem zk_Mo_sell : zchk zm_Mo_sell = true := by decide +kernel
theorem zk_Mo_pitchOf : zchk zm_Mo_pitchOf = true := by decide +kernel
theorem zk_Mo_gap : zchk zm_Mo_gap = true := by decide +kernel
theorem zk_Mo_far : zchk zm_Mo_far = true := by decide +kernel
theorem zk_Mo_name_0 : zchp zm_Mo_name 0 50 = true := by decide +kernel
theorem zk_Mo_name_1 : zchp zm_Mo_name 50 25 = true := by decide +kernel
theorem zk_Mo_name : zchk zm_Mo_name = true := zchk_of [(0, 50), (50, 25)] (by decide +kernel) (List.forall_mem_cons.mpr ⟨zk_Mo_name_0, List.forall_mem_cons.mpr ⟨zk_Mo_name_1, fun _ h => absurd h List.not_mem_nil⟩⟩)
theorem zk_Mo_clauseOf : zchk zm_Mo_clauseOf = true := by decide +kernel
theorem zk_Mo_clip : zchk zm_Mo_clip = true := by decide +kernel
theorem zk_Mo_two : zchk zm_Mo_two = true := by decide +kernel
theorem zk_Mo_isAsked : zchk zm_Mo_isAsked = true := by decide +kernel
theorem zk_Mo_work_0 : zchp zm_Mo_work 0 50 = true := by decide +kernel
theorem zk_Mo_work_1 : zchp zm_Mo_work 50 50 = true := by decide +kernel
theorem zk_Mo_work_2 : zchp zm_Mo_work 100 50 = true := by decide +kernel
theorem zk_Mo_work_3 : zchp zm_Mo_work 150 50 = true := by decide +kernel
theorem zk_Mo_work_4 : zchp zm_Mo_work 200 6 = true := by decide +kernel
theorem zk_Mo_work : zchk zm_Mo_work = true := zchk_of [(0, 50), (50, 50), (100, 50), (150, 50), (200, 6)] (by decide +kernel) (List.forall_mem_cons.mpr ⟨zk_Mo_work_0, List.forall_mem_cons.mpr ⟨zk_Mo_work_1, List.forall_mem_cons.mpr ⟨zk_Mo_work_2, List.forall_mem_cons.mpr ⟨zk_Mo_work_3, List.forall_mem_cons.mpr ⟨zk_Mo_work_4, fun _ h => absurd h List.not_mem_nil⟩⟩⟩⟩⟩)
theorem zk_Mo_isHeeded : zchk zm_Mo_isHeeded = true := by decide +kernel
theorem zk_Mo_goal : zchk zm_Mo_goal = true := by decide +kernel
theorem zk_Mo_whistle_0 : zchp zm_Mo_whistle 0 50 = true := by decide +kernel
theorem zk_Mo_whistle_1 : zchp zm_Mo_whistle 50 50 = true := by decide +kernel
theorem zk_Mo_whistle_2 : zchp zm_Mo_whistle 100 2 = true := by decide +kernel
theorem zk_Mo_whistle : zchk zm_Mo_whistle = true := zchk_of [(0, 50), (50, 50), (100, 2)] (by decide +kernel) (List.forall_mem_cons.mpr ⟨zk_Mo_whistle_0, List.forall_mem_cons.mpr ⟨zk_Mo_whistle_1, List.forall_mem_cons.mpr ⟨zk_Mo_whistle_2, fun _ h => absurd h List.not_mem_nil⟩⟩⟩)
theorem zk_Mo_held : zchk zm_Mo_held = true := by decide +kernel
theorem zk_Mo_workOf_0 : zchp zm_Mo_workOf 0 50 = true := by decide +kernel
theorem zk_Mo_workOf_1 : zchp zm_Mo_workOf 50 25 = true := by decide +kernel
theorem zk_Mo_workOf : zchk zm_Mo_workOf = true := zchk_of [(0, 50), (50, 25)] (by decide +kernel) (List.forall_mem_cons.mpr ⟨zk_Mo_workOf_0, List.forall_mem_cons.mpr ⟨zk_Mo_workOf_1, fun _ h => absurd h List.not_mem_nil⟩⟩)
theorem zk_Mo_plough_0 : zchp zm_Mo_plough 0 50 = true := by decide +kernel
theorem zk_Mo_plough_1 : zchp zm_Mo_plough 50 36 = true := by decide +kernel
theorem zk_Mo_plough : zchk zm_Mo_plough = true := zchk_of [(0, 50), (50, 36)] (by decide +kernel) (List.forall_mem_cons.mpr ⟨zk_Mo_plough_0, List.forall_mem_cons.mpr ⟨zk_Mo_plough_1, fun _ h => absurd h List.not_mem_nil⟩⟩)
theorem zk_Mo_night_0 : zchp zm_Mo_night 0 50 = true := by decide +kernel
theorem zk_Mo_night_1 : zchp zm_Mo_night 50 21 = true := by decide +kernel
theorem zk_Mo_night : zchk zm_Mo_night = true := zchk_of [(0, 50), (50, 21)] (by decide +kernel) (List.forall_mem_cons.mpr ⟨zk_Mo_night_0, List.forall_mem_cons.mpr ⟨zk_Mo_night_1, fun _ h => absurd h List.not_mem_nil⟩⟩)
theorem zk_Mo_undo_0 : zchp zm_Mo_undo 0 50 = true := by decide +kernel
theorem zk_Mo_undo_1 : zchp zm_Mo_undo 50 50 = true := by decide +kernel
theorem zk_Mo_undo_2 : zchp zm_Mo_undo 100 20 = true := by decide +kernel
theorem zk_Mo_undo : zchk zm_Mo_undo = true := zchk_of [(0, 50), (50, 50), (100, 20)] (by decide +kernel) (List.forall_mem_cons.mpr ⟨zk_Mo_undo_0, List.forall_mem_cons.mpr ⟨zk_Mo_undo_1, List.forall_mem_cons.mpr ⟨zk_Mo_undo_2, fun _ h => absurd h List.not_mem_nil⟩⟩⟩)
theorem zk_Mo_of : zchk zm_Mo_of = true := by decide +kernel
theorem zk_Mo_heeds : zchk zm_Mo_heeds = true := by decide +kernel
theorem zk_Mo_call : zchk zm_Mo_call = true := by decide +kernel
theorem zk_Mo_hush : zchk zm_Mo_hush = true := by decide +kernel
theorem zk_Mo_isCalled : zchk zm_Mo_isCalled = true := by decide +kernel
theorem zk_Mo_stayOf : zchk zm_Mo_stayOf = true := by decide +kernel
theorem zk_Mo_doneOf : zchk zm_Mo_doneOf = true := by decide +kernel
theorem zk_Mo_stay : zchk zm_Mo_stay = true := by decide +kernel
theorem zk_Mo_has : zchk zm_Mo_has = true := by decide +kernel
theorem zk_Mo_isPair : zchk zm_Mo_isPair = true := by decide +kernel
theorem zk_Mo_by_ : zchk zm_Mo_by_ = true := by decide +kernel
theorem zk_Mo_plan_0 : zchp zm_Mo_plan 0 50 = true := by decide +kernel
theorem zk_Mo_plan_1 : zchp zm_Mo_plan 50 50 = true := by decide +kernel
theorem zk_Mo_plan_2 : zchp zm_Mo_plan 100 50 = true := by decide +kernel
theorem zk_Mo_plan_3 : zchp zm_Mo_plan 150 43 = true := by decide +kernel
theorem zk_Mo_plan : zchk zm_Mo_plan = true := zchk_of [(0, 50), (50, 50), (100, 50), (150, 43)] (by decide +kernel) (List.forall_mem_cons.mpr ⟨zk_Mo_plan_0, List.forall_mem_cons.mpr ⟨zk_Mo_plan_1, List.forall_mem_cons.mpr ⟨zk_Mo_plan_2, List.forall_mem_cons.mpr ⟨zk_Mo_plan_3, fun _ h => absurd h List.not_mem_nil⟩⟩⟩⟩)
theorem zk_Mo_longest : zchk zm_Mo_longest = true := by decide +kernel
theorem zk_Mo_callsOf : zchk zm_Mo_callsOf = true := by decide +kernel
theorem zk_Mo_slip : zchk zm_Mo_slip = true := by decide +kernel
theorem zk_Mo_weightOf : zchk zm_Mo_weightOf = true := by decide +kernel
theorem zk_Mo_common : zchk zm_Mo_common = true := by decide +kernel
theorem zk_Mo_dark_0 : zchp zm_Mo_dark 0 50 = true := by decide +kernel
theorem zk_Mo_dark_1 : zchp zm_Mo_dark 50 50 = true := by decide +kernel
theorem zk_Mo_dark_2 : zchp zm_Mo_dark 100 2 = true := by decide +kernel
theorem zk_Mo_dark : zchk zm_Mo_dark = true := zchk_of [(0, 50), (50, 50), (100, 2)] (by decide +kernel) (List.forall_mem_cons.mpr ⟨zk_Mo_dark_0, List.forall_mem_cons.mpr ⟨zk_Mo_dark_1, List.forall_mem_cons.mpr ⟨zk_Mo_dark_2, fun _ h => absurd h List.not_mem_nil⟩⟩⟩)
theorem zk_Mo_mayBe : zchk zm_Mo_mayBe = true := by decide +kernel
theorem zk_Mo_changed : zchk zm_Mo_changed = true := by decide +kernel
theorem zk_Mo_isApart : zchk zm_Mo_isApart = true := by decide +kernel
theorem zk_Mo_set_0 : zchp zm_Mo_set 0 50 = true := by decide +kernel
theorem zk_Mo_set_1 : zchp zm_Mo_set 50 50 = true := by decide +kernel
theorem zk_Mo_set_2 : zchp zm_Mo_set 100 34 = true := by decide +kernel
theorem zk_Mo_set : zchk zm_Mo_set = true := zchk_of [(0, 50), (50, 50), (100, 34)] (by decide +kernel) (List.forall_mem_cons.mpr ⟨zk_Mo_set_0, List.forall_mem_cons.mpr ⟨zk_Mo_set_1, List.forall_mem_cons.mpr ⟨zk_Mo_set_2, fun _ h => absurd h List.not_mem_nil⟩⟩⟩)
theorem zk_Mo_apart : zchk zm_Mo_apart = true := by decide +kernel
theorem zk_Mo_strike_0 : zchp zm_Mo_strike 0 50 = true := by decide +kernel
theorem zk_Mo_strike_1 : zchp zm_Mo_strike 50 46 = true := by decide +kernel
theorem zk_Mo_strike : zchk zm_Mo_strike = true := zchk_of [(0, 50), (50, 46)] (by decide +kernel) (List.forall_mem_cons.mpr ⟨zk_Mo_strike_0, List.forall_mem_cons.mpr ⟨zk_Mo_strike_1, fun _ h => absurd h List.not_mem_nil⟩⟩)
theorem zk_Mo_thunder_0 : zchp zm_Mo_thunder 0 50 = true := by decide +kernel
theorem zk_Mo_thunder_1 : zchp zm_Mo_thunder 50 21 = true := by decide +kernel
theorem zk_Mo_thunder : zchk zm_Mo_thunder = true := zchk_of [(0, 50), (50, 21)] (by decide +kernel) (List.forall_mem_cons.mpr ⟨zk_Mo_thunder_0, List.forall_mem_cons.mpr ⟨zk_Mo_thunder_1, fun _ h => absurd h List.not_mem_nil⟩⟩)
theorem zk_Mo_copy : zchk zm_Mo_copy = true := by decide +kernel
theorem zk_Mo_image : zchk zm_Mo_image = true := by decide +kernel
theorem zk_Mo_back : zchk zm_Mo_back = true := by decide +kernel
theorem zk_Mo_about : zchk zm_Mo_about = true := by decide +kernel
