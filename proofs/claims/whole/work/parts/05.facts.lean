theorem inX0 : ∀ w ∈ u_ws RX0 TX0 10, w ∈ wAll := by
  intro w hw
  have h : w ∈ ([Cond.lays "PushBoards$Board" "PushBoards$Board" "width" "I", Cond.lays "PushBoards$Board" "PushBoards$Board" "height" "I", Cond.lays "PushBoards$Board" "PushBoards$Board" "floor" "J", Cond.lays "PushBoards$Board" "PushBoards$Board" "goals" "J", Cond.lays "PushBoards$Board" "PushBoards$Board" "live" "J", Cond.lays "PushBoards$Board" "PushBoards$Board" "boxes" "J", Cond.lays "PushBoards$Board" "PushBoards$Board" "person" "J", Cond.laysFinal "PushBoards$Board" "PushBoards$Board" "boxSteps" "[I", Cond.lays "PushBoards$Board" "PushBoards$Board" "liveBesideInRow" "J", Cond.lays "PushBoards$Board" "PushBoards$Board" "liveBesideInColumn" "J"] : List Cond) := hw
  simp only [List.mem_cons, List.not_mem_nil, or_false] at h
  rcases h with rfl | rfl | rfl | rfl | rfl | rfl | rfl | rfl | rfl | rfl
  · exact inC1 95 rfl rfl
  · exact inC1 97 rfl rfl
  · exact inC1 99 rfl rfl
  · exact inC1 101 rfl rfl
  · exact inC1 103 rfl rfl
  · exact inC1 105 rfl rfl
  · exact inC1 107 rfl rfl
  · exact inC1 109 rfl rfl
  · exact inC1 111 rfl rfl
  · exact inC1 113 rfl rfl
theorem inX1 : ∀ w ∈ u_ws RX1 TX1 5, w ∈ wAll := by
  intro w hw
  have h : w ∈ ([Cond.lays "PushBoards$Log" "PushBoards$Log" "kept" "I", Cond.lays "PushBoards$Log" "PushBoards$Log" "moves" "I", Cond.lays "PushBoards$Log" "PushBoards$Log" "pushed" "I", Cond.laysFinal "PushBoards$Log" "PushBoards$Log" "marks" "[I", Cond.lays "PushBoards$Log" "PushBoards$Log" "end" "I"] : List Cond) := hw
  simp only [List.mem_cons, List.not_mem_nil, or_false] at h
  rcases h with rfl | rfl | rfl | rfl | rfl
  · exact inC1 130 rfl rfl
  · exact inC1 132 rfl rfl
  · exact inC1 134 rfl rfl
  · exact inC1 136 rfl rfl
  · exact inC1 138 rfl rfl
theorem inX2 : ∀ w ∈ u_ws RX2 TX2 7, w ∈ wAll := by
  intro w hw
  have h : w ∈ ([Cond.laysFinal "PushBoards$Matching" "PushBoards$Matching" "costs" "[I", Cond.laysFinal "PushBoards$Matching" "PushBoards$Matching" "goalLevel" "[I", Cond.laysFinal "PushBoards$Matching" "PushBoards$Matching" "boxLevel" "[I", Cond.laysFinal "PushBoards$Matching" "PushBoards$Matching" "goalOfBox" "[I", Cond.laysFinal "PushBoards$Matching" "PushBoards$Matching" "boxBefore" "[I", Cond.laysFinal "PushBoards$Matching" "PushBoards$Matching" "slack" "[I", Cond.laysFinal "PushBoards$Matching" "PushBoards$Matching" "seen" "[Z"] : List Cond) := hw
  simp only [List.mem_cons, List.not_mem_nil, or_false] at h
  rcases h with rfl | rfl | rfl | rfl | rfl | rfl | rfl
  · exact inC1 154 rfl rfl
  · exact inC1 156 rfl rfl
  · exact inC1 158 rfl rfl
  · exact inC1 160 rfl rfl
  · exact inC1 162 rfl rfl
  · exact inC1 164 rfl rfl
  · exact inC1 166 rfl rfl
theorem inX3 : ∀ w ∈ u_ws RX3 TX3 8, w ∈ wAll := by
  intro w hw
  have h : w ∈ ([Cond.lays "PushBoards$Picture" "PushBoards$Picture" "width" "I", Cond.lays "PushBoards$Picture" "PushBoards$Picture" "height" "I", Cond.lays "PushBoards$Picture" "PushBoards$Picture" "walls" "J", Cond.lays "PushBoards$Picture" "PushBoards$Picture" "goals" "J", Cond.lays "PushBoards$Picture" "PushBoards$Picture" "boxes" "J", Cond.lays "PushBoards$Picture" "PushBoards$Picture" "person" "J", Cond.lays "PushBoards$Picture" "PushBoards$Picture" "x" "I", Cond.lays "PushBoards$Picture" "PushBoards$Picture" "endedRows" "I"] : List Cond) := hw
  simp only [List.mem_cons, List.not_mem_nil, or_false] at h
  rcases h with rfl | rfl | rfl | rfl | rfl | rfl | rfl | rfl
  · exact inC1 50 rfl rfl
  · exact inC1 52 rfl rfl
  · exact inC1 54 rfl rfl
  · exact inC1 56 rfl rfl
  · exact inC1 58 rfl rfl
  · exact inC1 60 rfl rfl
  · exact inC1 62 rfl rfl
  · exact inC1 64 rfl rfl
theorem inX4 : ∀ w ∈ u_ws RX4 TX4 9, w ∈ wAll := by
  intro w hw
  have h : w ∈ ([Cond.lays "PushBoards$Search" "PushBoards$Search" "count" "I", Cond.lays "PushBoards$Search" "PushBoards$Search" "length" "I", Cond.lays "PushBoards$Search" "PushBoards$Search" "boxesOf" "[J", Cond.lays "PushBoards$Search" "PushBoards$Search" "lowestOf" "[I", Cond.lays "PushBoards$Search" "PushBoards$Search" "parentOf" "[I", Cond.lays "PushBoards$Search" "PushBoards$Search" "pushOf" "[I", Cond.lays "PushBoards$Search" "PushBoards$Search" "slots" "[I", Cond.lays "PushBoards$Search" "PushBoards$Search" "found" "I", Cond.lays "PushBoards$Search" "PushBoards$Search" "overfull" "Z"] : List Cond) := hw
  simp only [List.mem_cons, List.not_mem_nil, or_false] at h
  rcases h with rfl | rfl | rfl | rfl | rfl | rfl | rfl | rfl | rfl
  · exact inC1 187 rfl rfl
  · exact inC1 189 rfl rfl
  · exact inC1 191 rfl rfl
  · exact inC1 193 rfl rfl
  · exact inC1 195 rfl rfl
  · exact inC1 197 rfl rfl
  · exact inC1 199 rfl rfl
  · exact inC1 201 rfl rfl
  · exact inC1 203 rfl rfl
theorem inX5 : ∀ w ∈ u_ws RX5 TX5 7, w ∈ wAll := by
  intro w hw
  have h : w ∈ ([Cond.laysFinal "PushBoards" "PushBoards" "text" "[I", Cond.lays "PushBoards" "PushBoards" "textLength" "I", Cond.laysFinal "PushBoards" "PushBoards" "drawn" "LPushBoards$Picture;", Cond.laysFinal "PushBoards" "PushBoards" "board" "LPushBoards$Board;", Cond.laysFinal "PushBoards" "PushBoards" "log" "LPushBoards$Log;", Cond.laysFinal "PushBoards" "PushBoards" "matching" "LPushBoards$Matching;", Cond.laysFinal "PushBoards" "PushBoards" "latest" "LPushBoards$Search;"] : List Cond) := hw
  simp only [List.mem_cons, List.not_mem_nil, or_false] at h
  rcases h with rfl | rfl | rfl | rfl | rfl | rfl | rfl
  · exact inC1 214 rfl rfl
  · exact inC1 216 rfl rfl
  · exact inC1 218 rfl rfl
  · exact inC1 220 rfl rfl
  · exact inC1 222 rfl rfl
  · exact inC1 224 rfl rfl
  · exact inC1 226 rfl rfl
theorem inX6 : ∀ w ∈ u_ws RX6 TX6 30, w ∈ wAll := by
  intro w hw
  have h : w ∈ ([Cond.lays "PushBoardsModel" "PushBoardsModel" "thrown" "I", Cond.lays "PushBoardsModel" "PushBoardsModel" "size" "I", Cond.laysFinal "PushBoardsModel" "PushBoardsModel" "text" "[I", Cond.lays "PushBoardsModel" "PushBoardsModel" "isBoard" "Z", Cond.lays "PushBoardsModel" "PushBoardsModel" "width" "I", Cond.lays "PushBoardsModel" "PushBoardsModel" "height" "I", Cond.lays "PushBoardsModel" "PushBoardsModel" "person" "I", Cond.lays "PushBoardsModel" "PushBoardsModel" "moves" "I", Cond.lays "PushBoardsModel" "PushBoardsModel" "pushes" "I", Cond.lays "PushBoardsModel" "PushBoardsModel" "floor" "J", Cond.lays "PushBoardsModel" "PushBoardsModel" "goals" "J", Cond.lays "PushBoardsModel" "PushBoardsModel" "boxes" "J", Cond.lays "PushBoardsModel" "PushBoardsModel" "newFloor" "J", Cond.lays "PushBoardsModel" "PushBoardsModel" "newGoals" "J", Cond.lays "PushBoardsModel" "PushBoardsModel" "newBoxes" "J", Cond.lays "PushBoardsModel" "PushBoardsModel" "newPerson" "I", Cond.lays "PushBoardsModel" "PushBoardsModel" "newWidth" "I", Cond.lays "PushBoardsModel" "PushBoardsModel" "kept" "I", Cond.laysFinal "PushBoardsModel" "PushBoardsModel" "done" "[I", Cond.lays "PushBoardsModel" "PushBoardsModel" "many" "I", Cond.lays "PushBoardsModel" "PushBoardsModel" "taken" "I", Cond.lays "PushBoardsModel" "PushBoardsModel" "length" "I", Cond.laysFinal "PushBoardsModel" "PushBoardsModel" "stateBoxes" "[J", Cond.laysFinal "PushBoardsModel" "PushBoardsModel" "stateCell" "[I", Cond.laysFinal "PushBoardsModel" "PushBoardsModel" "from" "[I", Cond.laysFinal "PushBoardsModel" "PushBoardsModel" "by" "[I", Cond.laysFinal "PushBoardsModel" "PushBoardsModel" "seats" "[I", Cond.laysFinal "PushBoardsModel" "PushBoardsModel" "path" "[I", Cond.laysFinal "PushBoardsModel" "PushBoardsModel" "far" "[I", Cond.laysFinal "PushBoardsModel" "PushBoardsModel" "least" "[I"] : List Cond) := hw
  simp only [List.mem_cons, List.not_mem_nil, or_false] at h
  rcases h with rfl | rfl | rfl | rfl | rfl | rfl | rfl | rfl | rfl | rfl | rfl | rfl | rfl | rfl | rfl | rfl | rfl | rfl | rfl | rfl | rfl | rfl | rfl | rfl | rfl | rfl | rfl | rfl | rfl | rfl
  · exact inC4 19 rfl rfl
  · exact inC4 21 rfl rfl
  · exact inC4 23 rfl rfl
  · exact inC4 25 rfl rfl
  · exact inC4 27 rfl rfl
  · exact inC4 29 rfl rfl
  · exact inC4 31 rfl rfl
  · exact inC4 33 rfl rfl
  · exact inC4 35 rfl rfl
  · exact inC4 37 rfl rfl
  · exact inC4 39 rfl rfl
  · exact inC4 41 rfl rfl
  · exact inC4 43 rfl rfl
  · exact inC4 45 rfl rfl
  · exact inC4 47 rfl rfl
  · exact inC4 49 rfl rfl
  · exact inC4 51 rfl rfl
  · exact inC4 53 rfl rfl
  · exact inC4 55 rfl rfl
  · exact inC4 57 rfl rfl
  · exact inC4 59 rfl rfl
  · exact inC4 61 rfl rfl
  · exact inC4 63 rfl rfl
  · exact inC4 65 rfl rfl
  · exact inC4 67 rfl rfl
  · exact inC4 69 rfl rfl
  · exact inC4 71 rfl rfl
  · exact inC4 73 rfl rfl
  · exact inC4 75 rfl rfl
  · exact inC4 77 rfl rfl
theorem ws_fill : Cond.static yJ7_fill_53178 ∈ wAll := inC2 236 rfl rfl
theorem wi_arr : Cond.initialized RJ7 ∈ wAll := inC1 20 rfl rfl
theorem wc_fill : Cond.code yJ7_fill_53178 cJ7_fill_53178 4 none ∈ wAll := inC2 237 rfl rfl
theorem ws_max : Cond.static Lib.Math.max.name ∈ wAll := inC2 35 rfl rfl
theorem wc_max : Cond.code Lib.Math.max.name Lib.Math.max.code 2 (some .int) ∈ wAll := inC2 36 rfl rfl
theorem ws_min : Cond.static Lib.Math.min.name ∈ wAll := inC2 96 rfl rfl
theorem wc_min : Cond.code Lib.Math.min.name Lib.Math.min.code 2 (some .int) ∈ wAll := inC2 97 rfl rfl
theorem wi_math : Cond.initialized "java/lang/Math" ∈ wAll := inC1 9 rfl rfl
theorem fl_X5_48 : Cond.fieldLink RX5 48 "PushBoards" "textLength" "I" ∈ wAll := inC1 208 rfl rfl
theorem fl_X5_9 : Cond.fieldLink RX5 9 "PushBoards" "text" "[I" ∈ wAll := inC1 207 rfl rfl
theorem fl_X3_9 : Cond.fieldLink RX3 9 "PushBoards$Picture" "width" "I" ∈ wAll := inC1 36 rfl rfl
theorem fl_X3_15 : Cond.fieldLink RX3 15 "PushBoards$Picture" "height" "I" ∈ wAll := inC1 38 rfl rfl
theorem fl_X3_18 : Cond.fieldLink RX3 18 "PushBoards$Picture" "walls" "J" ∈ wAll := inC1 40 rfl rfl
theorem fl_X3_22 : Cond.fieldLink RX3 22 "PushBoards$Picture" "goals" "J" ∈ wAll := inC1 42 rfl rfl
theorem fl_X3_25 : Cond.fieldLink RX3 25 "PushBoards$Picture" "boxes" "J" ∈ wAll := inC1 44 rfl rfl
theorem fl_X3_28 : Cond.fieldLink RX3 28 "PushBoards$Picture" "person" "J" ∈ wAll := inC1 46 rfl rfl
theorem fl_X3_31 : Cond.fieldLink RX3 31 "PushBoards$Picture" "x" "I" ∈ wAll := inC1 48 rfl rfl
theorem fl_X3_34 : Cond.fieldLink RX3 34 "PushBoards$Picture" "endedRows" "I" ∈ wAll := inC1 49 rfl rfl
theorem cn_J13_314 : Cond.constantLong RJ13 314 (6148914691236517205) ∈ wAll := inC2 23 rfl rfl
theorem cn_J13_316 : Cond.constantLong RJ13 316 (3689348814741910323) ∈ wAll := inC2 24 rfl rfl
theorem cn_J13_318 : Cond.constantLong RJ13 318 (1085102592571150095) ∈ wAll := inC2 25 rfl rfl
theorem wi_J13 : Cond.initialized RJ13 ∈ wAll := inC1 8 rfl rfl
theorem wc_J13_bitCount_95d88 : Cond.code yJ13_bitCount_95d88 cJ13_bitCount_95d88 2 (some .int) ∈ wAll := inC2 22 rfl rfl
theorem wm_J13_bitCount_95d88 : Cond.static yJ13_bitCount_95d88 ∈ wAll := inC2 21 rfl rfl
theorem lk_X3_51 : gLS RX3 51 yJ13_bitCount_95d88 cJ13_bitCount_95d88 2 (some .int) 1 := ⟨⟨(inC2 20 rfl rfl), wm_J13_bitCount_95d88⟩, wi_J13, wc_J13_bitCount_95d88, by decide +kernel, by decide +kernel, by decide +kernel⟩
theorem wi_X3 : Cond.initialized RX3 ∈ wAll := inC1 2 rfl rfl
theorem wc_X3_takesBox : Cond.code yX3_takesBox cX3_takesBox 3 (some .boolean) ∈ wAll := inC2 29 rfl rfl
theorem wm_X3_takesBox : Cond.instanceMethod yX3_takesBox ∈ wAll := inC2 28 rfl rfl
theorem wl_X3_takesBox : Cond.selects RX3 yX3_takesBox yX3_takesBox ∈ wAll := inL (by decide +kernel) rfl
theorem lk_X3_61 : gLV RX3 61 RX3 yX3_takesBox cX3_takesBox 3 (some .boolean) 1 := ⟨⟨(inC2 26 rfl rfl), wm_X3_takesBox, wl_X3_takesBox⟩, wi_X3, wc_X3_takesBox, by decide +kernel, by decide +kernel, by decide +kernel⟩
theorem wc_X3_takesGoal : Cond.code yX3_takesGoal cX3_takesGoal 3 (some .boolean) ∈ wAll := inC2 19 rfl rfl
theorem wm_X3_takesGoal : Cond.instanceMethod yX3_takesGoal ∈ wAll := inC2 18 rfl rfl
theorem wl_X3_takesGoal : Cond.selects RX3 yX3_takesGoal yX3_takesGoal ∈ wAll := inL (by decide +kernel) rfl
theorem lk_X3_57 : gLV RX3 57 RX3 yX3_takesGoal cX3_takesGoal 3 (some .boolean) 1 := ⟨⟨(inC2 16 rfl rfl), wm_X3_takesGoal, wl_X3_takesGoal⟩, wi_X3, wc_X3_takesGoal, by decide +kernel, by decide +kernel, by decide +kernel⟩
theorem wc_X3_takesPerson : Cond.code yX3_takesPerson cX3_takesPerson 4 (some .boolean) ∈ wAll := inC2 33 rfl rfl
theorem wm_X3_takesPerson : Cond.instanceMethod yX3_takesPerson ∈ wAll := inC2 32 rfl rfl
theorem wl_X3_takesPerson : Cond.selects RX3 yX3_takesPerson yX3_takesPerson ∈ wAll := inL (by decide +kernel) rfl
theorem lk_X3_64 : gLV RX3 64 RX3 yX3_takesPerson cX3_takesPerson 4 (some .boolean) 1 := ⟨⟨(inC2 30 rfl rfl), wm_X3_takesPerson, wl_X3_takesPerson⟩, wi_X3, wc_X3_takesPerson, by decide +kernel, by decide +kernel, by decide +kernel⟩
theorem wi_X5 : Cond.initialized RX5 ∈ wAll := inC1 1 rfl rfl
theorem wc_X5_cellAt : Cond.code yX5_cellAt cX5_cellAt 2 (some .long) ∈ wAll := inC2 11 rfl rfl
theorem wm_X5_cellAt : Cond.static yX5_cellAt ∈ wAll := inC2 10 rfl rfl
theorem lk_X3_37 : gLN RX3 37 yX5_cellAt "PushBoards" cX5_cellAt 2 (some .long) 2 := ⟨⟨by decide +kernel, wm_X5_cellAt⟩, wi_X5, wc_X5_cellAt, by decide +kernel, by decide +kernel, by decide +kernel⟩
theorem wc_X3_takesSign : Cond.code yX3_takesSign cX3_takesSign 4 (some .boolean) ∈ wAll := inC2 15 rfl rfl
theorem wm_X3_takesSign : Cond.instanceMethod yX3_takesSign ∈ wAll := inC2 14 rfl rfl
theorem wl_X3_takesSign : Cond.selects RX3 yX3_takesSign yX3_takesSign ∈ wAll := inL (by decide +kernel) rfl
theorem lk_X3_41 : gLV RX3 41 RX3 yX3_takesSign cX3_takesSign 4 (some .boolean) 2 := ⟨⟨(inC2 12 rfl rfl), wm_X3_takesSign, wl_X3_takesSign⟩, wi_X3, wc_X3_takesSign, by decide +kernel, by decide +kernel, by decide +kernel⟩
theorem mt_X3_45 : Cond.methodLink RX3 45 Lib.Math.max.name ∈ wAll := inC2 34 rfl rfl
theorem lk_X0_86 : gLN RX0 86 yX5_cellAt "PushBoards" cX5_cellAt 2 (some .long) 2 := ⟨⟨by decide +kernel, wm_X5_cellAt⟩, wi_X5, wc_X5_cellAt, by decide +kernel, by decide +kernel, by decide +kernel⟩
theorem cn_X5_231 : Cond.constantLong RX5 231 (9187201950435737471) ∈ wAll := inC2 60 rfl rfl
theorem cn_X5_233 : Cond.constantLong RX5 233 (-72340172838076674) ∈ wAll := inC2 61 rfl rfl
theorem fl_X0_36 : Cond.fieldLink RX0 36 "PushBoards$Board" "floor" "J" ∈ wAll := inC1 78 rfl rfl
theorem wc_X5_against : Cond.code yX5_against cX5_against 1 (some .int) ∈ wAll := inC2 56 rfl rfl
theorem wm_X5_against : Cond.static yX5_against ∈ wAll := inC2 55 rfl rfl
theorem lk_X0_72 : gLN RX0 72 yX5_against "PushBoards" cX5_against 1 (some .int) 1 := ⟨⟨by decide +kernel, wm_X5_against⟩, wi_X5, wc_X5_against, by decide +kernel, by decide +kernel, by decide +kernel⟩
theorem wc_X5_shifted : Cond.code yX5_shifted cX5_shifted 3 (some .long) ∈ wAll := inC2 59 rfl rfl
theorem wm_X5_shifted : Cond.static yX5_shifted ∈ wAll := inC2 58 rfl rfl
theorem lk_X0_58 : gLN RX0 58 yX5_shifted "PushBoards" cX5_shifted 3 (some .long) 2 := ⟨⟨by decide +kernel, wm_X5_shifted⟩, wi_X5, wc_X5_shifted, by decide +kernel, by decide +kernel, by decide +kernel⟩
theorem fl_X0_42 : Cond.fieldLink RX0 42 "PushBoards$Board" "goals" "J" ∈ wAll := inC1 80 rfl rfl
theorem fl_X0_15 : Cond.fieldLink RX0 15 "PushBoards$Picture" "width" "I" ∈ wAll := inC1 37 rfl rfl
theorem fl_X0_21 : Cond.fieldLink RX0 21 "PushBoards$Board" "width" "I" ∈ wAll := inC1 74 rfl rfl
theorem fl_X0_22 : Cond.fieldLink RX0 22 "PushBoards$Picture" "height" "I" ∈ wAll := inC1 39 rfl rfl
theorem fl_X0_25 : Cond.fieldLink RX0 25 "PushBoards$Board" "height" "I" ∈ wAll := inC1 76 rfl rfl
theorem wi_X0 : Cond.initialized RX0 ∈ wAll := inC1 3 rfl rfl
theorem wc_X0_rectangle : Cond.code yX0_rectangle cX0_rectangle 6 (some .long) ∈ wAll := inC2 47 rfl rfl
theorem wm_X0_rectangle : Cond.static yX0_rectangle ∈ wAll := inC2 46 rfl rfl
theorem lk_X0_26 : gLS RX0 26 yX0_rectangle cX0_rectangle 6 (some .long) 2 := ⟨⟨(inC2 45 rfl rfl), wm_X0_rectangle⟩, wi_X0, wc_X0_rectangle, by decide +kernel, by decide +kernel, by decide +kernel⟩
theorem fl_X0_30 : Cond.fieldLink RX0 30 "PushBoards$Picture" "walls" "J" ∈ wAll := inC1 41 rfl rfl
theorem cn_X0_34 : Cond.constantLong RX0 34 (-1) ∈ wAll := inC2 49 rfl rfl
theorem fl_X0_39 : Cond.fieldLink RX0 39 "PushBoards$Picture" "goals" "J" ∈ wAll := inC1 43 rfl rfl
theorem fl_X0_43 : Cond.fieldLink RX0 43 "PushBoards$Picture" "boxes" "J" ∈ wAll := inC1 45 rfl rfl
theorem fl_X0_46 : Cond.fieldLink RX0 46 "PushBoards$Board" "boxes" "J" ∈ wAll := inC1 86 rfl rfl
theorem fl_X0_47 : Cond.fieldLink RX0 47 "PushBoards$Picture" "person" "J" ∈ wAll := inC1 47 rfl rfl
theorem fl_X0_50 : Cond.fieldLink RX0 50 "PushBoards$Board" "person" "J" ∈ wAll := inC1 89 rfl rfl
theorem wc_X0_liveCells : Cond.code yX0_liveCells cX0_liveCells 7 (some .long) ∈ wAll := inC2 53 rfl rfl
theorem wm_X0_liveCells : Cond.instanceMethod yX0_liveCells ∈ wAll := inC2 52 rfl rfl
theorem wl_X0_liveCells : Cond.selects RX0 yX0_liveCells yX0_liveCells ∈ wAll := inL (by decide +kernel) rfl
theorem lk_X0_51 : gLV RX0 51 RX0 yX0_liveCells cX0_liveCells 7 (some .long) 0 := ⟨⟨(inC2 50 rfl rfl), wm_X0_liveCells, wl_X0_liveCells⟩, wi_X0, wc_X0_liveCells, by decide +kernel, by decide +kernel, by decide +kernel⟩
theorem fl_X0_55 : Cond.fieldLink RX0 55 "PushBoards$Board" "live" "J" ∈ wAll := inC1 82 rfl rfl
theorem fl_X0_62 : Cond.fieldLink RX0 62 "PushBoards$Board" "liveBesideInRow" "J" ∈ wAll := inC1 93 rfl rfl
theorem fl_X0_65 : Cond.fieldLink RX0 65 "PushBoards$Board" "liveBesideInColumn" "J" ∈ wAll := inC1 94 rfl rfl
theorem fl_X1_13 : Cond.fieldLink RX1 13 "PushBoards$Log" "kept" "I" ∈ wAll := inC1 122 rfl rfl
theorem fl_X1_17 : Cond.fieldLink RX1 17 "PushBoards$Log" "moves" "I" ∈ wAll := inC1 124 rfl rfl
theorem fl_X1_20 : Cond.fieldLink RX1 20 "PushBoards$Log" "pushed" "I" ∈ wAll := inC1 126 rfl rfl
theorem fl_X1_23 : Cond.fieldLink RX1 23 "PushBoards$Log" "end" "I" ∈ wAll := inC1 129 rfl rfl
theorem fl_X5_16 : Cond.fieldLink RX5 16 "PushBoards" "drawn" "LPushBoards$Picture;" ∈ wAll := inC1 209 rfl rfl
theorem wc_X3_isBoard : Cond.code yX3_isBoard cX3_isBoard 1 (some .boolean) ∈ wAll := inC2 40 rfl rfl
theorem wm_X3_isBoard : Cond.instanceMethod yX3_isBoard ∈ wAll := inC2 38 rfl rfl
theorem wl_X3_isBoard : Cond.selects RX3 yX3_isBoard yX3_isBoard ∈ wAll := inC2 39 rfl rfl
theorem lk_X5_63 : gLV RX5 63 RX3 yX3_isBoard cX3_isBoard 1 (some .boolean) 0 := ⟨⟨(inC2 37 rfl rfl), wm_X3_isBoard, wl_X3_isBoard⟩, wi_X3, wc_X3_isBoard, by decide +kernel, by decide +kernel, by decide +kernel⟩
theorem fl_X5_23 : Cond.fieldLink RX5 23 "PushBoards" "board" "LPushBoards$Board;" ∈ wAll := inC1 210 rfl rfl
theorem wc_X0_setUp : Cond.code yX0_setUp cX0_setUp 2 none ∈ wAll := inC2 44 rfl rfl
theorem wm_X0_setUp : Cond.instanceMethod yX0_setUp ∈ wAll := inC2 42 rfl rfl
theorem wl_X0_setUp : Cond.selects RX0 yX0_setUp yX0_setUp ∈ wAll := inC2 43 rfl rfl
theorem lk_X5_67 : gLV RX5 67 RX0 yX0_setUp cX0_setUp 2 none 1 := ⟨⟨(inC2 41 rfl rfl), wm_X0_setUp, wl_X0_setUp⟩, wi_X0, wc_X0_setUp, by decide +kernel, by decide +kernel, by decide +kernel⟩
theorem fl_X5_30 : Cond.fieldLink RX5 30 "PushBoards" "log" "LPushBoards$Log;" ∈ wAll := inC1 211 rfl rfl
theorem wi_X1 : Cond.initialized RX1 ∈ wAll := inC1 4 rfl rfl
theorem wc_X1_clear : Cond.code yX1_clear cX1_clear 1 none ∈ wAll := inC2 65 rfl rfl
theorem wm_X1_clear : Cond.instanceMethod yX1_clear ∈ wAll := inC2 63 rfl rfl
theorem wl_X1_clear : Cond.selects RX1 yX1_clear yX1_clear ∈ wAll := inC2 64 rfl rfl
theorem lk_X5_71 : gLV RX5 71 RX1 yX1_clear cX1_clear 1 none 0 := ⟨⟨(inC2 62 rfl rfl), wm_X1_clear, wl_X1_clear⟩, wi_X1, wc_X1_clear, by decide +kernel, by decide +kernel, by decide +kernel⟩
theorem fl_X5_72 : Cond.fieldLink RX5 72 "PushBoards$Board" "boxes" "J" ∈ wAll := inC1 87 rfl rfl
theorem lk_X5_76 : gLS RX5 76 yJ13_bitCount_95d88 cJ13_bitCount_95d88 2 (some .int) 1 := ⟨⟨(inC2 66 rfl rfl), wm_J13_bitCount_95d88⟩, wi_J13, wc_J13_bitCount_95d88, by decide +kernel, by decide +kernel, by decide +kernel⟩
theorem wc_X3_takes : Cond.code yX3_takes cX3_takes 2 (some .boolean) ∈ wAll := inC2 8 rfl rfl
theorem wm_X3_takes : Cond.instanceMethod yX3_takes ∈ wAll := inC2 6 rfl rfl
theorem wl_X3_takes : Cond.selects RX3 yX3_takes yX3_takes ∈ wAll := inC2 7 rfl rfl
theorem lk_X5_59 : gLV RX5 59 RX3 yX3_takes cX3_takes 2 (some .boolean) 1 := ⟨⟨(inC2 5 rfl rfl), wm_X3_takes, wl_X3_takes⟩, wi_X3, wc_X3_takes, by decide +kernel, by decide +kernel, by decide +kernel⟩
theorem wc_X5_takeText : Cond.code yX5_takeText cX5_takeText 2 (some .int) ∈ wAll := inC2 0 rfl rfl
theorem wm_X5_takeText : Cond.instanceMethod yX5_takeText ∈ wAll := inC1 239 rfl rfl
theorem wl_X5_takeText : Cond.selects RX5 yX5_takeText yX5_takeText ∈ wAll := inL (by decide +kernel) rfl
theorem lk_X5_52 : gLV RX5 52 RX5 yX5_takeText cX5_takeText 2 (some .int) 0 := ⟨⟨(inC1 237 rfl rfl), wm_X5_takeText, wl_X5_takeText⟩, wi_X5, wc_X5_takeText, by decide +kernel, by decide +kernel, by decide +kernel⟩
theorem wc_X3_clear : Cond.code yX3_clear cX3_clear 1 none ∈ wAll := inC2 4 rfl rfl
theorem wm_X3_clear : Cond.instanceMethod yX3_clear ∈ wAll := inC2 2 rfl rfl
theorem wl_X3_clear : Cond.selects RX3 yX3_clear yX3_clear ∈ wAll := inC2 3 rfl rfl
theorem lk_X5_56 : gLV RX5 56 RX3 yX3_clear cX3_clear 1 none 0 := ⟨⟨(inC2 1 rfl rfl), wm_X3_clear, wl_X3_clear⟩, wi_X3, wc_X3_clear, by decide +kernel, by decide +kernel, by decide +kernel⟩
theorem mt_X1_26 : Cond.methodLink RX1 26 Lib.Math.min.name ∈ wAll := inC2 95 rfl rfl
theorem fl_X1_9 : Cond.fieldLink RX1 9 "PushBoards$Log" "marks" "[I" ∈ wAll := inC1 128 rfl rfl
theorem wc_X1_add : Cond.code yX1_add cX1_add 3 none ∈ wAll := inC2 94 rfl rfl
theorem wm_X1_add : Cond.instanceMethod yX1_add ∈ wAll := inC2 92 rfl rfl
theorem wl_X1_add : Cond.selects RX1 yX1_add yX1_add ∈ wAll := inC2 93 rfl rfl
theorem lk_X5_226 : gLV RX5 226 RX1 yX1_add cX1_add 3 none 2 := ⟨⟨(inC2 91 rfl rfl), wm_X1_add, wl_X1_add⟩, wi_X1, wc_X1_add, by decide +kernel, by decide +kernel, by decide +kernel⟩
theorem wc_X0_isThere : Cond.code yX0_isThere cX0_isThere 1 (some .boolean) ∈ wAll := inC2 86 rfl rfl
theorem wm_X0_isThere : Cond.instanceMethod yX0_isThere ∈ wAll := inC2 84 rfl rfl
theorem wl_X0_isThere : Cond.selects RX0 yX0_isThere yX0_isThere ∈ wAll := inC2 85 rfl rfl
theorem lk_X5_95 : gLV RX5 95 RX0 yX0_isThere cX0_isThere 1 (some .boolean) 0 := ⟨⟨(inC2 83 rfl rfl), wm_X0_isThere, wl_X0_isThere⟩, wi_X0, wc_X0_isThere, by decide +kernel, by decide +kernel, by decide +kernel⟩
theorem wc_X0_go : Cond.code yX0_go cX0_go 6 (some .int) ∈ wAll := inC2 90 rfl rfl
theorem wm_X0_go : Cond.instanceMethod yX0_go ∈ wAll := inC2 88 rfl rfl
theorem wl_X0_go : Cond.selects RX0 yX0_go yX0_go ∈ wAll := inC2 89 rfl rfl
theorem lk_X5_223 : gLV RX5 223 RX0 yX0_go cX0_go 6 (some .int) 1 := ⟨⟨(inC2 87 rfl rfl), wm_X0_go, wl_X0_go⟩, wi_X0, wc_X0_go, by decide +kernel, by decide +kernel, by decide +kernel⟩
theorem wc_X5_goOnce : Cond.code yX5_goOnce cX5_goOnce 3 (some .int) ∈ wAll := inC2 82 rfl rfl
theorem wm_X5_goOnce : Cond.instanceMethod yX5_goOnce ∈ wAll := inC2 81 rfl rfl
theorem wl_X5_goOnce : Cond.selects RX5 yX5_goOnce yX5_goOnce ∈ wAll := inL (by decide +kernel) rfl
theorem lk_X5_110 : gLV RX5 110 RX5 yX5_goOnce cX5_goOnce 3 (some .int) 1 := ⟨⟨(inC2 79 rfl rfl), wm_X5_goOnce, wl_X5_goOnce⟩, wi_X5, wc_X5_goOnce, by decide +kernel, by decide +kernel, by decide +kernel⟩
theorem mt_X5_82 : Cond.methodLink RX5 82 Lib.Math.max.name ∈ wAll := inC2 71 rfl rfl
theorem wc_X5_wayOfLetter : Cond.code yX5_wayOfLetter cX5_wayOfLetter 1 (some .int) ∈ wAll := inC2 74 rfl rfl
theorem wm_X5_wayOfLetter : Cond.static yX5_wayOfLetter ∈ wAll := inC2 73 rfl rfl
theorem lk_X5_88 : gLS RX5 88 yX5_wayOfLetter cX5_wayOfLetter 1 (some .int) 1 := ⟨⟨(inC2 72 rfl rfl), wm_X5_wayOfLetter⟩, wi_X5, wc_X5_wayOfLetter, by decide +kernel, by decide +kernel, by decide +kernel⟩
theorem wc_X5_goOften : Cond.code yX5_goOften cX5_goOften 4 (some .int) ∈ wAll := inC2 78 rfl rfl
theorem wm_X5_goOften : Cond.instanceMethod yX5_goOften ∈ wAll := inC2 77 rfl rfl
theorem wl_X5_goOften : Cond.selects RX5 yX5_goOften yX5_goOften ∈ wAll := inL (by decide +kernel) rfl
theorem lk_X5_92 : gLV RX5 92 RX5 yX5_goOften cX5_goOften 4 (some .int) 2 := ⟨⟨(inC2 75 rfl rfl), wm_X5_goOften, wl_X5_goOften⟩, wi_X5, wc_X5_goOften, by decide +kernel, by decide +kernel, by decide +kernel⟩
theorem wc_X1_isPush : Cond.code yX1_isPush cX1_isPush 1 (some .boolean) ∈ wAll := inC2 108 rfl rfl
theorem wm_X1_isPush : Cond.static yX1_isPush ∈ wAll := inC2 107 rfl rfl
theorem lk_X1_32 : gLS RX1 32 yX1_isPush cX1_isPush 1 (some .boolean) 1 := ⟨⟨(inC2 106 rfl rfl), wm_X1_isPush⟩, wi_X1, wc_X1_isPush, by decide +kernel, by decide +kernel, by decide +kernel⟩
theorem fl_X5_113 : Cond.fieldLink RX5 113 "PushBoards$Log" "kept" "I" ∈ wAll := inC1 123 rfl rfl
theorem wc_X1_takeLast : Cond.code yX1_takeLast cX1_takeLast 2 (some .int) ∈ wAll := inC2 105 rfl rfl
theorem wm_X1_takeLast : Cond.instanceMethod yX1_takeLast ∈ wAll := inC2 103 rfl rfl
theorem wl_X1_takeLast : Cond.selects RX1 yX1_takeLast yX1_takeLast ∈ wAll := inC2 104 rfl rfl
theorem lk_X5_116 : gLV RX5 116 RX1 yX1_takeLast cX1_takeLast 2 (some .int) 0 := ⟨⟨(inC2 102 rfl rfl), wm_X1_takeLast, wl_X1_takeLast⟩, wi_X1, wc_X1_takeLast, by decide +kernel, by decide +kernel, by decide +kernel⟩
theorem lk_X5_119 : gLS RX5 119 yX1_isPush cX1_isPush 1 (some .boolean) 1 := ⟨⟨(inC2 109 rfl rfl), wm_X1_isPush⟩, wi_X1, wc_X1_isPush, by decide +kernel, by decide +kernel, by decide +kernel⟩
theorem wc_X1_wayOf : Cond.code yX1_wayOf cX1_wayOf 1 (some .int) ∈ wAll := inC2 112 rfl rfl
theorem wm_X1_wayOf : Cond.static yX1_wayOf ∈ wAll := inC2 111 rfl rfl
theorem lk_X5_122 : gLS RX5 122 yX1_wayOf cX1_wayOf 1 (some .int) 1 := ⟨⟨(inC2 110 rfl rfl), wm_X1_wayOf⟩, wi_X1, wc_X1_wayOf, by decide +kernel, by decide +kernel, by decide +kernel⟩
theorem wc_X0_goBack : Cond.code yX0_goBack cX0_goBack 3 none ∈ wAll := inC2 116 rfl rfl
theorem wm_X0_goBack : Cond.instanceMethod yX0_goBack ∈ wAll := inC2 114 rfl rfl
theorem wl_X0_goBack : Cond.selects RX0 yX0_goBack yX0_goBack ∈ wAll := inC2 115 rfl rfl
theorem lk_X5_125 : gLV RX5 125 RX0 yX0_goBack cX0_goBack 3 none 2 := ⟨⟨(inC2 113 rfl rfl), wm_X0_goBack, wl_X0_goBack⟩, wi_X0, wc_X0_goBack, by decide +kernel, by decide +kernel, by decide +kernel⟩
theorem wc_X5_spotOf : Cond.code yX5_spotOf cX5_spotOf 2 (some .int) ∈ wAll := inC2 127 rfl rfl
theorem wm_X5_spotOf : Cond.static yX5_spotOf ∈ wAll := inC2 126 rfl rfl
theorem lk_X0_68 : gLN RX0 68 yX5_spotOf "PushBoards" cX5_spotOf 2 (some .int) 1 := ⟨⟨by decide +kernel, wm_X5_spotOf⟩, wi_X5, wc_X5_spotOf, by decide +kernel, by decide +kernel, by decide +kernel⟩
theorem fl_X5_129 : Cond.fieldLink RX5 129 "PushBoards$Board" "width" "I" ∈ wAll := inC1 75 rfl rfl
theorem fl_X5_132 : Cond.fieldLink RX5 132 "PushBoards$Board" "height" "I" ∈ wAll := inC1 77 rfl rfl
theorem fl_X5_135 : Cond.fieldLink RX5 135 "PushBoards$Board" "goals" "J" ∈ wAll := inC1 81 rfl rfl
theorem fl_X5_138 : Cond.fieldLink RX5 138 "PushBoards$Log" "moves" "I" ∈ wAll := inC1 125 rfl rfl
theorem fl_X5_141 : Cond.fieldLink RX5 141 "PushBoards$Log" "pushed" "I" ∈ wAll := inC1 127 rfl rfl
theorem fl_X5_144 : Cond.fieldLink RX5 144 "PushBoards$Board" "person" "J" ∈ wAll := inC1 90 rfl rfl
theorem wc_X0_cellOf : Cond.code yX0_cellOf cX0_cellOf 4 (some .int) ∈ wAll := inC2 124 rfl rfl
theorem wm_X0_cellOf : Cond.instanceMethod yX0_cellOf ∈ wAll := inC2 122 rfl rfl
theorem wl_X0_cellOf : Cond.selects RX0 yX0_cellOf yX0_cellOf ∈ wAll := inC2 123 rfl rfl
theorem lk_X5_147 : gLV RX5 147 RX0 yX0_cellOf cX0_cellOf 4 (some .int) 1 := ⟨⟨(inC2 121 rfl rfl), wm_X0_cellOf, wl_X0_cellOf⟩, wi_X0, wc_X0_cellOf, by decide +kernel, by decide +kernel, by decide +kernel⟩
theorem wc_X0_isDone : Cond.code yX0_isDone cX0_isDone 3 (some .boolean) ∈ wAll := inC2 131 rfl rfl
theorem wm_X0_isDone : Cond.instanceMethod yX0_isDone ∈ wAll := inC2 129 rfl rfl
theorem wl_X0_isDone : Cond.selects RX0 yX0_isDone yX0_isDone ∈ wAll := inC2 130 rfl rfl
theorem lk_X5_150 : gLV RX5 150 RX0 yX0_isDone cX0_isDone 3 (some .boolean) 1 := ⟨⟨(inC2 128 rfl rfl), wm_X0_isDone, wl_X0_isDone⟩, wi_X0, wc_X0_isDone, by decide +kernel, by decide +kernel, by decide +kernel⟩
theorem lk_X5_154 : gLS RX5 154 yX5_cellAt cX5_cellAt 2 (some .long) 2 := ⟨⟨(inC2 136 rfl rfl), wm_X5_cellAt⟩, wi_X5, wc_X5_cellAt, by decide +kernel, by decide +kernel, by decide +kernel⟩
theorem wc_X0_signAt : Cond.code yX0_signAt cX0_signAt 4 (some .int) ∈ wAll := inC2 140 rfl rfl
theorem wm_X0_signAt : Cond.instanceMethod yX0_signAt ∈ wAll := inC2 138 rfl rfl
theorem wl_X0_signAt : Cond.selects RX0 yX0_signAt yX0_signAt ∈ wAll := inC2 139 rfl rfl
theorem lk_X5_158 : gLV RX5 158 RX0 yX0_signAt cX0_signAt 4 (some .int) 1 := ⟨⟨(inC2 137 rfl rfl), wm_X0_signAt, wl_X0_signAt⟩, wi_X0, wc_X0_signAt, by decide +kernel, by decide +kernel, by decide +kernel⟩
theorem wc_X1_letterAt : Cond.code yX1_letterAt cX1_letterAt 3 (some .int) ∈ wAll := inC2 148 rfl rfl
theorem wm_X1_letterAt : Cond.instanceMethod yX1_letterAt ∈ wAll := inC2 146 rfl rfl
theorem wl_X1_letterAt : Cond.selects RX1 yX1_letterAt yX1_letterAt ∈ wAll := inC2 147 rfl rfl
theorem lk_X5_161 : gLV RX5 161 RX1 yX1_letterAt cX1_letterAt 3 (some .int) 1 := ⟨⟨(inC2 145 rfl rfl), wm_X1_letterAt, wl_X1_letterAt⟩, wi_X1, wc_X1_letterAt, by decide +kernel, by decide +kernel, by decide +kernel⟩
theorem wc_X0_reachOf : Cond.code yX0_reachOf cX0_reachOf 13 (some .long) ∈ wAll := inC2 206 rfl rfl
theorem wm_X0_reachOf : Cond.instanceMethod yX0_reachOf ∈ wAll := inC2 204 rfl rfl
theorem wl_X0_reachOf : Cond.selects RX0 yX0_reachOf yX0_reachOf ∈ wAll := inC2 205 rfl rfl
theorem lk_X5_164 : gLV RX5 164 RX0 yX0_reachOf cX0_reachOf 13 (some .long) 2 := ⟨⟨(inC2 203 rfl rfl), wm_X0_reachOf, wl_X0_reachOf⟩, wi_X0, wc_X0_reachOf, by decide +kernel, by decide +kernel, by decide +kernel⟩
theorem wc_X5_existing : Cond.code yX5_existing cX5_existing 3 (some .long) ∈ wAll := inC3 200 rfl rfl
theorem wm_X5_existing : Cond.instanceMethod yX5_existing ∈ wAll := inC3 199 rfl rfl
theorem wl_X5_existing : Cond.selects RX5 yX5_existing yX5_existing ∈ wAll := inL (by decide +kernel) rfl
theorem lk_X5_168 : gLV RX5 168 RX5 yX5_existing cX5_existing 3 (some .long) 2 := ⟨⟨(inC3 197 rfl rfl), wm_X5_existing, wl_X5_existing⟩, wi_X5, wc_X5_existing, by decide +kernel, by decide +kernel, by decide +kernel⟩
theorem wc_X0_stepsTo : Cond.code yX0_stepsTo cX0_stepsTo 11 (some .int) ∈ wAll := inC3 205 rfl rfl
theorem wm_X0_stepsTo : Cond.instanceMethod yX0_stepsTo ∈ wAll := inC3 203 rfl rfl
theorem wl_X0_stepsTo : Cond.selects RX0 yX0_stepsTo yX0_stepsTo ∈ wAll := inC3 204 rfl rfl
theorem lk_X5_171 : gLV RX5 171 RX0 yX0_stepsTo cX0_stepsTo 11 (some .int) 1 := ⟨⟨(inC3 202 rfl rfl), wm_X0_stepsTo, wl_X0_stepsTo⟩, wi_X0, wc_X0_stepsTo, by decide +kernel, by decide +kernel, by decide +kernel⟩
theorem fl_X5_174 : Cond.fieldLink RX5 174 "PushBoards$Board" "floor" "J" ∈ wAll := inC1 79 rfl rfl
theorem fl_X5_177 : Cond.fieldLink RX5 177 "PushBoards$Board" "live" "J" ∈ wAll := inC1 84 rfl rfl
theorem cn_X5_180 : Cond.constantLong RX5 180 (-1) ∈ wAll := inC3 213 rfl rfl
theorem wc_X0_standing : Cond.code yX0_standing cX0_standing 14 (some .long) ∈ wAll := inC2 214 rfl rfl
theorem wm_X0_standing : Cond.instanceMethod yX0_standing ∈ wAll := inC2 212 rfl rfl
theorem wl_X0_standing : Cond.selects RX0 yX0_standing yX0_standing ∈ wAll := inC2 213 rfl rfl
theorem lk_X5_182 : gLV RX5 182 RX0 yX0_standing cX0_standing 14 (some .long) 1 := ⟨⟨(inC2 211 rfl rfl), wm_X0_standing, wl_X0_standing⟩, wi_X0, wc_X0_standing, by decide +kernel, by decide +kernel, by decide +kernel⟩
theorem lk_X0_82 : gLV RX0 82 RX0 yX0_standing cX0_standing 14 (some .long) 1 := ⟨⟨(inC2 223 rfl rfl), wm_X0_standing, wl_X0_standing⟩, wi_X0, wc_X0_standing, by decide +kernel, by decide +kernel, by decide +kernel⟩
theorem wc_X0_isStuck : Cond.code yX0_isStuck cX0_isStuck 3 (some .boolean) ∈ wAll := inC2 222 rfl rfl
theorem wm_X0_isStuck : Cond.instanceMethod yX0_isStuck ∈ wAll := inC2 220 rfl rfl
theorem wl_X0_isStuck : Cond.selects RX0 yX0_isStuck yX0_isStuck ∈ wAll := inC2 221 rfl rfl
theorem lk_X5_186 : gLV RX5 186 RX0 yX0_isStuck cX0_isStuck 3 (some .boolean) 1 := ⟨⟨(inC2 219 rfl rfl), wm_X0_isStuck, wl_X0_isStuck⟩, wi_X0, wc_X0_isStuck, by decide +kernel, by decide +kernel, by decide +kernel⟩
theorem fl_X0_9 : Cond.fieldLink RX0 9 "PushBoards$Board" "boxSteps" "[I" ∈ wAll := inC1 91 rfl rfl
theorem lk_X0_76 : gLS RX0 76 yJ7_fill_53178 cJ7_fill_53178 4 none 2 := ⟨⟨(inC2 235 rfl rfl), ws_fill⟩, wi_arr, wc_fill, by decide +kernel, by decide +kernel, by decide +kernel⟩
theorem fl_X2_11 : Cond.fieldLink RX2 11 "PushBoards$Matching" "costs" "[I" ∈ wAll := inC1 147 rfl rfl
theorem cn_X2_34 : Cond.constant RX2 34 (100000) ∈ wAll := inC3 2 rfl rfl
theorem fl_X2_30 : Cond.fieldLink RX2 30 "PushBoards$Matching" "seen" "[Z" ∈ wAll := inC1 153 rfl rfl
theorem fl_X2_27 : Cond.fieldLink RX2 27 "PushBoards$Matching" "slack" "[I" ∈ wAll := inC1 152 rfl rfl
theorem fl_X2_15 : Cond.fieldLink RX2 15 "PushBoards$Matching" "goalLevel" "[I" ∈ wAll := inC1 148 rfl rfl
theorem fl_X2_21 : Cond.fieldLink RX2 21 "PushBoards$Matching" "goalOfBox" "[I" ∈ wAll := inC1 150 rfl rfl
theorem fl_X2_18 : Cond.fieldLink RX2 18 "PushBoards$Matching" "boxLevel" "[I" ∈ wAll := inC1 149 rfl rfl
theorem fl_X2_24 : Cond.fieldLink RX2 24 "PushBoards$Matching" "boxBefore" "[I" ∈ wAll := inC1 151 rfl rfl
theorem cn_X2_45 : Cond.constant RX2 45 (1000000000) ∈ wAll := inC3 12 rfl rfl
theorem wi_X2 : Cond.initialized RX2 ∈ wAll := inC1 5 rfl rfl
theorem wc_X2_nextBox : Cond.code yX2_nextBox cX2_nextBox 8 (some .int) ∈ wAll := inC3 16 rfl rfl
theorem wm_X2_nextBox : Cond.instanceMethod yX2_nextBox ∈ wAll := inC3 15 rfl rfl
theorem wl_X2_nextBox : Cond.selects RX2 yX2_nextBox yX2_nextBox ∈ wAll := inL (by decide +kernel) rfl
theorem lk_X2_46 : gLV RX2 46 RX2 yX2_nextBox cX2_nextBox 8 (some .int) 2 := ⟨⟨(inC3 13 rfl rfl), wm_X2_nextBox, wl_X2_nextBox⟩, wi_X2, wc_X2_nextBox, by decide +kernel, by decide +kernel, by decide +kernel⟩
theorem wc_X2_giveBoxTo : Cond.code yX2_giveBoxTo cX2_giveBoxTo 6 none ∈ wAll := inC3 11 rfl rfl
theorem wm_X2_giveBoxTo : Cond.instanceMethod yX2_giveBoxTo ∈ wAll := inC3 10 rfl rfl
theorem wl_X2_giveBoxTo : Cond.selects RX2 yX2_giveBoxTo yX2_giveBoxTo ∈ wAll := inL (by decide +kernel) rfl
theorem lk_X2_41 : gLV RX2 41 RX2 yX2_giveBoxTo cX2_giveBoxTo 6 none 2 := ⟨⟨(inC3 8 rfl rfl), wm_X2_giveBoxTo, wl_X2_giveBoxTo⟩, wi_X2, wc_X2_giveBoxTo, by decide +kernel, by decide +kernel, by decide +kernel⟩
theorem lk_X2_35 : gLS RX2 35 yJ7_fill_53178 cJ7_fill_53178 4 none 2 := ⟨⟨(inC3 7 rfl rfl), ws_fill⟩, wi_arr, wc_fill, by decide +kernel, by decide +kernel, by decide +kernel⟩
theorem wc_X5_has : Cond.code yX5_has cX5_has 3 (some .boolean) ∈ wAll := inC2 230 rfl rfl
theorem wm_X5_has : Cond.static yX5_has ∈ wAll := inC2 229 rfl rfl
theorem lk_X5_189 : gLS RX5 189 yX5_has cX5_has 3 (some .boolean) 2 := ⟨⟨(inC2 228 rfl rfl), wm_X5_has⟩, wi_X5, wc_X5_has, by decide +kernel, by decide +kernel, by decide +kernel⟩
theorem fl_X5_37 : Cond.fieldLink RX5 37 "PushBoards" "matching" "LPushBoards$Matching;" ∈ wAll := inC1 212 rfl rfl
theorem fl_X5_197 : Cond.fieldLink RX5 197 "PushBoards$Board" "boxSteps" "[I" ∈ wAll := inC1 92 rfl rfl
theorem wc_X2_setCost : Cond.code yX2_setCost cX2_setCost 4 none ∈ wAll := inC3 1 rfl rfl
theorem wm_X2_setCost : Cond.instanceMethod yX2_setCost ∈ wAll := inC2 239 rfl rfl
theorem wl_X2_setCost : Cond.selects RX2 yX2_setCost yX2_setCost ∈ wAll := inC3 0 rfl rfl
theorem lk_X5_200 : gLV RX5 200 RX2 yX2_setCost cX2_setCost 4 none 3 := ⟨⟨(inC2 238 rfl rfl), wm_X2_setCost, wl_X2_setCost⟩, wi_X2, wc_X2_setCost, by decide +kernel, by decide +kernel, by decide +kernel⟩
theorem wc_X2_leastSum : Cond.code yX2_leastSum cX2_leastSum 5 (some .int) ∈ wAll := inC3 6 rfl rfl
theorem wm_X2_leastSum : Cond.instanceMethod yX2_leastSum ∈ wAll := inC3 4 rfl rfl
theorem wl_X2_leastSum : Cond.selects RX2 yX2_leastSum yX2_leastSum ∈ wAll := inC3 5 rfl rfl
theorem lk_X5_204 : gLV RX5 204 RX2 yX2_leastSum cX2_leastSum 5 (some .int) 2 := ⟨⟨(inC3 3 rfl rfl), wm_X2_leastSum, wl_X2_leastSum⟩, wi_X2, wc_X2_leastSum, by decide +kernel, by decide +kernel, by decide +kernel⟩
theorem wc_X0_fillBoxSteps : Cond.code yX0_fillBoxSteps cX0_fillBoxSteps 13 none ∈ wAll := inC2 234 rfl rfl
theorem wm_X0_fillBoxSteps : Cond.instanceMethod yX0_fillBoxSteps ∈ wAll := inC2 232 rfl rfl
theorem wl_X0_fillBoxSteps : Cond.selects RX0 yX0_fillBoxSteps yX0_fillBoxSteps ∈ wAll := inC2 233 rfl rfl
theorem lk_X5_193 : gLV RX5 193 RX0 yX0_fillBoxSteps cX0_fillBoxSteps 13 none 1 := ⟨⟨(inC2 231 rfl rfl), wm_X0_fillBoxSteps, wl_X0_fillBoxSteps⟩, wi_X0, wc_X0_fillBoxSteps, by decide +kernel, by decide +kernel, by decide +kernel⟩
theorem lk_X5_207 : gLS RX5 207 yX5_spotOf cX5_spotOf 2 (some .int) 1 := ⟨⟨(inC3 221 rfl rfl), wm_X5_spotOf⟩, wi_X5, wc_X5_spotOf, by decide +kernel, by decide +kernel, by decide +kernel⟩
theorem fl_X4_25 : Cond.fieldLink RX4 25 "PushBoards$Search" "slots" "[I" ∈ wAll := inC1 184 rfl rfl
theorem fl_X4_11 : Cond.fieldLink RX4 11 "PushBoards$Search" "boxesOf" "[J" ∈ wAll := inC1 180 rfl rfl
theorem fl_X4_15 : Cond.fieldLink RX4 15 "PushBoards$Search" "lowestOf" "[I" ∈ wAll := inC1 181 rfl rfl
theorem cn_X4_121 : Cond.constantLong RX4 121 (-7046029254386353131) ∈ wAll := inC3 62 rfl rfl
theorem fl_X4_34 : Cond.fieldLink RX4 34 "PushBoards$Search" "count" "I" ∈ wAll := inC1 176 rfl rfl
theorem wi_X4 : Cond.initialized RX4 ∈ wAll := inC1 6 rfl rfl
theorem wc_X4_slotOf : Cond.code yX4_slotOf cX4_slotOf 10 (some .int) ∈ wAll := inC3 61 rfl rfl
theorem wm_X4_slotOf : Cond.instanceMethod yX4_slotOf ∈ wAll := inC3 60 rfl rfl
theorem wl_X4_slotOf : Cond.selects RX4 yX4_slotOf yX4_slotOf ∈ wAll := inL (by decide +kernel) rfl
theorem lk_X4_107 : gLV RX4 107 RX4 yX4_slotOf cX4_slotOf 10 (some .int) 2 := ⟨⟨(inC3 58 rfl rfl), wm_X4_slotOf, wl_X4_slotOf⟩, wi_X4, wc_X4_slotOf, by decide +kernel, by decide +kernel, by decide +kernel⟩
theorem lk_X4_114 : gLS RX4 114 yJ7_copyOf_c38d5 cJ7_copyOf_c38d5 3 (some (.array .long)) 2 := ⟨⟨(inC3 36 rfl rfl), (inC3 37 rfl rfl)⟩, wi_arr, (inC3 38 rfl rfl), by decide +kernel, by decide +kernel, by decide +kernel⟩
theorem lk_X4_118 : gLS RX4 118 yJ7_copyOf_59c91 cJ7_copyOf_59c91 3 (some (.array .int)) 2 := ⟨⟨(inC3 50 rfl rfl), (inC3 51 rfl rfl)⟩, wi_arr, (inC3 52 rfl rfl), by decide +kernel, by decide +kernel, by decide +kernel⟩
theorem fl_X4_19 : Cond.fieldLink RX4 19 "PushBoards$Search" "parentOf" "[I" ∈ wAll := inC1 182 rfl rfl
theorem fl_X4_22 : Cond.fieldLink RX4 22 "PushBoards$Search" "pushOf" "[I" ∈ wAll := inC1 183 rfl rfl
theorem wc_X4_makeRoom : Cond.code yX4_makeRoom cX4_makeRoom 2 none ∈ wAll := inC3 35 rfl rfl
theorem wm_X4_makeRoom : Cond.instanceMethod yX4_makeRoom ∈ wAll := inC3 34 rfl rfl
theorem wl_X4_makeRoom : Cond.selects RX4 yX4_makeRoom yX4_makeRoom ∈ wAll := inL (by decide +kernel) rfl
theorem lk_X4_111 : gLV RX4 111 RX4 yX4_makeRoom cX4_makeRoom 2 none 0 := ⟨⟨(inC3 32 rfl rfl), wm_X4_makeRoom, wl_X4_makeRoom⟩, wi_X4, wc_X4_makeRoom, by decide +kernel, by decide +kernel, by decide +kernel⟩
theorem lk_X4_104 : gLV RX4 104 RX0 yX0_isStuck cX0_isStuck 3 (some .boolean) 1 := ⟨⟨(inC3 77 rfl rfl), wm_X0_isStuck, wl_X0_isStuck⟩, wi_X0, wc_X0_isStuck, by decide +kernel, by decide +kernel, by decide +kernel⟩
theorem lk_X4_57 : gLV RX4 57 RX0 yX0_reachOf cX0_reachOf 13 (some .long) 2 := ⟨⟨(inC3 26 rfl rfl), wm_X0_reachOf, wl_X0_reachOf⟩, wi_X0, wc_X0_reachOf, by decide +kernel, by decide +kernel, by decide +kernel⟩
theorem lk_X4_61 : gLN RX4 61 yX5_spotOf "PushBoards" cX5_spotOf 2 (some .int) 1 := ⟨⟨by decide +kernel, wm_X5_spotOf⟩, wi_X5, wc_X5_spotOf, by decide +kernel, by decide +kernel, by decide +kernel⟩
theorem wc_X4_takeIn : Cond.code yX4_takeIn cX4_takeIn 6 none ∈ wAll := inC3 31 rfl rfl
theorem wm_X4_takeIn : Cond.instanceMethod yX4_takeIn ∈ wAll := inC3 30 rfl rfl
theorem wl_X4_takeIn : Cond.selects RX4 yX4_takeIn yX4_takeIn ∈ wAll := inL (by decide +kernel) rfl
theorem lk_X4_65 : gLV RX4 65 RX4 yX4_takeIn cX4_takeIn 6 none 4 := ⟨⟨(inC3 28 rfl rfl), wm_X4_takeIn, wl_X4_takeIn⟩, wi_X4, wc_X4_takeIn, by decide +kernel, by decide +kernel, by decide +kernel⟩
theorem lk_X4_69 : gLV RX4 69 RX0 yX0_isDone cX0_isDone 3 (some .boolean) 1 := ⟨⟨(inC3 63 rfl rfl), wm_X0_isDone, wl_X0_isDone⟩, wi_X0, wc_X0_isDone, by decide +kernel, by decide +kernel, by decide +kernel⟩
theorem fl_X4_41 : Cond.fieldLink RX4 41 "PushBoards$Search" "found" "I" ∈ wAll := inC1 185 rfl rfl
theorem fl_X4_44 : Cond.fieldLink RX4 44 "PushBoards$Search" "overfull" "Z" ∈ wAll := inC1 186 rfl rfl
theorem lk_X4_90 : gLN RX4 90 yX5_shifted "PushBoards" cX5_shifted 3 (some .long) 2 := ⟨⟨by decide +kernel, wm_X5_shifted⟩, wi_X5, wc_X5_shifted, by decide +kernel, by decide +kernel, by decide +kernel⟩
theorem lk_X4_94 : gLN RX4 94 yX5_against "PushBoards" cX5_against 1 (some .int) 1 := ⟨⟨by decide +kernel, wm_X5_against⟩, wi_X5, wc_X5_against, by decide +kernel, by decide +kernel, by decide +kernel⟩
theorem lk_X4_97 : gLV RX4 97 RX0 yX0_cellOf cX0_cellOf 4 (some .int) 1 := ⟨⟨(inC3 72 rfl rfl), wm_X0_cellOf, wl_X0_cellOf⟩, wi_X0, wc_X0_cellOf, by decide +kernel, by decide +kernel, by decide +kernel⟩
theorem wc_X4_comeTo : Cond.code yX4_comeTo cX4_comeTo 10 none ∈ wAll := inC3 76 rfl rfl
theorem wm_X4_comeTo : Cond.instanceMethod yX4_comeTo ∈ wAll := inC3 75 rfl rfl
theorem wl_X4_comeTo : Cond.selects RX4 yX4_comeTo yX4_comeTo ∈ wAll := inL (by decide +kernel) rfl
theorem lk_X4_100 : gLV RX4 100 RX4 yX4_comeTo cX4_comeTo 10 none 6 := ⟨⟨(inC3 73 rfl rfl), wm_X4_comeTo, wl_X4_comeTo⟩, wi_X4, wc_X4_comeTo, by decide +kernel, by decide +kernel, by decide +kernel⟩
theorem lk_X4_86 : gLN RX4 86 yX5_has "PushBoards" cX5_has 3 (some .boolean) 2 := ⟨⟨by decide +kernel, wm_X5_has⟩, wi_X5, wc_X5_has, by decide +kernel, by decide +kernel, by decide +kernel⟩
theorem fl_X4_81 : Cond.fieldLink RX4 81 "PushBoards$Board" "live" "J" ∈ wAll := inC1 83 rfl rfl
theorem cn_X4_84 : Cond.constantLong RX4 84 (-1) ∈ wAll := inC3 68 rfl rfl
theorem wc_X4_pushesTo : Cond.code yX4_pushesTo cX4_pushesTo 5 (some .int) ∈ wAll := inC3 81 rfl rfl
theorem wm_X4_pushesTo : Cond.instanceMethod yX4_pushesTo ∈ wAll := inC3 80 rfl rfl
theorem wl_X4_pushesTo : Cond.selects RX4 yX4_pushesTo yX4_pushesTo ∈ wAll := inL (by decide +kernel) rfl
theorem lk_X4_77 : gLV RX4 77 RX4 yX4_pushesTo cX4_pushesTo 5 (some .int) 1 := ⟨⟨(inC3 78 rfl rfl), wm_X4_pushesTo, wl_X4_pushesTo⟩, wi_X4, wc_X4_pushesTo, by decide +kernel, by decide +kernel, by decide +kernel⟩
theorem fl_X4_38 : Cond.fieldLink RX4 38 "PushBoards$Search" "length" "I" ∈ wAll := inC1 178 rfl rfl
theorem wc_X4_pushFrom : Cond.code yX4_pushFrom cX4_pushFrom 16 none ∈ wAll := inC3 67 rfl rfl
theorem wm_X4_pushFrom : Cond.instanceMethod yX4_pushFrom ∈ wAll := inC3 66 rfl rfl
theorem wl_X4_pushFrom : Cond.selects RX4 yX4_pushFrom yX4_pushFrom ∈ wAll := inL (by decide +kernel) rfl
theorem lk_X4_73 : gLV RX4 73 RX4 yX4_pushFrom cX4_pushFrom 16 none 3 := ⟨⟨(inC3 64 rfl rfl), wm_X4_pushFrom, wl_X4_pushFrom⟩, wi_X4, wc_X4_pushFrom, by decide +kernel, by decide +kernel, by decide +kernel⟩
theorem lk_X4_28 : gLS RX4 28 yJ7_fill_53178 cJ7_fill_53178 4 none 2 := ⟨⟨(inC3 25 rfl rfl), ws_fill⟩, wi_arr, wc_fill, by decide +kernel, by decide +kernel, by decide +kernel⟩
theorem fl_X4_48 : Cond.fieldLink RX4 48 "PushBoards$Board" "person" "J" ∈ wAll := inC1 88 rfl rfl
theorem fl_X4_54 : Cond.fieldLink RX4 54 "PushBoards$Board" "boxes" "J" ∈ wAll := inC1 85 rfl rfl
theorem fl_X5_44 : Cond.fieldLink RX5 44 "PushBoards" "latest" "LPushBoards$Search;" ∈ wAll := inC1 213 rfl rfl
theorem wc_X4_run : Cond.code yX4_run cX4_run 5 (some .int) ∈ wAll := inC3 24 rfl rfl
theorem wm_X4_run : Cond.instanceMethod yX4_run ∈ wAll := inC3 22 rfl rfl
theorem wl_X4_run : Cond.selects RX4 yX4_run yX4_run ∈ wAll := inC3 23 rfl rfl
theorem lk_X5_210 : gLV RX5 210 RX4 yX4_run cX4_run 5 (some .int) 2 := ⟨⟨(inC3 21 rfl rfl), wm_X4_run, wl_X4_run⟩, wi_X4, wc_X4_run, by decide +kernel, by decide +kernel, by decide +kernel⟩
theorem fl_X5_214 : Cond.fieldLink RX5 214 "PushBoards$Search" "length" "I" ∈ wAll := inC1 179 rfl rfl
theorem wc_X4_pushAt : Cond.code yX4_pushAt cX4_pushAt 4 (some .int) ∈ wAll := inC3 89 rfl rfl
theorem wm_X4_pushAt : Cond.instanceMethod yX4_pushAt ∈ wAll := inC3 87 rfl rfl
theorem wl_X4_pushAt : Cond.selects RX4 yX4_pushAt yX4_pushAt ∈ wAll := inC3 88 rfl rfl
theorem lk_X5_217 : gLV RX5 217 RX4 yX4_pushAt cX4_pushAt 4 (some .int) 1 := ⟨⟨(inC3 86 rfl rfl), wm_X4_pushAt, wl_X4_pushAt⟩, wi_X4, wc_X4_pushAt, by decide +kernel, by decide +kernel, by decide +kernel⟩
theorem fl_X5_220 : Cond.fieldLink RX5 220 "PushBoards$Search" "count" "I" ∈ wAll := inC1 177 rfl rfl
theorem fl_X6_42 : Cond.fieldLink RX6 42 "PushBoardsModel" "thrown" "I" ∈ wAll := inC3 229 rfl rfl
theorem fl_X6_46 : Cond.fieldLink RX6 46 "PushBoardsModel" "width" "I" ∈ wAll := inC3 233 rfl rfl
theorem fl_X6_49 : Cond.fieldLink RX6 49 "PushBoardsModel" "height" "I" ∈ wAll := inC3 234 rfl rfl
theorem wi_X6 : Cond.initialized RX6 ∈ wAll := inC1 7 rfl rfl
theorem wc_X6_isCell : Cond.code yX6_isCell cX6_isCell 3 (some .boolean) ∈ wAll := inC4 121 rfl rfl
theorem wm_X6_isCell : Cond.instanceMethod yX6_isCell ∈ wAll := inC4 120 rfl rfl
theorem wl_X6_isCell : Cond.selects RX6 yX6_isCell yX6_isCell ∈ wAll := inL (by decide +kernel) rfl
theorem lk_X6_52 : gLV RX6 52 RX6 yX6_isCell cX6_isCell 3 (some .boolean) 2 := ⟨⟨(inC4 118 rfl rfl), wm_X6_isCell, wl_X6_isCell⟩, wi_X6, wc_X6_isCell, by decide +kernel, by decide +kernel, by decide +kernel⟩
theorem fl_X6_56 : Cond.fieldLink RX6 56 "PushBoardsModel" "size" "I" ∈ wAll := inC3 230 rfl rfl
theorem fl_X6_7 : Cond.fieldLink RX6 7 "PushBoardsModel" "text" "[I" ∈ wAll := inC3 231 rfl rfl
theorem fl_X6_69 : Cond.fieldLink RX6 69 "PushBoardsModel" "newPerson" "I" ∈ wAll := inC4 4 rfl rfl
theorem fl_X6_72 : Cond.fieldLink RX6 72 "PushBoardsModel" "newWidth" "I" ∈ wAll := inC4 5 rfl rfl
theorem fl_X6_66 : Cond.fieldLink RX6 66 "PushBoardsModel" "newBoxes" "J" ∈ wAll := inC4 3 rfl rfl
theorem fl_X6_63 : Cond.fieldLink RX6 63 "PushBoardsModel" "newGoals" "J" ∈ wAll := inC4 2 rfl rfl
theorem fl_X6_59 : Cond.fieldLink RX6 59 "PushBoardsModel" "newFloor" "J" ∈ wAll := inC4 1 rfl rfl
theorem wc_X6_countOf : Cond.code yX6_countOf cX6_countOf 4 (some .int) ∈ wAll := inC4 98 rfl rfl
theorem wm_X6_countOf : Cond.static yX6_countOf ∈ wAll := inC4 97 rfl rfl
theorem lk_X6_75 : gLS RX6 75 yX6_countOf cX6_countOf 4 (some .int) 1 := ⟨⟨(inC4 96 rfl rfl), wm_X6_countOf⟩, wi_X6, wc_X6_countOf, by decide +kernel, by decide +kernel, by decide +kernel⟩
theorem wc_X6_has : Cond.code yX6_has cX6_has 3 (some .boolean) ∈ wAll := inC4 101 rfl rfl
theorem wm_X6_has : Cond.static yX6_has ∈ wAll := inC4 100 rfl rfl
theorem lk_X6_90 : gLS RX6 90 yX6_has cX6_has 3 (some .boolean) 2 := ⟨⟨(inC4 99 rfl rfl), wm_X6_has⟩, wi_X6, wc_X6_has, by decide +kernel, by decide +kernel, by decide +kernel⟩
theorem fl_X6_87 : Cond.fieldLink RX6 87 "PushBoardsModel" "floor" "J" ∈ wAll := inC3 238 rfl rfl
theorem fl_X6_94 : Cond.fieldLink RX6 94 "PushBoardsModel" "goals" "J" ∈ wAll := inC3 239 rfl rfl
theorem fl_X6_97 : Cond.fieldLink RX6 97 "PushBoardsModel" "boxes" "J" ∈ wAll := inC4 0 rfl rfl
theorem fl_X6_100 : Cond.fieldLink RX6 100 "PushBoardsModel" "person" "I" ∈ wAll := inC3 235 rfl rfl
theorem fl_X6_103 : Cond.fieldLink RX6 103 "PushBoardsModel" "moves" "I" ∈ wAll := inC3 236 rfl rfl
theorem fl_X6_106 : Cond.fieldLink RX6 106 "PushBoardsModel" "pushes" "I" ∈ wAll := inC3 237 rfl rfl
theorem fl_X6_109 : Cond.fieldLink RX6 109 "PushBoardsModel" "kept" "I" ∈ wAll := inC4 6 rfl rfl
theorem fl_X6_83 : Cond.fieldLink RX6 83 "PushBoardsModel" "isBoard" "Z" ∈ wAll := inC3 232 rfl rfl
theorem wc_X6_look : Cond.code yX6_look cX6_look 10 (some .int) ∈ wAll := inC4 95 rfl rfl
theorem wm_X6_look : Cond.instanceMethod yX6_look ∈ wAll := inC4 94 rfl rfl
theorem wl_X6_look : Cond.selects RX6 yX6_look yX6_look ∈ wAll := inL (by decide +kernel) rfl
theorem lk_X6_79 : gLV RX6 79 RX6 yX6_look cX6_look 10 (some .int) 0 := ⟨⟨(inC4 92 rfl rfl), wm_X6_look, wl_X6_look⟩, wi_X6, wc_X6_look, by decide +kernel, by decide +kernel, by decide +kernel⟩
theorem fl_X6_13 : Cond.fieldLink RX6 13 "PushBoardsModel" "done" "[I" ∈ wAll := inC4 7 rfl rfl
theorem wc_X6_beside : Cond.code yX6_beside cX6_beside 5 (some .int) ∈ wAll := inC4 117 rfl rfl
theorem wm_X6_beside : Cond.instanceMethod yX6_beside ∈ wAll := inC4 116 rfl rfl
theorem wl_X6_beside : Cond.selects RX6 yX6_beside yX6_beside ∈ wAll := inL (by decide +kernel) rfl
theorem lk_X6_112 : gLV RX6 112 RX6 yX6_beside cX6_beside 5 (some .int) 2 := ⟨⟨(inC4 114 rfl rfl), wm_X6_beside, wl_X6_beside⟩, wi_X6, wc_X6_beside, by decide +kernel, by decide +kernel, by decide +kernel⟩
theorem cn_X6_116 : Cond.constantLong RX6 116 (-1) ∈ wAll := inC4 122 rfl rfl
theorem wc_X6_throwsIf : Cond.code yX6_throwsIf cX6_throwsIf 3 (some .boolean) ∈ wAll := inC4 109 rfl rfl
theorem wm_X6_throwsIf : Cond.instanceMethod yX6_throwsIf ∈ wAll := inC4 108 rfl rfl
theorem wl_X6_throwsIf : Cond.selects RX6 yX6_throwsIf yX6_throwsIf ∈ wAll := inL (by decide +kernel) rfl
theorem lk_X6_118 : gLV RX6 118 RX6 yX6_throwsIf cX6_throwsIf 3 (some .boolean) 2 := ⟨⟨(inC4 106 rfl rfl), wm_X6_throwsIf, wl_X6_throwsIf⟩, wi_X6, wc_X6_throwsIf, by decide +kernel, by decide +kernel, by decide +kernel⟩
theorem wc_X6_go : Cond.code yX6_go cX6_go 5 (some .int) ∈ wAll := inC4 113 rfl rfl
theorem wm_X6_go : Cond.instanceMethod yX6_go ∈ wAll := inC4 112 rfl rfl
theorem wl_X6_go : Cond.selects RX6 yX6_go yX6_go ∈ wAll := inL (by decide +kernel) rfl
theorem lk_X6_122 : gLV RX6 122 RX6 yX6_go cX6_go 5 (some .int) 1 := ⟨⟨(inC4 110 rfl rfl), wm_X6_go, wl_X6_go⟩, wi_X6, wc_X6_go, by decide +kernel, by decide +kernel, by decide +kernel⟩
theorem wc_X6_against : Cond.code yX6_against cX6_against 2 (some .int) ∈ wAll := inC4 130 rfl rfl
theorem wm_X6_against : Cond.instanceMethod yX6_against ∈ wAll := inC4 129 rfl rfl
theorem wl_X6_against : Cond.selects RX6 yX6_against yX6_against ∈ wAll := inL (by decide +kernel) rfl
theorem lk_X6_126 : gLV RX6 126 RX6 yX6_against cX6_against 2 (some .int) 1 := ⟨⟨(inC4 127 rfl rfl), wm_X6_against, wl_X6_against⟩, wi_X6, wc_X6_against, by decide +kernel, by decide +kernel, by decide +kernel⟩
theorem wc_X6_wayOf : Cond.code yX6_wayOf cX6_wayOf 1 (some .int) ∈ wAll := inC4 137 rfl rfl
theorem wm_X6_wayOf : Cond.static yX6_wayOf ∈ wAll := inC4 136 rfl rfl
theorem lk_X6_129 : gLS RX6 129 yX6_wayOf cX6_wayOf 1 (some .int) 1 := ⟨⟨(inC4 135 rfl rfl), wm_X6_wayOf⟩, wi_X6, wc_X6_wayOf, by decide +kernel, by decide +kernel, by decide +kernel⟩
theorem wc_X6_number : Cond.code yX6_number cX6_number 2 (some .int) ∈ wAll := inC4 145 rfl rfl
theorem wm_X6_number : Cond.instanceMethod yX6_number ∈ wAll := inC4 144 rfl rfl
theorem wl_X6_number : Cond.selects RX6 yX6_number yX6_number ∈ wAll := inL (by decide +kernel) rfl
theorem lk_X6_132 : gLV RX6 132 RX6 yX6_number cX6_number 2 (some .int) 1 := ⟨⟨(inC4 142 rfl rfl), wm_X6_number, wl_X6_number⟩, wi_X6, wc_X6_number, by decide +kernel, by decide +kernel, by decide +kernel⟩
theorem wc_X6_isDone : Cond.code yX6_isDone cX6_isDone 3 (some .boolean) ∈ wAll := inC4 149 rfl rfl
theorem wm_X6_isDone : Cond.instanceMethod yX6_isDone ∈ wAll := inC4 148 rfl rfl
theorem wl_X6_isDone : Cond.selects RX6 yX6_isDone yX6_isDone ∈ wAll := inL (by decide +kernel) rfl
theorem lk_X6_135 : gLV RX6 135 RX6 yX6_isDone cX6_isDone 3 (some .boolean) 1 := ⟨⟨(inC4 146 rfl rfl), wm_X6_isDone, wl_X6_isDone⟩, wi_X6, wc_X6_isDone, by decide +kernel, by decide +kernel, by decide +kernel⟩
theorem wc_X6_reachOf : Cond.code yX6_reachOf cX6_reachOf 10 (some .long) ∈ wAll := inC4 165 rfl rfl
theorem wm_X6_reachOf : Cond.instanceMethod yX6_reachOf ∈ wAll := inC4 164 rfl rfl
theorem wl_X6_reachOf : Cond.selects RX6 yX6_reachOf yX6_reachOf ∈ wAll := inL (by decide +kernel) rfl
theorem lk_X6_139 : gLV RX6 139 RX6 yX6_reachOf cX6_reachOf 10 (some .long) 2 := ⟨⟨(inC4 162 rfl rfl), wm_X6_reachOf, wl_X6_reachOf⟩, wi_X6, wc_X6_reachOf, by decide +kernel, by decide +kernel, by decide +kernel⟩
theorem fl_X6_36 : Cond.fieldLink RX6 36 "PushBoardsModel" "far" "[I" ∈ wAll := inC4 17 rfl rfl
theorem wc_X6_live : Cond.code yX6_live cX6_live 7 (some .long) ∈ wAll := inC4 177 rfl rfl
theorem wm_X6_live : Cond.instanceMethod yX6_live ∈ wAll := inC4 176 rfl rfl
theorem wl_X6_live : Cond.selects RX6 yX6_live yX6_live ∈ wAll := inL (by decide +kernel) rfl
theorem lk_X6_143 : gLV RX6 143 RX6 yX6_live cX6_live 7 (some .long) 0 := ⟨⟨(inC4 174 rfl rfl), wm_X6_live, wl_X6_live⟩, wi_X6, wc_X6_live, by decide +kernel, by decide +kernel, by decide +kernel⟩
theorem wc_X6_canGo : Cond.code yX6_canGo cX6_canGo 9 (some .boolean) ∈ wAll := inC4 189 rfl rfl
theorem wm_X6_canGo : Cond.instanceMethod yX6_canGo ∈ wAll := inC4 188 rfl rfl
theorem wl_X6_canGo : Cond.selects RX6 yX6_canGo yX6_canGo ∈ wAll := inL (by decide +kernel) rfl
theorem lk_X6_147 : gLV RX6 147 RX6 yX6_canGo cX6_canGo 9 (some .boolean) 4 := ⟨⟨(inC4 186 rfl rfl), wm_X6_canGo, wl_X6_canGo⟩, wi_X6, wc_X6_canGo, by decide +kernel, by decide +kernel, by decide +kernel⟩
theorem wc_X6_fastOf : Cond.code yX6_fastOf cX6_fastOf 10 (some .long) ∈ wAll := inC4 185 rfl rfl
theorem wm_X6_fastOf : Cond.instanceMethod yX6_fastOf ∈ wAll := inC4 184 rfl rfl
theorem wl_X6_fastOf : Cond.selects RX6 yX6_fastOf yX6_fastOf ∈ wAll := inL (by decide +kernel) rfl
theorem lk_X6_151 : gLV RX6 151 RX6 yX6_fastOf cX6_fastOf 10 (some .long) 2 := ⟨⟨(inC4 182 rfl rfl), wm_X6_fastOf, wl_X6_fastOf⟩, wi_X6, wc_X6_fastOf, by decide +kernel, by decide +kernel, by decide +kernel⟩
theorem wc_X6_measure : Cond.code yX6_measure cX6_measure 6 none ∈ wAll := inC4 201 rfl rfl
theorem wm_X6_measure : Cond.instanceMethod yX6_measure ∈ wAll := inC4 200 rfl rfl
theorem wl_X6_measure : Cond.selects RX6 yX6_measure yX6_measure ∈ wAll := inL (by decide +kernel) rfl
theorem lk_X6_155 : gLV RX6 155 RX6 yX6_measure cX6_measure 6 none 1 := ⟨⟨(inC4 198 rfl rfl), wm_X6_measure, wl_X6_measure⟩, wi_X6, wc_X6_measure, by decide +kernel, by decide +kernel, by decide +kernel⟩
theorem fl_X6_39 : Cond.fieldLink RX6 39 "PushBoardsModel" "least" "[I" ∈ wAll := inC4 18 rfl rfl
theorem wc_X6_goalAt : Cond.code yX6_goalAt cX6_goalAt 4 (some .int) ∈ wAll := inC4 209 rfl rfl
theorem wm_X6_goalAt : Cond.instanceMethod yX6_goalAt ∈ wAll := inC4 208 rfl rfl
theorem wl_X6_goalAt : Cond.selects RX6 yX6_goalAt yX6_goalAt ∈ wAll := inL (by decide +kernel) rfl
theorem lk_X6_159 : gLV RX6 159 RX6 yX6_goalAt cX6_goalAt 4 (some .int) 1 := ⟨⟨(inC4 206 rfl rfl), wm_X6_goalAt, wl_X6_goalAt⟩, wi_X6, wc_X6_goalAt, by decide +kernel, by decide +kernel, by decide +kernel⟩
theorem cn_X6_29 : Cond.constant RX6 29 (32768) ∈ wAll := inC3 228 rfl rfl
theorem fl_X6_30 : Cond.fieldLink RX6 30 "PushBoardsModel" "seats" "[I" ∈ wAll := inC4 15 rfl rfl
theorem fl_X6_16 : Cond.fieldLink RX6 16 "PushBoardsModel" "stateBoxes" "[J" ∈ wAll := inC4 11 rfl rfl
theorem fl_X6_20 : Cond.fieldLink RX6 20 "PushBoardsModel" "stateCell" "[I" ∈ wAll := inC4 12 rfl rfl
theorem cn_X6_162 : Cond.constantLong RX6 162 (31) ∈ wAll := inC4 229 rfl rfl
theorem cn_X6_164 : Cond.constantLong RX6 164 (32767) ∈ wAll := inC4 230 rfl rfl
theorem wc_X6_leastOf : Cond.code yX6_leastOf cX6_leastOf 3 (some .int) ∈ wAll := inC4 224 rfl rfl
theorem wm_X6_leastOf : Cond.static yX6_leastOf ∈ wAll := inC4 223 rfl rfl
theorem lk_X6_166 : gLS RX6 166 yX6_leastOf cX6_leastOf 3 (some .int) 1 := ⟨⟨(inC4 222 rfl rfl), wm_X6_leastOf⟩, wi_X6, wc_X6_leastOf, by decide +kernel, by decide +kernel, by decide +kernel⟩
theorem wc_X6_seatOf : Cond.code yX6_seatOf cX6_seatOf 7 (some .int) ∈ wAll := inC4 228 rfl rfl
theorem wm_X6_seatOf : Cond.instanceMethod yX6_seatOf ∈ wAll := inC4 227 rfl rfl
theorem wl_X6_seatOf : Cond.selects RX6 yX6_seatOf yX6_seatOf ∈ wAll := inL (by decide +kernel) rfl
theorem lk_X6_169 : gLV RX6 169 RX6 yX6_seatOf cX6_seatOf 7 (some .int) 2 := ⟨⟨(inC4 225 rfl rfl), wm_X6_seatOf, wl_X6_seatOf⟩, wi_X6, wc_X6_seatOf, by decide +kernel, by decide +kernel, by decide +kernel⟩
theorem fl_X6_173 : Cond.fieldLink RX6 173 "PushBoardsModel" "many" "I" ∈ wAll := inC4 8 rfl rfl
theorem fl_X6_23 : Cond.fieldLink RX6 23 "PushBoardsModel" "from" "[I" ∈ wAll := inC4 13 rfl rfl
theorem fl_X6_26 : Cond.fieldLink RX6 26 "PushBoardsModel" "by" "[I" ∈ wAll := inC4 14 rfl rfl
theorem wc_X6_isNew : Cond.code yX6_isNew cX6_isNew 8 (some .boolean) ∈ wAll := inC4 221 rfl rfl
theorem wm_X6_isNew : Cond.instanceMethod yX6_isNew ∈ wAll := inC4 220 rfl rfl
theorem wl_X6_isNew : Cond.selects RX6 yX6_isNew yX6_isNew ∈ wAll := inL (by decide +kernel) rfl
theorem lk_X6_176 : gLV RX6 176 RX6 yX6_isNew cX6_isNew 8 (some .boolean) 4 := ⟨⟨(inC4 218 rfl rfl), wm_X6_isNew, wl_X6_isNew⟩, wi_X6, wc_X6_isNew, by decide +kernel, by decide +kernel, by decide +kernel⟩
theorem fl_X6_186 : Cond.fieldLink RX6 186 "PushBoardsModel" "length" "I" ∈ wAll := inC4 10 rfl rfl
theorem fl_X6_33 : Cond.fieldLink RX6 33 "PushBoardsModel" "path" "[I" ∈ wAll := inC4 16 rfl rfl
theorem fl_X6_183 : Cond.fieldLink RX6 183 "PushBoardsModel" "taken" "I" ∈ wAll := inC4 9 rfl rfl
theorem wc_X6_spread : Cond.code yX6_spread cX6_spread 14 (some .int) ∈ wAll := inC4 217 rfl rfl
theorem wm_X6_spread : Cond.instanceMethod yX6_spread ∈ wAll := inC4 216 rfl rfl
theorem wl_X6_spread : Cond.selects RX6 yX6_spread yX6_spread ∈ wAll := inL (by decide +kernel) rfl
theorem lk_X6_180 : gLV RX6 180 RX6 yX6_spread cX6_spread 14 (some .int) 1 := ⟨⟨(inC4 214 rfl rfl), wm_X6_spread, wl_X6_spread⟩, wi_X6, wc_X6_spread, by decide +kernel, by decide +kernel, by decide +kernel⟩
theorem wc_X5_move : Cond.code yX5_move cX5_move 2 (some .int) ∈ wAll := inC3 102 rfl rfl
theorem wm_X5_move : Cond.instanceMethod yX5_move ∈ wAll := inC3 100 rfl rfl
theorem wl_X5_move : Cond.selects RX5 yX5_move yX5_move ∈ wAll := inC3 101 rfl rfl
theorem lk_L_7 : gLV RL 7 RX5 yX5_move cX5_move 2 (some .int) 1 := ⟨⟨(inC3 99 rfl rfl), wm_X5_move, wl_X5_move⟩, wi_X5, wc_X5_move, by decide +kernel, by decide +kernel, by decide +kernel⟩
theorem cl_L_13 : Cond.classLink RL 13 "java/lang/ArrayIndexOutOfBoundsException" ∈ wAll := inC3 97 rfl rfl
theorem cl_L_15 : Cond.classLink RL 15 "java/lang/IllegalStateException" ∈ wAll := inC3 98 rfl rfl
theorem wc_X5_way : Cond.code yX5_way cX5_way 3 (some .int) ∈ wAll := inC3 196 rfl rfl
theorem wm_X5_way : Cond.instanceMethod yX5_way ∈ wAll := inC3 194 rfl rfl
theorem wl_X5_way : Cond.selects RX5 yX5_way yX5_way ∈ wAll := inC3 195 rfl rfl
theorem lk_L_17 : gLV RL 17 RX5 yX5_way cX5_way 3 (some .int) 2 := ⟨⟨(inC3 193 rfl rfl), wm_X5_way, wl_X5_way⟩, wi_X5, wc_X5_way, by decide +kernel, by decide +kernel, by decide +kernel⟩
theorem wc_X5_dead : Cond.code yX5_dead cX5_dead 3 (some .boolean) ∈ wAll := inC3 212 rfl rfl
theorem wm_X5_dead : Cond.instanceMethod yX5_dead ∈ wAll := inC3 210 rfl rfl
theorem wl_X5_dead : Cond.selects RX5 yX5_dead yX5_dead ∈ wAll := inC3 211 rfl rfl
theorem lk_L_21 : gLV RL 21 RX5 yX5_dead cX5_dead 3 (some .boolean) 2 := ⟨⟨(inC3 209 rfl rfl), wm_X5_dead, wl_X5_dead⟩, wi_X5, wc_X5_dead, by decide +kernel, by decide +kernel, by decide +kernel⟩
theorem wc_X5_pushes : Cond.code yX5_pushes cX5_pushes 9 (some .int) ∈ wAll := inC3 220 rfl rfl
theorem wm_X5_pushes : Cond.instanceMethod yX5_pushes ∈ wAll := inC3 218 rfl rfl
theorem wl_X5_pushes : Cond.selects RX5 yX5_pushes yX5_pushes ∈ wAll := inC3 219 rfl rfl
theorem lk_L_25 : gLV RL 25 RX5 yX5_pushes cX5_pushes 9 (some .int) 4 := ⟨⟨(inC3 217 rfl rfl), wm_X5_pushes, wl_X5_pushes⟩, wi_X5, wc_X5_pushes, by decide +kernel, by decide +kernel, by decide +kernel⟩
theorem wc_X5_unit : Cond.code yX5_unit cX5_unit 2 (some .boolean) ∈ wAll := inC1 232 rfl rfl
theorem wm_X5_unit : Cond.instanceMethod yX5_unit ∈ wAll := inC1 230 rfl rfl
theorem wl_X5_unit : Cond.selects RX5 yX5_unit yX5_unit ∈ wAll := inC1 231 rfl rfl
theorem lk_L_33 : gLV RL 33 RX5 yX5_unit cX5_unit 2 (some .boolean) 1 := ⟨⟨(inC1 229 rfl rfl), wm_X5_unit, wl_X5_unit⟩, wi_X5, wc_X5_unit, by decide +kernel, by decide +kernel, by decide +kernel⟩
theorem wc_X6_unit : Cond.code yX6_unit cX6_unit 2 (some .boolean) ∈ wAll := inC4 87 rfl rfl
theorem wm_X6_unit : Cond.instanceMethod yX6_unit ∈ wAll := inC4 85 rfl rfl
theorem wl_X6_unit : Cond.selects RX6 yX6_unit yX6_unit ∈ wAll := inC4 86 rfl rfl
theorem lk_L_37 : gLV RL 37 RX6 yX6_unit cX6_unit 2 (some .boolean) 1 := ⟨⟨(inC4 84 rfl rfl), wm_X6_unit, wl_X6_unit⟩, wi_X6, wc_X6_unit, by decide +kernel, by decide +kernel, by decide +kernel⟩
theorem wc_X5_read : Cond.code yX5_read cX5_read 3 (some .int) ∈ wAll := inC1 236 rfl rfl
theorem wm_X5_read : Cond.instanceMethod yX5_read ∈ wAll := inC1 234 rfl rfl
theorem wl_X5_read : Cond.selects RX5 yX5_read yX5_read ∈ wAll := inC1 235 rfl rfl
theorem lk_L_38 : gLV RL 38 RX5 yX5_read cX5_read 3 (some .int) 0 := ⟨⟨(inC1 233 rfl rfl), wm_X5_read, wl_X5_read⟩, wi_X5, wc_X5_read, by decide +kernel, by decide +kernel, by decide +kernel⟩
theorem wc_X6_read : Cond.code yX6_read cX6_read 5 (some .int) ∈ wAll := inC4 91 rfl rfl
theorem wm_X6_read : Cond.instanceMethod yX6_read ∈ wAll := inC4 89 rfl rfl
theorem wl_X6_read : Cond.selects RX6 yX6_read yX6_read ∈ wAll := inC4 90 rfl rfl
theorem lk_L_42 : gLV RL 42 RX6 yX6_read cX6_read 5 (some .int) 0 := ⟨⟨(inC4 88 rfl rfl), wm_X6_read, wl_X6_read⟩, wi_X6, wc_X6_read, by decide +kernel, by decide +kernel, by decide +kernel⟩
theorem wc_X5_row : Cond.code yX5_row cX5_row 8 (some .int) ∈ wAll := inC2 70 rfl rfl
theorem wm_X5_row : Cond.instanceMethod yX5_row ∈ wAll := inC2 68 rfl rfl
theorem wl_X5_row : Cond.selects RX5 yX5_row yX5_row ∈ wAll := inC2 69 rfl rfl
theorem lk_L_43 : gLV RL 43 RX5 yX5_row cX5_row 8 (some .int) 0 := ⟨⟨(inC2 67 rfl rfl), wm_X5_row, wl_X5_row⟩, wi_X5, wc_X5_row, by decide +kernel, by decide +kernel, by decide +kernel⟩
theorem wc_X6_row : Cond.code yX6_row cX6_row 8 (some .int) ∈ wAll := inC4 134 rfl rfl
theorem wm_X6_row : Cond.instanceMethod yX6_row ∈ wAll := inC4 132 rfl rfl
theorem wl_X6_row : Cond.selects RX6 yX6_row yX6_row ∈ wAll := inC4 133 rfl rfl
theorem lk_L_46 : gLV RL 46 RX6 yX6_row cX6_row 8 (some .int) 0 := ⟨⟨(inC4 131 rfl rfl), wm_X6_row, wl_X6_row⟩, wi_X6, wc_X6_row, by decide +kernel, by decide +kernel, by decide +kernel⟩
theorem wi_L : Cond.initialized RL ∈ wAll := inC1 0 rfl rfl
theorem wc_L_move : Cond.codeWith yL_move cL_move 4 (some .int) [(0, 9, 12, 13), (0, 9, 15, 15)] ∈ wAll := inC3 96 rfl rfl
theorem wm_L_move : Cond.static yL_move ∈ wAll := inC3 95 rfl rfl
theorem wc_X6_move : Cond.code yX6_move cX6_move 2 (some .int) ∈ wAll := inC4 105 rfl rfl
theorem wm_X6_move : Cond.instanceMethod yX6_move ∈ wAll := inC4 103 rfl rfl
theorem wl_X6_move : Cond.selects RX6 yX6_move yX6_move ∈ wAll := inC4 104 rfl rfl
theorem lk_L_52 : gLV RL 52 RX6 yX6_move cX6_move 2 (some .int) 1 := ⟨⟨(inC4 102 rfl rfl), wm_X6_move, wl_X6_move⟩, wi_X6, wc_X6_move, by decide +kernel, by decide +kernel, by decide +kernel⟩
theorem wc_X6_thrown : Cond.code yX6_thrown cX6_thrown 1 (some .int) ∈ wAll := inC4 83 rfl rfl
theorem wm_X6_thrown : Cond.instanceMethod yX6_thrown ∈ wAll := inC4 81 rfl rfl
theorem wl_X6_thrown : Cond.selects RX6 yX6_thrown yX6_thrown ∈ wAll := inC4 82 rfl rfl
theorem lk_L_53 : gLV RL 53 RX6 yX6_thrown cX6_thrown 1 (some .int) 0 := ⟨⟨(inC4 80 rfl rfl), wm_X6_thrown, wl_X6_thrown⟩, wi_X6, wc_X6_thrown, by decide +kernel, by decide +kernel, by decide +kernel⟩
theorem wc_X5_undo : Cond.code yX5_undo cX5_undo 3 (some .int) ∈ wAll := inC2 101 rfl rfl
theorem wm_X5_undo : Cond.instanceMethod yX5_undo ∈ wAll := inC2 99 rfl rfl
theorem wl_X5_undo : Cond.selects RX5 yX5_undo yX5_undo ∈ wAll := inC2 100 rfl rfl
theorem lk_L_56 : gLV RL 56 RX5 yX5_undo cX5_undo 3 (some .int) 0 := ⟨⟨(inC2 98 rfl rfl), wm_X5_undo, wl_X5_undo⟩, wi_X5, wc_X5_undo, by decide +kernel, by decide +kernel, by decide +kernel⟩
theorem wc_X6_undo : Cond.code yX6_undo cX6_undo 4 (some .int) ∈ wAll := inC4 126 rfl rfl
theorem wm_X6_undo : Cond.instanceMethod yX6_undo ∈ wAll := inC4 124 rfl rfl
theorem wl_X6_undo : Cond.selects RX6 yX6_undo yX6_undo ∈ wAll := inC4 125 rfl rfl
theorem lk_L_59 : gLV RL 59 RX6 yX6_undo cX6_undo 4 (some .int) 0 := ⟨⟨(inC4 123 rfl rfl), wm_X6_undo, wl_X6_undo⟩, wi_X6, wc_X6_undo, by decide +kernel, by decide +kernel, by decide +kernel⟩
theorem wc_X5_told : Cond.code yX5_told cX5_told 2 (some .int) ∈ wAll := inC2 120 rfl rfl
theorem wm_X5_told : Cond.instanceMethod yX5_told ∈ wAll := inC2 118 rfl rfl
theorem wl_X5_told : Cond.selects RX5 yX5_told yX5_told ∈ wAll := inC2 119 rfl rfl
theorem lk_L_60 : gLV RL 60 RX5 yX5_told cX5_told 2 (some .int) 1 := ⟨⟨(inC2 117 rfl rfl), wm_X5_told, wl_X5_told⟩, wi_X5, wc_X5_told, by decide +kernel, by decide +kernel, by decide +kernel⟩
theorem wc_X6_told : Cond.code yX6_told cX6_told 2 (some .int) ∈ wAll := inC4 141 rfl rfl
theorem wm_X6_told : Cond.instanceMethod yX6_told ∈ wAll := inC4 139 rfl rfl
theorem wl_X6_told : Cond.selects RX6 yX6_told yX6_told ∈ wAll := inC4 140 rfl rfl
theorem lk_L_63 : gLV RL 63 RX6 yX6_told cX6_told 2 (some .int) 1 := ⟨⟨(inC4 138 rfl rfl), wm_X6_told, wl_X6_told⟩, wi_X6, wc_X6_told, by decide +kernel, by decide +kernel, by decide +kernel⟩
theorem wc_X5_picture : Cond.code yX5_picture cX5_picture 4 (some .int) ∈ wAll := inC2 135 rfl rfl
theorem wm_X5_picture : Cond.instanceMethod yX5_picture ∈ wAll := inC2 133 rfl rfl
theorem wl_X5_picture : Cond.selects RX5 yX5_picture yX5_picture ∈ wAll := inC2 134 rfl rfl
theorem lk_L_64 : gLV RL 64 RX5 yX5_picture cX5_picture 4 (some .int) 1 := ⟨⟨(inC2 132 rfl rfl), wm_X5_picture, wl_X5_picture⟩, wi_X5, wc_X5_picture, by decide +kernel, by decide +kernel, by decide +kernel⟩
theorem wc_X6_picture : Cond.code yX6_picture cX6_picture 4 (some .int) ∈ wAll := inC4 153 rfl rfl
theorem wm_X6_picture : Cond.instanceMethod yX6_picture ∈ wAll := inC4 151 rfl rfl
theorem wl_X6_picture : Cond.selects RX6 yX6_picture yX6_picture ∈ wAll := inC4 152 rfl rfl
theorem lk_L_67 : gLV RL 67 RX6 yX6_picture cX6_picture 4 (some .int) 1 := ⟨⟨(inC4 150 rfl rfl), wm_X6_picture, wl_X6_picture⟩, wi_X6, wc_X6_picture, by decide +kernel, by decide +kernel, by decide +kernel⟩
theorem wc_X5_letter : Cond.code yX5_letter cX5_letter 2 (some .int) ∈ wAll := inC2 144 rfl rfl
theorem wm_X5_letter : Cond.instanceMethod yX5_letter ∈ wAll := inC2 142 rfl rfl
theorem wl_X5_letter : Cond.selects RX5 yX5_letter yX5_letter ∈ wAll := inC2 143 rfl rfl
theorem lk_L_68 : gLV RL 68 RX5 yX5_letter cX5_letter 2 (some .int) 1 := ⟨⟨(inC2 141 rfl rfl), wm_X5_letter, wl_X5_letter⟩, wi_X5, wc_X5_letter, by decide +kernel, by decide +kernel, by decide +kernel⟩
theorem wc_X6_letter : Cond.code yX6_letter cX6_letter 4 (some .int) ∈ wAll := inC4 157 rfl rfl
theorem wm_X6_letter : Cond.instanceMethod yX6_letter ∈ wAll := inC4 155 rfl rfl
theorem wl_X6_letter : Cond.selects RX6 yX6_letter yX6_letter ∈ wAll := inC4 156 rfl rfl
theorem lk_L_71 : gLV RL 71 RX6 yX6_letter cX6_letter 4 (some .int) 1 := ⟨⟨(inC4 154 rfl rfl), wm_X6_letter, wl_X6_letter⟩, wi_X6, wc_X6_letter, by decide +kernel, by decide +kernel, by decide +kernel⟩
theorem wc_X5_reach : Cond.code yX5_reach cX5_reach 1 (some .int) ∈ wAll := inC2 202 rfl rfl
theorem wm_X5_reach : Cond.instanceMethod yX5_reach ∈ wAll := inC2 200 rfl rfl
theorem wl_X5_reach : Cond.selects RX5 yX5_reach yX5_reach ∈ wAll := inC2 201 rfl rfl
theorem lk_L_72 : gLV RL 72 RX5 yX5_reach cX5_reach 1 (some .int) 0 := ⟨⟨(inC2 199 rfl rfl), wm_X5_reach, wl_X5_reach⟩, wi_X5, wc_X5_reach, by decide +kernel, by decide +kernel, by decide +kernel⟩
theorem wc_X6_reach : Cond.code yX6_reach cX6_reach 1 (some .int) ∈ wAll := inC4 161 rfl rfl
theorem wm_X6_reach : Cond.instanceMethod yX6_reach ∈ wAll := inC4 159 rfl rfl
theorem wl_X6_reach : Cond.selects RX6 yX6_reach yX6_reach ∈ wAll := inC4 160 rfl rfl
theorem lk_L_75 : gLV RL 75 RX6 yX6_reach cX6_reach 1 (some .int) 0 := ⟨⟨(inC4 158 rfl rfl), wm_X6_reach, wl_X6_reach⟩, wi_X6, wc_X6_reach, by decide +kernel, by decide +kernel, by decide +kernel⟩
theorem wc_L_way : Cond.codeWith yL_way cL_way 5 (some .int) [(0, 10, 13, 13)] ∈ wAll := inC3 192 rfl rfl
theorem wm_L_way : Cond.static yL_way ∈ wAll := inC3 191 rfl rfl
theorem wc_X6_way : Cond.code yX6_way cX6_way 6 (some .int) ∈ wAll := inC4 169 rfl rfl
theorem wm_X6_way : Cond.instanceMethod yX6_way ∈ wAll := inC4 167 rfl rfl
theorem wl_X6_way : Cond.selects RX6 yX6_way yX6_way ∈ wAll := inC4 168 rfl rfl
theorem lk_L_79 : gLV RL 79 RX6 yX6_way cX6_way 6 (some .int) 2 := ⟨⟨(inC4 166 rfl rfl), wm_X6_way, wl_X6_way⟩, wi_X6, wc_X6_way, by decide +kernel, by decide +kernel, by decide +kernel⟩
theorem wc_L_dead : Cond.codeWith yL_dead cL_dead 5 (some .int) [(0, 17, 20, 13)] ∈ wAll := inC3 208 rfl rfl
theorem wm_L_dead : Cond.static yL_dead ∈ wAll := inC3 207 rfl rfl
theorem wc_X6_dead : Cond.code yX6_dead cX6_dead 3 (some .boolean) ∈ wAll := inC4 173 rfl rfl
theorem wm_X6_dead : Cond.instanceMethod yX6_dead ∈ wAll := inC4 171 rfl rfl
theorem wl_X6_dead : Cond.selects RX6 yX6_dead yX6_dead ∈ wAll := inC4 172 rfl rfl
theorem lk_L_82 : gLV RL 82 RX6 yX6_dead cX6_dead 3 (some .boolean) 2 := ⟨⟨(inC4 170 rfl rfl), wm_X6_dead, wl_X6_dead⟩, wi_X6, wc_X6_dead, by decide +kernel, by decide +kernel, by decide +kernel⟩
theorem wc_X5_fast : Cond.code yX5_fast cX5_fast 1 (some .int) ∈ wAll := inC2 210 rfl rfl
theorem wm_X5_fast : Cond.instanceMethod yX5_fast ∈ wAll := inC2 208 rfl rfl
theorem wl_X5_fast : Cond.selects RX5 yX5_fast yX5_fast ∈ wAll := inC2 209 rfl rfl
theorem lk_L_83 : gLV RL 83 RX5 yX5_fast cX5_fast 1 (some .int) 0 := ⟨⟨(inC2 207 rfl rfl), wm_X5_fast, wl_X5_fast⟩, wi_X5, wc_X5_fast, by decide +kernel, by decide +kernel, by decide +kernel⟩
theorem wc_X6_fast : Cond.code yX6_fast cX6_fast 1 (some .int) ∈ wAll := inC4 181 rfl rfl
theorem wm_X6_fast : Cond.instanceMethod yX6_fast ∈ wAll := inC4 179 rfl rfl
theorem wl_X6_fast : Cond.selects RX6 yX6_fast yX6_fast ∈ wAll := inC4 180 rfl rfl
theorem lk_L_86 : gLV RL 86 RX6 yX6_fast cX6_fast 1 (some .int) 0 := ⟨⟨(inC4 178 rfl rfl), wm_X6_fast, wl_X6_fast⟩, wi_X6, wc_X6_fast, by decide +kernel, by decide +kernel, by decide +kernel⟩
theorem wc_X5_stuck : Cond.code yX5_stuck cX5_stuck 1 (some .boolean) ∈ wAll := inC2 218 rfl rfl
theorem wm_X5_stuck : Cond.instanceMethod yX5_stuck ∈ wAll := inC2 216 rfl rfl
theorem wl_X5_stuck : Cond.selects RX5 yX5_stuck yX5_stuck ∈ wAll := inC2 217 rfl rfl
theorem lk_L_87 : gLV RL 87 RX5 yX5_stuck cX5_stuck 1 (some .boolean) 0 := ⟨⟨(inC2 215 rfl rfl), wm_X5_stuck, wl_X5_stuck⟩, wi_X5, wc_X5_stuck, by decide +kernel, by decide +kernel, by decide +kernel⟩
theorem wc_X6_stuck : Cond.code yX6_stuck cX6_stuck 1 (some .boolean) ∈ wAll := inC4 193 rfl rfl
theorem wm_X6_stuck : Cond.instanceMethod yX6_stuck ∈ wAll := inC4 191 rfl rfl
theorem wl_X6_stuck : Cond.selects RX6 yX6_stuck yX6_stuck ∈ wAll := inC4 192 rfl rfl
theorem lk_L_91 : gLV RL 91 RX6 yX6_stuck cX6_stuck 1 (some .boolean) 0 := ⟨⟨(inC4 190 rfl rfl), wm_X6_stuck, wl_X6_stuck⟩, wi_X6, wc_X6_stuck, by decide +kernel, by decide +kernel, by decide +kernel⟩
theorem wc_X5_bound : Cond.code yX5_bound cX5_bound 5 (some .int) ∈ wAll := inC2 227 rfl rfl
theorem wm_X5_bound : Cond.instanceMethod yX5_bound ∈ wAll := inC2 225 rfl rfl
theorem wl_X5_bound : Cond.selects RX5 yX5_bound yX5_bound ∈ wAll := inC2 226 rfl rfl
theorem lk_L_92 : gLV RL 92 RX5 yX5_bound cX5_bound 5 (some .int) 0 := ⟨⟨(inC2 224 rfl rfl), wm_X5_bound, wl_X5_bound⟩, wi_X5, wc_X5_bound, by decide +kernel, by decide +kernel, by decide +kernel⟩
theorem wc_X6_bound : Cond.code yX6_bound cX6_bound 7 (some .int) ∈ wAll := inC4 205 rfl rfl
theorem wm_X6_bound : Cond.instanceMethod yX6_bound ∈ wAll := inC4 203 rfl rfl
theorem wl_X6_bound : Cond.selects RX6 yX6_bound yX6_bound ∈ wAll := inC4 204 rfl rfl
theorem lk_L_95 : gLV RL 95 RX6 yX6_bound cX6_bound 7 (some .int) 0 := ⟨⟨(inC4 202 rfl rfl), wm_X6_bound, wl_X6_bound⟩, wi_X6, wc_X6_bound, by decide +kernel, by decide +kernel, by decide +kernel⟩
theorem wc_L_pushes : Cond.codeWith yL_pushes cL_pushes 7 (some .int) [(0, 14, 17, 13)] ∈ wAll := inC3 216 rfl rfl
theorem wm_L_pushes : Cond.static yL_pushes ∈ wAll := inC3 215 rfl rfl
theorem wc_X6_pushes : Cond.code yX6_pushes cX6_pushes 5 (some .int) ∈ wAll := inC4 197 rfl rfl
theorem wm_X6_pushes : Cond.instanceMethod yX6_pushes ∈ wAll := inC4 195 rfl rfl
theorem wl_X6_pushes : Cond.selects RX6 yX6_pushes yX6_pushes ∈ wAll := inC4 196 rfl rfl
theorem lk_L_99 : gLV RL 99 RX6 yX6_pushes cX6_pushes 5 (some .int) 4 := ⟨⟨(inC4 194 rfl rfl), wm_X6_pushes, wl_X6_pushes⟩, wi_X6, wc_X6_pushes, by decide +kernel, by decide +kernel, by decide +kernel⟩
theorem wc_X5_search : Cond.code yX5_search cX5_search 2 (some .int) ∈ wAll := inC3 20 rfl rfl
theorem wm_X5_search : Cond.instanceMethod yX5_search ∈ wAll := inC3 18 rfl rfl
theorem wl_X5_search : Cond.selects RX5 yX5_search yX5_search ∈ wAll := inC3 19 rfl rfl
theorem lk_L_100 : gLV RL 100 RX5 yX5_search cX5_search 2 (some .int) 1 := ⟨⟨(inC3 17 rfl rfl), wm_X5_search, wl_X5_search⟩, wi_X5, wc_X5_search, by decide +kernel, by decide +kernel, by decide +kernel⟩
theorem wc_X6_search : Cond.code yX6_search cX6_search 5 (some .int) ∈ wAll := inC4 213 rfl rfl
theorem wm_X6_search : Cond.instanceMethod yX6_search ∈ wAll := inC4 211 rfl rfl
theorem wl_X6_search : Cond.selects RX6 yX6_search yX6_search ∈ wAll := inC4 212 rfl rfl
theorem lk_L_103 : gLV RL 103 RX6 yX6_search cX6_search 5 (some .int) 1 := ⟨⟨(inC4 210 rfl rfl), wm_X6_search, wl_X6_search⟩, wi_X6, wc_X6_search, by decide +kernel, by decide +kernel, by decide +kernel⟩
theorem wc_X5_push : Cond.code yX5_push cX5_push 2 (some .int) ∈ wAll := inC3 85 rfl rfl
theorem wm_X5_push : Cond.instanceMethod yX5_push ∈ wAll := inC3 83 rfl rfl
theorem wl_X5_push : Cond.selects RX5 yX5_push yX5_push ∈ wAll := inC3 84 rfl rfl
theorem lk_L_104 : gLV RL 104 RX5 yX5_push cX5_push 2 (some .int) 1 := ⟨⟨(inC3 82 rfl rfl), wm_X5_push, wl_X5_push⟩, wi_X5, wc_X5_push, by decide +kernel, by decide +kernel, by decide +kernel⟩
theorem wc_X6_push : Cond.code yX6_push cX6_push 2 (some .int) ∈ wAll := inC4 234 rfl rfl
theorem wm_X6_push : Cond.instanceMethod yX6_push ∈ wAll := inC4 232 rfl rfl
theorem wl_X6_push : Cond.selects RX6 yX6_push yX6_push ∈ wAll := inC4 233 rfl rfl
theorem lk_L_107 : gLV RL 107 RX6 yX6_push cX6_push 2 (some .int) 1 := ⟨⟨(inC4 231 rfl rfl), wm_X6_push, wl_X6_push⟩, wi_X6, wc_X6_push, by decide +kernel, by decide +kernel, by decide +kernel⟩
theorem wc_X5_states : Cond.code yX5_states cX5_states 1 (some .int) ∈ wAll := inC3 93 rfl rfl
theorem wm_X5_states : Cond.instanceMethod yX5_states ∈ wAll := inC3 91 rfl rfl
theorem wl_X5_states : Cond.selects RX5 yX5_states yX5_states ∈ wAll := inC3 92 rfl rfl
theorem lk_L_108 : gLV RL 108 RX5 yX5_states cX5_states 1 (some .int) 0 := ⟨⟨(inC3 90 rfl rfl), wm_X5_states, wl_X5_states⟩, wi_X5, wc_X5_states, by decide +kernel, by decide +kernel, by decide +kernel⟩
theorem wc_X6_states : Cond.code yX6_states cX6_states 1 (some .int) ∈ wAll := inC4 238 rfl rfl
theorem wm_X6_states : Cond.instanceMethod yX6_states ∈ wAll := inC4 236 rfl rfl
theorem wl_X6_states : Cond.selects RX6 yX6_states yX6_states ∈ wAll := inC4 237 rfl rfl
theorem lk_L_111 : gLV RL 111 RX6 yX6_states cX6_states 1 (some .int) 0 := ⟨⟨(inC4 235 rfl rfl), wm_X6_states, wl_X6_states⟩, wi_X6, wc_X6_states, by decide +kernel, by decide +kernel, by decide +kernel⟩
theorem ww_35 : Cond.methodLink RX3 3 Lib.objectInit ∈ wAll := inC1 35 rfl rfl
theorem ww_73 : Cond.methodLink RX0 3 Lib.objectInit ∈ wAll := inC1 73 rfl rfl
theorem ww_121 : Cond.methodLink RX1 1 Lib.objectInit ∈ wAll := inC1 121 rfl rfl
theorem ww_146 : Cond.methodLink RX2 3 Lib.objectInit ∈ wAll := inC1 146 rfl rfl
theorem ww_175 : Cond.methodLink RX4 3 Lib.objectInit ∈ wAll := inC1 175 rfl rfl
theorem ww_27 : Cond.methodLink RX5 1 Lib.objectInit ∈ wAll := inC1 27 rfl rfl
theorem ww_30 : Cond.classLink RX5 13 RX3 ∈ wAll := inC1 30 rfl rfl
theorem ww_31 : Cond.instantiable RX3 8 ∈ wAll := inC1 31 rfl rfl
theorem ww_2 : Cond.initialized RX3 ∈ wAll := inC1 2 rfl rfl
theorem wc_X3_init : Cond.code yX3_init cX3_init 1 none ∈ wAll := inC1 34 rfl rfl
theorem wm_X3_init : Cond.instanceMethod yX3_init ∈ wAll := inC1 33 rfl rfl
theorem lk_X5_15 : gLI RX5 15 yX3_init "PushBoards" cX3_init 1 none 0 := ⟨⟨by decide +kernel, wm_X3_init⟩, wi_X3, wc_X3_init, by decide +kernel, by decide +kernel, by decide +kernel⟩
theorem ww_68 : Cond.classLink RX5 20 RX0 ∈ wAll := inC1 68 rfl rfl
theorem ww_69 : Cond.instantiable RX0 10 ∈ wAll := inC1 69 rfl rfl
theorem ww_3 : Cond.initialized RX0 ∈ wAll := inC1 3 rfl rfl
theorem wc_X0_init : Cond.code yX0_init cX0_init 1 none ∈ wAll := inC1 72 rfl rfl
theorem wm_X0_init : Cond.instanceMethod yX0_init ∈ wAll := inC1 71 rfl rfl
theorem lk_X5_22 : gLI RX5 22 yX0_init "PushBoards" cX0_init 1 none 0 := ⟨⟨by decide +kernel, wm_X0_init⟩, wi_X0, wc_X0_init, by decide +kernel, by decide +kernel, by decide +kernel⟩
theorem ww_116 : Cond.classLink RX5 27 RX1 ∈ wAll := inC1 116 rfl rfl
theorem ww_117 : Cond.instantiable RX1 5 ∈ wAll := inC1 117 rfl rfl
theorem ww_4 : Cond.initialized RX1 ∈ wAll := inC1 4 rfl rfl
theorem wc_X1_init : Cond.code yX1_init cX1_init 1 none ∈ wAll := inC1 120 rfl rfl
theorem wm_X1_init : Cond.instanceMethod yX1_init ∈ wAll := inC1 119 rfl rfl
theorem lk_X5_29 : gLI RX5 29 yX1_init "PushBoards" cX1_init 1 none 0 := ⟨⟨by decide +kernel, wm_X1_init⟩, wi_X1, wc_X1_init, by decide +kernel, by decide +kernel, by decide +kernel⟩
theorem ww_141 : Cond.classLink RX5 34 RX2 ∈ wAll := inC1 141 rfl rfl
theorem ww_142 : Cond.instantiable RX2 7 ∈ wAll := inC1 142 rfl rfl
theorem ww_5 : Cond.initialized RX2 ∈ wAll := inC1 5 rfl rfl
theorem wc_X2_init : Cond.code yX2_init cX2_init 1 none ∈ wAll := inC1 145 rfl rfl
theorem wm_X2_init : Cond.instanceMethod yX2_init ∈ wAll := inC1 144 rfl rfl
theorem lk_X5_36 : gLI RX5 36 yX2_init "PushBoards" cX2_init 1 none 0 := ⟨⟨by decide +kernel, wm_X2_init⟩, wi_X2, wc_X2_init, by decide +kernel, by decide +kernel, by decide +kernel⟩
theorem ww_170 : Cond.classLink RX5 41 RX4 ∈ wAll := inC1 170 rfl rfl
theorem ww_171 : Cond.instantiable RX4 9 ∈ wAll := inC1 171 rfl rfl
theorem ww_6 : Cond.initialized RX4 ∈ wAll := inC1 6 rfl rfl
theorem wc_X4_init : Cond.code yX4_init cX4_init 1 none ∈ wAll := inC1 174 rfl rfl
theorem wm_X4_init : Cond.instanceMethod yX4_init ∈ wAll := inC1 173 rfl rfl
theorem lk_X5_43 : gLI RX5 43 yX4_init "PushBoards" cX4_init 1 none 0 := ⟨⟨by decide +kernel, wm_X4_init⟩, wi_X4, wc_X4_init, by decide +kernel, by decide +kernel, by decide +kernel⟩
theorem ww_707 : Cond.methodLink RX6 1 Lib.objectInit ∈ wAll := inC3 227 rfl rfl
theorem wc_X5_init : Cond.code yX5_init cX5_init 1 none ∈ wAll := inC1 26 rfl rfl
theorem wm_X5_init : Cond.instanceMethod yX5_init ∈ wAll := inC1 25 rfl rfl
theorem lk_L_29 : gLC RL 29 yX5_init cX5_init 1 none 0 := ⟨⟨inC1 24 rfl rfl, wm_X5_init⟩, wi_X5, wc_X5_init, by decide +kernel, by decide +kernel, by decide +kernel⟩
theorem wc_X6_init : Cond.code yX6_init cX6_init 1 none ∈ wAll := inC3 226 rfl rfl
theorem wm_X6_init : Cond.instanceMethod yX6_init ∈ wAll := inC3 225 rfl rfl
theorem lk_L_32 : gLC RL 32 yX6_init cX6_init 1 none 0 := ⟨⟨inC3 224 rfl rfl, wm_X6_init⟩, wi_X6, wc_X6_init, by decide +kernel, by decide +kernel, by decide +kernel⟩
abbrev cI (G : gEnv) (h n : Nat) (f : Nat → Int32) : Nat × va_E := (h, .inl (G.2.1.1, n, .inl f))
abbrev cJ (G : gEnv) (h n : Nat) (f : Nat → Int64) : Nat × va_E := (h, .inl (G.2.1.2.1, n, .inr (.inl f)))
abbrev cZ (G : gEnv) (h n : Nat) (f : Nat → Int32) : Nat × va_E := (h, .inl (G.2.1.2.2, n, .inl f))
abbrev cPB (h : Nat) (f_text : Nat) (f_textLength : Int32) (f_drawn : Nat) (f_board : Nat) (f_log : Nat) (f_matching : Nat) (f_latest : Nat) : Nat × va_E := (h, .inr (5, [.ref f_text, .int f_textLength, .ref f_drawn, .ref f_board, .ref f_log, .ref f_matching, .ref f_latest]))
abbrev cPI (h : Nat) (f_width : Int32) (f_height : Int32) (f_walls : Int64) (f_goals : Int64) (f_boxes : Int64) (f_person : Int64) (f_x : Int32) (f_endedRows : Int32) : Nat × va_E := (h, .inr (3, [.int f_width, .int f_height, .long f_walls, .long f_goals, .long f_boxes, .long f_person, .int f_x, .int f_endedRows]))
abbrev cBO (h : Nat) (f_width : Int32) (f_height : Int32) (f_floor : Int64) (f_goals : Int64) (f_live : Int64) (f_boxes : Int64) (f_person : Int64) (f_boxSteps : Nat) (f_liveBesideInRow : Int64) (f_liveBesideInColumn : Int64) : Nat × va_E := (h, .inr (0, [.int f_width, .int f_height, .long f_floor, .long f_goals, .long f_live, .long f_boxes, .long f_person, .ref f_boxSteps, .long f_liveBesideInRow, .long f_liveBesideInColumn]))
abbrev cLO (h : Nat) (f_kept : Int32) (f_moves : Int32) (f_pushed : Int32) (f_marks : Nat) (f_end : Int32) : Nat × va_E := (h, .inr (1, [.int f_kept, .int f_moves, .int f_pushed, .ref f_marks, .int f_end]))
abbrev cMT (h : Nat) (f_costs : Nat) (f_goalLevel : Nat) (f_boxLevel : Nat) (f_goalOfBox : Nat) (f_boxBefore : Nat) (f_slack : Nat) (f_seen : Nat) : Nat × va_E := (h, .inr (2, [.ref f_costs, .ref f_goalLevel, .ref f_boxLevel, .ref f_goalOfBox, .ref f_boxBefore, .ref f_slack, .ref f_seen]))
abbrev cSE (h : Nat) (f_count : Int32) (f_length : Int32) (f_boxesOf : Nat) (f_lowestOf : Nat) (f_parentOf : Nat) (f_pushOf : Nat) (f_slots : Nat) (f_found : Int32) (f_overfull : Int32) : Nat × va_E := (h, .inr (4, [.int f_count, .int f_length, .ref f_boxesOf, .ref f_lowestOf, .ref f_parentOf, .ref f_pushOf, .ref f_slots, .int f_found, .int f_overfull]))
abbrev cMO (h : Nat) (f_thrown : Int32) (f_size : Int32) (f_text : Nat) (f_isBoard : Int32) (f_width : Int32) (f_height : Int32) (f_person : Int32) (f_moves : Int32) (f_pushes : Int32) (f_floor : Int64) (f_goals : Int64) (f_boxes : Int64) (f_newFloor : Int64) (f_newGoals : Int64) (f_newBoxes : Int64) (f_newPerson : Int32) (f_newWidth : Int32) (f_kept : Int32) (f_done : Nat) (f_many : Int32) (f_taken : Int32) (f_length : Int32) (f_stateBoxes : Nat) (f_stateCell : Nat) (f_from : Nat) (f_by : Nat) (f_seats : Nat) (f_path : Nat) (f_far : Nat) (f_least : Nat) : Nat × va_E := (h, .inr (6, [.int f_thrown, .int f_size, .ref f_text, .int f_isBoard, .int f_width, .int f_height, .int f_person, .int f_moves, .int f_pushes, .long f_floor, .long f_goals, .long f_boxes, .long f_newFloor, .long f_newGoals, .long f_newBoxes, .int f_newPerson, .int f_newWidth, .int f_kept, .ref f_done, .int f_many, .int f_taken, .int f_length, .ref f_stateBoxes, .ref f_stateCell, .ref f_from, .ref f_by, .ref f_seats, .ref f_path, .ref f_far, .ref f_least]))
section GM
variable {p : Program} {l : Launch} {e : Env} {R : Room} {s : State} {m : MethodId} {args : Array Value} {below : List Frame} {meth : Method} {c : Code} {H : Heap} {locs : List Loc} {cells slots : Nat} {Q : State → Prop}
variable {cc : ByteArray} {nL : Nat} {own : String} {ret : Option FieldType} {G : gEnv} {A : Nat → Prop} {pc : Nat} {ls : Array Slot} {rest : List Value} {index : Nat}
theorem g_mmax (X : gX p m meth c cc nL own ret s args G A) (hz : ls.size = nL) (hlink : Cond.methodLink own index Lib.Math.max.name ∈ wAll) (hframes : 1 ≤ R.frames) (hlocals : (rest.map fun v => v.category).sum + 13 ≤ R.locals) (hc : cells ≤ R.cells) (hs : slots ≤ R.slots) {x y : Int32} (hdg : decode cc pc = .ok (.invokestatic index, 3))
    (kk : W p l e R s m args below meth c H locs cells slots Q (F0 m (pc + 3) ls (.int (if x < y then y else x) :: rest))) : W p l e R s m args below meth c H locs cells slots Q (F0 m pc ls (.int y :: .int x :: rest)) :=
  va_mmax X.1 X.2.1 (X.2.2.1.trans hz.symm) X.2.2.2.1 (X.2.2.2.2.1 _ hlink) (X.2.2.2.2.1 _ ws_max) (X.2.2.2.2.1 _ wi_math) (X.2.2.2.2.1 _ wc_max) hframes hlocals hc hs hdg kk
theorem g_mmin (X : gX p m meth c cc nL own ret s args G A) (hz : ls.size = nL) (hlink : Cond.methodLink own index Lib.Math.min.name ∈ wAll) (hframes : 1 ≤ R.frames) (hlocals : (rest.map fun v => v.category).sum + 13 ≤ R.locals) (hc : cells ≤ R.cells) (hs : slots ≤ R.slots) {x y : Int32} (hdg : decode cc pc = .ok (.invokestatic index, 3))
    (kk : W p l e R s m args below meth c H locs cells slots Q (F0 m (pc + 3) ls (.int (if y < x then y else x) :: rest))) : W p l e R s m args below meth c H locs cells slots Q (F0 m pc ls (.int y :: .int x :: rest)) :=
  va_mmin X.1 X.2.1 (X.2.2.1.trans hz.symm) X.2.2.2.1 (X.2.2.2.2.1 _ hlink) (X.2.2.2.2.1 _ ws_min) (X.2.2.2.2.1 _ wi_math) (X.2.2.2.2.1 _ wc_min) hframes hlocals hc hs hdg kk
end GM
