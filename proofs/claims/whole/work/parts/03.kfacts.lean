theorem kX5_beginShoot : zkG yX5_beginShoot = some (cX5_beginShoot, 6, some .int) := by decide +kernel
theorem kX5_catchUp : zkG yX5_catchUp = some (cX5_catchUp, 4, some .int) := by decide +kernel
theorem kX5_clear : zkG yX5_clear = some (cX5_clear, 3, some .int) := by decide +kernel
theorem kX5_core : zkG yX5_core = some (cX5_core, 3, some .int) := by decide +kernel
theorem kX5_cores : zkG yX5_cores = some (cX5_cores, 3, some .int) := by decide +kernel
theorem kX5_count : zkG yX5_count = some (cX5_count, 2, some .int) := by decide +kernel
theorem kX5_danger : zkG yX5_danger = some (cX5_danger, 5, some .int) := by decide +kernel
theorem kX5_digest : zkG yX5_digest = some (cX5_digest, 5, some .long) := by decide +kernel
theorem kX5_digestOfCore : zkG yX5_digestOfCore = some (cX5_digestOfCore, 8, some .long) := by decide +kernel
theorem kX5_enter : zkG yX5_enter = some (cX5_enter, 3, some .int) := by decide +kernel
theorem kX5_entry : zkG yX5_entry = some (cX5_entry, 3, some .int) := by decide +kernel
theorem kX5_entryOf : zkG yX5_entryOf = some (cX5_entryOf, 2, some .int) := by decide +kernel
theorem kX5_frameOf : zkG yX5_frameOf = some (cX5_frameOf, 1, some .int) := by decide +kernel
theorem kX5_goByNote : zkG yX5_goByNote = some (cX5_goByNote, 3, some .int) := by decide +kernel
theorem kX5_history : zkG yX5_history = some (cX5_history, 4, some .int) := by decide +kernel
theorem kX5_how : zkG yX5_how = some (cX5_how, 1, some .int) := by decide +kernel
theorem kX5_isBehind : zkG yX5_isBehind = some (cX5_isBehind, 3, some .boolean) := by decide +kernel
theorem kX5_isCore : zkG yX5_isCore = some (cX5_isCore, 2, some .boolean) := by decide +kernel
theorem kX5_isFrame : zkG yX5_isFrame = some (cX5_isFrame, 1, some .boolean) := by decide +kernel
theorem kX5_isFree : zkG yX5_isFree = some (cX5_isFree, 2, some .boolean) := by decide +kernel
theorem kX5_isNote : zkG yX5_isNote = some (cX5_isNote, 3, some .boolean) := by decide +kernel
theorem kX5_isPage : zkG yX5_isPage = some (cX5_isPage, 1, some .boolean) := by decide +kernel
theorem kX5_isSpace : zkG yX5_isSpace = some (cX5_isSpace, 1, some .boolean) := by decide +kernel
theorem kX5_isStale : zkG yX5_isStale = some (cX5_isStale, 3, some .boolean) := by decide +kernel
theorem kX5_isWritable : zkG yX5_isWritable = some (cX5_isWritable, 1, some .boolean) := by decide +kernel
theorem kX5_look : zkG yX5_look = some (cX5_look, 6, some .int) := by decide +kernel
theorem kX5_map : zkG yX5_map = some (cX5_map, 5, some .int) := by decide +kernel
theorem kX5_note : zkG yX5_note = some (cX5_note, 4, some .int) := by decide +kernel
theorem kX5_oneIf : zkG yX5_oneIf = some (cX5_oneIf, 1, some .int) := by decide +kernel
theorem kX5_remap : zkG yX5_remap = some (cX5_remap, 6, some .int) := by decide +kernel
theorem kX5_rounds : zkG yX5_rounds = some (cX5_rounds, 6, some .int) := by decide +kernel
theorem kX5_seen : zkG yX5_seen = some (cX5_seen, 1, some .int) := by decide +kernel
theorem kX5_shoot : zkG yX5_shoot = some (cX5_shoot, 3, some .int) := by decide +kernel
theorem kX5_shootPage : zkG yX5_shootPage = some (cX5_shootPage, 5, some .int) := by decide +kernel
theorem kX5_sleep : zkG yX5_sleep = some (cX5_sleep, 3, some .int) := by decide +kernel
theorem kX5_startAgain : zkG yX5_startAgain = some (cX5_startAgain, 2, none) := by decide +kernel
theorem kX5_take : zkG yX5_take = some (cX5_take, 2, some .int) := by decide +kernel
theorem kX5_takeAllCalls : zkG yX5_takeAllCalls = some (cX5_takeAllCalls, 4, some .int) := by decide +kernel
theorem kX5_takeFirstCall : zkG yX5_takeFirstCall = some (cX5_takeFirstCall, 3, some .int) := by decide +kernel
theorem kX5_underWay : zkG yX5_underWay = some (cX5_underWay, 2, some .int) := by decide +kernel
theorem kX5_unmap : zkG yX5_unmap = some (cX5_unmap, 4, some .int) := by decide +kernel
theorem kX5_wake : zkG yX5_wake = some (cX5_wake, 2, some .int) := by decide +kernel
theorem kX5_walkTable : zkG yX5_walkTable = some (cX5_walkTable, 6, some .int) := by decide +kernel
theorem kX5_wasSo : zkG yX5_wasSo = some (cX5_wasSo, 5, some .int) := by decide +kernel
theorem kX0_generation : zkG yX0_generation = some (cX0_generation, 3, some .int) := by decide +kernel
theorem kX0_isAwakeIn : zkG yX0_isAwakeIn = some (cX0_isAwakeIn, 3, some .boolean) := by decide +kernel
theorem kX0_raiseGeneration : zkG yX0_raiseGeneration = some (cX0_raiseGeneration, 4, none) := by decide +kernel
theorem kX0_startAgain : zkG yX0_startAgain = some (cX0_startAgain, 2, none) := by decide +kernel
theorem kX1_entryNoted : zkG yX1_entryNoted = some (cX1_entryNoted, 3, some .int) := by decide +kernel
theorem kX1_find : zkG yX1_find = some (cX1_find, 5, some .int) := by decide +kernel
theorem kX1_forget : zkG yX1_forget = some (cX1_forget, 7, some .int) := by decide +kernel
theorem kX1_isOf : zkG yX1_isOf = some (cX1_isOf, 5, some .boolean) := by decide +kernel
theorem kX1_keep : zkG yX1_keep = some (cX1_keep, 7, none) := by decide +kernel
theorem kX1_move : zkG yX1_move = some (cX1_move, 6, none) := by decide +kernel
theorem kX1_pageNoted : zkG yX1_pageNoted = some (cX1_pageNoted, 3, some .int) := by decide +kernel
theorem kX1_spaceNoted : zkG yX1_spaceNoted = some (cX1_spaceNoted, 3, some .int) := by decide +kernel
theorem kX1_startAgain : zkG yX1_startAgain = some (cX1_startAgain, 1, none) := by decide +kernel
theorem kX1_timeNoted : zkG yX1_timeNoted = some (cX1_timeNoted, 3, some .int) := by decide +kernel
theorem kX2_append : zkG yX2_append = some (cX2_append, 3, none) := by decide +kernel
theorem kX2_removeFirst : zkG yX2_removeFirst = some (cX2_removeFirst, 4, some .int) := by decide +kernel
theorem kX2_startAgain : zkG yX2_startAgain = some (cX2_startAgain, 1, none) := by decide +kernel
theorem kX3_begin : zkG yX3_begin = some (cX3_begin, 7, some .int) := by decide +kernel
theorem kX3_howManyDone : zkG yX3_howManyDone = some (cX3_howManyDone, 3, some .int) := by decide +kernel
theorem kX3_isBegun : zkG yX3_isBegun = some (cX3_isBegun, 2, some .boolean) := by decide +kernel
theorem kX3_isDone : zkG yX3_isDone = some (cX3_isDone, 2, some .boolean) := by decide +kernel
theorem kX3_isFull : zkG yX3_isFull = some (cX3_isFull, 1, some .boolean) := by decide +kernel
theorem kX3_startAgain : zkG yX3_startAgain = some (cX3_startAgain, 1, none) := by decide +kernel
theorem kX3_waitFor : zkG yX3_waitFor = some (cX3_waitFor, 3, none) := by decide +kernel
theorem kX3_waitNoMore : zkG yX3_waitNoMore = some (cX3_waitNoMore, 3, none) := by decide +kernel
theorem kX3_waitsFor : zkG yX3_waitsFor = some (cX3_waitsFor, 3, some .boolean) := by decide +kernel
theorem kX4_change : zkG yX4_change = some (cX4_change, 7, none) := by decide +kernel
theorem kX4_changeAllToNone : zkG yX4_changeAllToNone = some (cX4_changeAllToNone, 4, none) := by decide +kernel
theorem kX4_entryKept : zkG yX4_entryKept = some (cX4_entryKept, 4, some .int) := by decide +kernel
theorem kX4_entryNow : zkG yX4_entryNow = some (cX4_entryNow, 3, some .int) := by decide +kernel
theorem kX4_heldFrom : zkG yX4_heldFrom = some (cX4_heldFrom, 8, some .boolean) := by decide +kernel
theorem kX4_isAllNone : zkG yX4_isAllNone = some (cX4_isAllNone, 3, some .boolean) := by decide +kernel
theorem kX4_isKept : zkG yX4_isKept = some (cX4_isKept, 4, some .boolean) := by decide +kernel
theorem kX4_rowOf : zkG yX4_rowOf = some (cX4_rowOf, 2, some .int) := by decide +kernel
theorem kX4_startAgain : zkG yX4_startAgain = some (cX4_startAgain, 1, none) := by decide +kernel
theorem kX4_timeKept : zkG yX4_timeKept = some (cX4_timeKept, 4, some .int) := by decide +kernel
theorem kX6_become : zkG yX6_become = some (cX6_become, 5, none) := by decide +kernel
theorem kX6_begin : zkG yX6_begin = some (cX6_begin, 3, none) := by decide +kernel
theorem kX6_begins : zkG yX6_begins = some (cX6_begins, 10, some .int) := by decide +kernel
theorem kX6_catchUp : zkG yX6_catchUp = some (cX6_catchUp, 4, some .int) := by decide +kernel
theorem kX6_clear : zkG yX6_clear = some (cX6_clear, 5, some .int) := by decide +kernel
theorem kX6_core : zkG yX6_core = some (cX6_core, 3, some .int) := by decide +kernel
theorem kX6_cores : zkG yX6_cores = some (cX6_cores, 3, some .int) := by decide +kernel
theorem kX6_count : zkG yX6_count = some (cX6_count, 4, some .int) := by decide +kernel
theorem kX6_danger : zkG yX6_danger = some (cX6_danger, 6, some .int) := by decide +kernel
theorem kX6_digest : zkG yX6_digest = some (cX6_digest, 6, some .long) := by decide +kernel
theorem kX6_dropNote : zkG yX6_dropNote = some (cX6_dropNote, 4, none) := by decide +kernel
theorem kX6_enter : zkG yX6_enter = some (cX6_enter, 4, some .int) := by decide +kernel
theorem kX6_entry : zkG yX6_entry = some (cX6_entry, 3, some .int) := by decide +kernel
theorem kX6_entryOf : zkG yX6_entryOf = some (cX6_entryOf, 2, some .int) := by decide +kernel
theorem kX6_forget : zkG yX6_forget = some (cX6_forget, 6, some .int) := by decide +kernel
theorem kX6_history : zkG yX6_history = some (cX6_history, 5, some .int) := by decide +kernel
theorem kX6_how : zkG yX6_how = some (cX6_how, 1, some .int) := by decide +kernel
theorem kX6_in : zkG yX6_in = some (cX6_in, 3, some .boolean) := by decide +kernel
theorem kX6_isCore : zkG yX6_isCore = some (cX6_isCore, 2, some .boolean) := by decide +kernel
theorem kX6_isNote : zkG yX6_isNote = some (cX6_isNote, 3, some .boolean) := by decide +kernel
theorem kX6_isPage : zkG yX6_isPage = some (cX6_isPage, 2, some .boolean) := by decide +kernel
theorem kX6_isStale : zkG yX6_isStale = some (cX6_isStale, 4, some .boolean) := by decide +kernel
theorem kX6_look : zkG yX6_look = some (cX6_look, 7, some .int) := by decide +kernel
theorem kX6_map : zkG yX6_map = some (cX6_map, 5, some .int) := by decide +kernel
theorem kX6_mayShoot : zkG yX6_mayShoot = some (cX6_mayShoot, 2, some .boolean) := by decide +kernel
theorem kX6_note : zkG yX6_note = some (cX6_note, 5, some .int) := by decide +kernel
theorem kX6_noteOf : zkG yX6_noteOf = some (cX6_noteOf, 5, some .int) := by decide +kernel
theorem kX6_remap : zkG yX6_remap = some (cX6_remap, 6, some .int) := by decide +kernel
theorem kX6_rounds : zkG yX6_rounds = some (cX6_rounds, 6, some .int) := by decide +kernel
theorem kX6_seen : zkG yX6_seen = some (cX6_seen, 1, some .int) := by decide +kernel
theorem kX6_settle : zkG yX6_settle = some (cX6_settle, 4, none) := by decide +kernel
theorem kX6_shoot : zkG yX6_shoot = some (cX6_shoot, 3, some .int) := by decide +kernel
theorem kX6_shootOf : zkG yX6_shootOf = some (cX6_shootOf, 3, some .int) := by decide +kernel
theorem kX6_sleep : zkG yX6_sleep = some (cX6_sleep, 3, some .int) := by decide +kernel
theorem kX6_take : zkG yX6_take = some (cX6_take, 2, some .int) := by decide +kernel
theorem kX6_takeAll : zkG yX6_takeAll = some (cX6_takeAll, 4, some .int) := by decide +kernel
theorem kX6_takeCall : zkG yX6_takeCall = some (cX6_takeCall, 5, some .int) := by decide +kernel
theorem kX6_takeNote : zkG yX6_takeNote = some (cX6_takeNote, 6, none) := by decide +kernel
theorem kX6_told : zkG yX6_told = some (cX6_told, 1, some .int) := by decide +kernel
theorem kX6_underWay : zkG yX6_underWay = some (cX6_underWay, 2, some .int) := by decide +kernel
theorem kX6_unmap : zkG yX6_unmap = some (cX6_unmap, 4, some .int) := by decide +kernel
theorem kX6_waited : zkG yX6_waited = some (cX6_waited, 4, some .int) := by decide +kernel
theorem kX6_wake : zkG yX6_wake = some (cX6_wake, 2, some .int) := by decide +kernel
theorem kX6_wasSo : zkG yX6_wasSo = some (cX6_wasSo, 7, some .int) := by decide +kernel
theorem kJ6_bitCount_0f7a4 : zkG yJ6_bitCount_0f7a4 = some (cJ6_bitCount_0f7a4, 1, some .int) := by decide +kernel
theorem kJ7_fill_53178 : zkG yJ7_fill_53178 = some (cJ7_fill_53178, 4, none) := by decide +kernel
