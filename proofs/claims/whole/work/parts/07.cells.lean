/-! the cells: 0 to 27 the class, 28 to 47 the model -/
def zUX : zU := [.inr (5, [some 1, some 6, some 11, some 17, some 20, none, none, none, none, none, none, none, none, none, none]), .inr (4, [some 2, some 3, some 4, some 5]), .inl (false, 3), .inl (false, 48), .inl (false, 960), .inl (false, 960), .inr (0, [some 7, some 8, some 9, some 10]), .inl (false, 4), .inl (true, 4), .inl (false, 4), .inl (false, 12), .inr (1, [some 12, some 13, some 14, some 15, some 16]), .inl (false, 4), .inl (false, 16), .inl (false, 16), .inl (false, 16), .inl (false, 16), .inr (2, [some 18, some 19]), .inl (false, 4), .inl (false, 160), .inr (3, [none, some 21, some 22, some 23, some 24, some 25, some 26, some 27]), .inl (false, 40), .inl (false, 40), .inl (false, 40), .inl (false, 40), .inl (false, 40), .inl (false, 40), .inl (false, 40)]
def zUM : zU := [.inr (6, [none, none, none, none, some 29, some 30, some 31, some 32, some 33, some 34, some 35, some 36, some 37, some 38, some 39, some 40, none, some 41, some 42, some 43, some 44, some 45, some 46, some 47, none, none, none, none, none, none]), .inl (false, 48), .inl (false, 3), .inl (false, 48), .inl (false, 960), .inl (false, 960), .inl (false, 4), .inl (true, 4), .inl (false, 4), .inl (false, 80), .inl (false, 4), .inl (false, 160), .inl (false, 12), .inl (false, 40), .inl (false, 40), .inl (false, 40), .inl (false, 40), .inl (false, 40), .inl (false, 40), .inl (true, 160)]
def zUn (b : Bool) : zU := if b = true then zUX ++ zUM else zUX
theorem u_0 (b : Bool) : (zUn b)[0]? = some (.inr (5, [some 1, some 6, some 11, some 17, some 20, none, none, none, none, none, none, none, none, none, none])) := by cases b <;> rfl
theorem u_1 (b : Bool) : (zUn b)[1]? = some (.inr (4, [some 2, some 3, some 4, some 5])) := by cases b <;> rfl
theorem u_2 (b : Bool) : (zUn b)[2]? = some (.inl (false, 3)) := by cases b <;> rfl
theorem u_3 (b : Bool) : (zUn b)[3]? = some (.inl (false, 48)) := by cases b <;> rfl
theorem u_4 (b : Bool) : (zUn b)[4]? = some (.inl (false, 960)) := by cases b <;> rfl
theorem u_5 (b : Bool) : (zUn b)[5]? = some (.inl (false, 960)) := by cases b <;> rfl
theorem u_6 (b : Bool) : (zUn b)[6]? = some (.inr (0, [some 7, some 8, some 9, some 10])) := by cases b <;> rfl
theorem u_7 (b : Bool) : (zUn b)[7]? = some (.inl (false, 4)) := by cases b <;> rfl
theorem u_8 (b : Bool) : (zUn b)[8]? = some (.inl (true, 4)) := by cases b <;> rfl
theorem u_9 (b : Bool) : (zUn b)[9]? = some (.inl (false, 4)) := by cases b <;> rfl
theorem u_10 (b : Bool) : (zUn b)[10]? = some (.inl (false, 12)) := by cases b <;> rfl
theorem u_11 (b : Bool) : (zUn b)[11]? = some (.inr (1, [some 12, some 13, some 14, some 15, some 16])) := by cases b <;> rfl
theorem u_12 (b : Bool) : (zUn b)[12]? = some (.inl (false, 4)) := by cases b <;> rfl
theorem u_13 (b : Bool) : (zUn b)[13]? = some (.inl (false, 16)) := by cases b <;> rfl
theorem u_14 (b : Bool) : (zUn b)[14]? = some (.inl (false, 16)) := by cases b <;> rfl
theorem u_15 (b : Bool) : (zUn b)[15]? = some (.inl (false, 16)) := by cases b <;> rfl
theorem u_16 (b : Bool) : (zUn b)[16]? = some (.inl (false, 16)) := by cases b <;> rfl
theorem u_17 (b : Bool) : (zUn b)[17]? = some (.inr (2, [some 18, some 19])) := by cases b <;> rfl
theorem u_18 (b : Bool) : (zUn b)[18]? = some (.inl (false, 4)) := by cases b <;> rfl
theorem u_19 (b : Bool) : (zUn b)[19]? = some (.inl (false, 160)) := by cases b <;> rfl
theorem u_20 (b : Bool) : (zUn b)[20]? = some (.inr (3, [none, some 21, some 22, some 23, some 24, some 25, some 26, some 27])) := by cases b <;> rfl
theorem u_21 (b : Bool) : (zUn b)[21]? = some (.inl (false, 40)) := by cases b <;> rfl
theorem u_22 (b : Bool) : (zUn b)[22]? = some (.inl (false, 40)) := by cases b <;> rfl
theorem u_23 (b : Bool) : (zUn b)[23]? = some (.inl (false, 40)) := by cases b <;> rfl
theorem u_24 (b : Bool) : (zUn b)[24]? = some (.inl (false, 40)) := by cases b <;> rfl
theorem u_25 (b : Bool) : (zUn b)[25]? = some (.inl (false, 40)) := by cases b <;> rfl
theorem u_26 (b : Bool) : (zUn b)[26]? = some (.inl (false, 40)) := by cases b <;> rfl
theorem u_27 (b : Bool) : (zUn b)[27]? = some (.inl (false, 40)) := by cases b <;> rfl
theorem u_28 : (zUn true)[28]? = some (.inr (6, [none, none, none, none, some 29, some 30, some 31, some 32, some 33, some 34, some 35, some 36, some 37, some 38, some 39, some 40, none, some 41, some 42, some 43, some 44, some 45, some 46, some 47, none, none, none, none, none, none])) := rfl
theorem u_29 : (zUn true)[29]? = some (.inl (false, 48)) := rfl
theorem u_30 : (zUn true)[30]? = some (.inl (false, 3)) := rfl
theorem u_31 : (zUn true)[31]? = some (.inl (false, 48)) := rfl
theorem u_32 : (zUn true)[32]? = some (.inl (false, 960)) := rfl
theorem u_33 : (zUn true)[33]? = some (.inl (false, 960)) := rfl
theorem u_34 : (zUn true)[34]? = some (.inl (false, 4)) := rfl
theorem u_35 : (zUn true)[35]? = some (.inl (true, 4)) := rfl
theorem u_36 : (zUn true)[36]? = some (.inl (false, 4)) := rfl
theorem u_37 : (zUn true)[37]? = some (.inl (false, 80)) := rfl
theorem u_38 : (zUn true)[38]? = some (.inl (false, 4)) := rfl
theorem u_39 : (zUn true)[39]? = some (.inl (false, 160)) := rfl
theorem u_40 : (zUn true)[40]? = some (.inl (false, 12)) := rfl
theorem u_41 : (zUn true)[41]? = some (.inl (false, 40)) := rfl
theorem u_42 : (zUn true)[42]? = some (.inl (false, 40)) := rfl
theorem u_43 : (zUn true)[43]? = some (.inl (false, 40)) := rfl
theorem u_44 : (zUn true)[44]? = some (.inl (false, 40)) := rfl
theorem u_45 : (zUn true)[45]? = some (.inl (false, 40)) := rfl
theorem u_46 : (zUn true)[46]? = some (.inl (false, 40)) := rfl
theorem u_47 : (zUn true)[47]? = some (.inl (true, 160)) := rfl
theorem zn_0 : zNames[0]? = some RX0 := rfl
theorem zn_1 : zNames[1]? = some RX1 := rfl
theorem zn_2 : zNames[2]? = some RX2 := rfl
theorem zn_3 : zNames[3]? = some RX3 := rfl
theorem zn_4 : zNames[4]? = some RX4 := rfl
theorem zn_5 : zNames[5]? = some RX5 := rfl
theorem zn_6 : zNames[6]? = some RX6 := rfl
theorem zf_RX4_9 : zfG RX4 9 = some (4, 0, false, false) := by decide +kernel
theorem zf_RX5_255 : zfG RX5 255 = some (4, 0, false, true) := by decide +kernel
theorem zf_RX4_15 : zfG RX4 15 = some (4, 1, false, false) := by decide +kernel
theorem zf_RX4_18 : zfG RX4 18 = some (4, 2, false, false) := by decide +kernel
theorem zf_RX4_21 : zfG RX4 21 = some (4, 3, false, false) := by decide +kernel
theorem zf_RX0_9 : zfG RX0 9 = some (0, 0, false, false) := by decide +kernel
theorem zf_RX5_83 : zfG RX5 83 = some (0, 0, false, true) := by decide +kernel
theorem zf_RX0_15 : zfG RX0 15 = some (0, 1, false, false) := by decide +kernel
theorem zf_RX5_94 : zfG RX5 94 = some (0, 1, false, true) := by decide +kernel
theorem zf_RX0_19 : zfG RX0 19 = some (0, 2, false, false) := by decide +kernel
theorem zf_RX5_202 : zfG RX5 202 = some (0, 2, false, true) := by decide +kernel
theorem zf_RX0_22 : zfG RX0 22 = some (0, 3, false, false) := by decide +kernel
theorem zf_RX1_9 : zfG RX1 9 = some (1, 0, false, false) := by decide +kernel
theorem zf_RX5_205 : zfG RX5 205 = some (1, 0, false, true) := by decide +kernel
theorem zf_RX1_15 : zfG RX1 15 = some (1, 1, false, false) := by decide +kernel
theorem zf_RX1_18 : zfG RX1 18 = some (1, 2, false, false) := by decide +kernel
theorem zf_RX1_21 : zfG RX1 21 = some (1, 3, false, false) := by decide +kernel
theorem zf_RX1_24 : zfG RX1 24 = some (1, 4, false, false) := by decide +kernel
theorem zf_RX2_9 : zfG RX2 9 = some (2, 0, false, false) := by decide +kernel
theorem zf_RX5_208 : zfG RX5 208 = some (2, 0, false, true) := by decide +kernel
theorem zf_RX2_15 : zfG RX2 15 = some (2, 1, false, false) := by decide +kernel
theorem zf_RX3_33 : zfG RX3 33 = some (3, 0, true, false) := by decide +kernel
theorem zf_RX5_230 : zfG RX5 230 = some (3, 0, true, true) := by decide +kernel
theorem zf_RX3_9 : zfG RX3 9 = some (3, 1, false, false) := by decide +kernel
theorem zf_RX5_172 : zfG RX5 172 = some (3, 1, false, true) := by decide +kernel
theorem zf_RX3_15 : zfG RX3 15 = some (3, 2, false, false) := by decide +kernel
theorem zf_RX5_175 : zfG RX5 175 = some (3, 2, false, true) := by decide +kernel
theorem zf_RX3_18 : zfG RX3 18 = some (3, 3, false, false) := by decide +kernel
theorem zf_RX5_176 : zfG RX5 176 = some (3, 3, false, true) := by decide +kernel
theorem zf_RX3_21 : zfG RX3 21 = some (3, 4, false, false) := by decide +kernel
theorem zf_RX5_179 : zfG RX5 179 = some (3, 4, false, true) := by decide +kernel
theorem zf_RX3_24 : zfG RX3 24 = some (3, 5, false, false) := by decide +kernel
theorem zf_RX5_182 : zfG RX5 182 = some (3, 5, false, true) := by decide +kernel
theorem zf_RX3_27 : zfG RX3 27 = some (3, 6, false, false) := by decide +kernel
theorem zf_RX5_188 : zfG RX5 188 = some (3, 6, false, true) := by decide +kernel
theorem zf_RX3_30 : zfG RX3 30 = some (3, 7, false, false) := by decide +kernel
theorem zf_RX5_191 : zfG RX5 191 = some (3, 7, false, true) := by decide +kernel
theorem zf_RX5_10 : zfG RX5 10 = some (5, 0, false, false) := by decide +kernel
theorem zf_RX5_19 : zfG RX5 19 = some (5, 1, false, false) := by decide +kernel
theorem zf_RX5_26 : zfG RX5 26 = some (5, 2, false, false) := by decide +kernel
theorem zf_RX5_33 : zfG RX5 33 = some (5, 3, false, false) := by decide +kernel
theorem zf_RX5_40 : zfG RX5 40 = some (5, 4, false, false) := by decide +kernel
theorem zf_RX5_48 : zfG RX5 48 = some (5, 5, true, false) := by decide +kernel
theorem zf_RX5_66 : zfG RX5 66 = some (5, 6, true, false) := by decide +kernel
theorem zf_RX5_118 : zfG RX5 118 = some (5, 7, true, false) := by decide +kernel
theorem zf_RX5_221 : zfG RX5 221 = some (5, 8, true, false) := by decide +kernel
theorem zf_RX5_237 : zfG RX5 237 = some (5, 9, true, false) := by decide +kernel
theorem zf_RX5_240 : zfG RX5 240 = some (5, 10, true, false) := by decide +kernel
theorem zf_RX5_243 : zfG RX5 243 = some (5, 11, true, false) := by decide +kernel
theorem zf_RX5_246 : zfG RX5 246 = some (5, 12, true, false) := by decide +kernel
theorem zf_RX5_249 : zfG RX5 249 = some (5, 13, true, false) := by decide +kernel
theorem zf_RX5_252 : zfG RX5 252 = some (5, 14, true, false) := by decide +kernel
theorem zf_RX6_72 : zfG RX6 72 = some (6, 0, true, false) := by decide +kernel
theorem zf_RX6_76 : zfG RX6 76 = some (6, 1, true, false) := by decide +kernel
theorem zf_RX6_79 : zfG RX6 79 = some (6, 2, true, false) := by decide +kernel
theorem zf_RX6_82 : zfG RX6 82 = some (6, 3, true, false) := by decide +kernel
theorem zf_RX6_7 : zfG RX6 7 = some (6, 4, false, false) := by decide +kernel
theorem zf_RX6_13 : zfG RX6 13 = some (6, 5, false, false) := by decide +kernel
theorem zf_RX6_16 : zfG RX6 16 = some (6, 6, false, false) := by decide +kernel
theorem zf_RX6_19 : zfG RX6 19 = some (6, 7, false, false) := by decide +kernel
theorem zf_RX6_22 : zfG RX6 22 = some (6, 8, false, false) := by decide +kernel
theorem zf_RX6_25 : zfG RX6 25 = some (6, 9, false, false) := by decide +kernel
theorem zf_RX6_28 : zfG RX6 28 = some (6, 10, false, false) := by decide +kernel
theorem zf_RX6_32 : zfG RX6 32 = some (6, 11, false, false) := by decide +kernel
theorem zf_RX6_35 : zfG RX6 35 = some (6, 12, false, false) := by decide +kernel
theorem zf_RX6_38 : zfG RX6 38 = some (6, 13, false, false) := by decide +kernel
theorem zf_RX6_41 : zfG RX6 41 = some (6, 14, false, false) := by decide +kernel
theorem zf_RX6_44 : zfG RX6 44 = some (6, 15, false, false) := by decide +kernel
theorem zf_RX6_85 : zfG RX6 85 = some (6, 16, true, false) := by decide +kernel
theorem zf_RX6_47 : zfG RX6 47 = some (6, 17, false, false) := by decide +kernel
theorem zf_RX6_50 : zfG RX6 50 = some (6, 18, false, false) := by decide +kernel
theorem zf_RX6_53 : zfG RX6 53 = some (6, 19, false, false) := by decide +kernel
theorem zf_RX6_56 : zfG RX6 56 = some (6, 20, false, false) := by decide +kernel
theorem zf_RX6_59 : zfG RX6 59 = some (6, 21, false, false) := by decide +kernel
theorem zf_RX6_62 : zfG RX6 62 = some (6, 22, false, false) := by decide +kernel
theorem zf_RX6_65 : zfG RX6 65 = some (6, 23, false, false) := by decide +kernel
theorem zf_RX6_88 : zfG RX6 88 = some (6, 24, true, false) := by decide +kernel
theorem zf_RX6_91 : zfG RX6 91 = some (6, 25, true, false) := by decide +kernel
theorem zf_RX6_94 : zfG RX6 94 = some (6, 26, true, false) := by decide +kernel
theorem zf_RX6_97 : zfG RX6 97 = some (6, 27, true, false) := by decide +kernel
theorem zf_RX6_100 : zfG RX6 100 = some (6, 28, true, false) := by decide +kernel
theorem zf_RX6_103 : zfG RX6 103 = some (6, 29, true, false) := by decide +kernel
theorem zm_RX5_44 : zmG RX5 44 = some (yX5_startAgain, 1, 0) := by decide +kernel
theorem zm_RX5_270 : zmG RX5 270 = some (yX4_startAgain, 0, 1) := by decide +kernel
theorem zm_RX4_24 : zmG RX4 24 = some (yJ7_fill_53178, 2, 2) := by decide +kernel
theorem zm_RX5_272 : zmG RX5 272 = some (yX0_startAgain, 0, 1) := by decide +kernel
theorem zm_RX0_25 : zmG RX0 25 = some (yJ7_fill_53178, 2, 2) := by decide +kernel
theorem zm_RX5_273 : zmG RX5 273 = some (yX1_startAgain, 0, 1) := by decide +kernel
theorem zm_RX1_27 : zmG RX1 27 = some (yJ7_fill_53178, 2, 2) := by decide +kernel
theorem zm_RX5_274 : zmG RX5 274 = some (yX2_startAgain, 0, 1) := by decide +kernel
theorem zm_RX2_18 : zmG RX2 18 = some (yJ7_fill_53178, 2, 2) := by decide +kernel
theorem zm_RX5_275 : zmG RX5 275 = some (yX3_startAgain, 0, 1) := by decide +kernel
theorem zm_RL_13 : zmG RL 13 = some (yX5_cores, 1, 0) := by decide +kernel
theorem zm_RL_18 : zmG RL 18 = some (yX5_map, 4, 0) := by decide +kernel
theorem zm_RX5_52 : zmG RX5 52 = some (yX5_isSpace, 1, 2) := by decide +kernel
theorem zm_RX5_56 : zmG RX5 56 = some (yX5_isPage, 1, 2) := by decide +kernel
theorem zm_RX5_59 : zmG RX5 59 = some (yX5_isFrame, 1, 2) := by decide +kernel
theorem zm_RX5_62 : zmG RX5 62 = some (yX4_entryNow, 2, 1) := by decide +kernel
theorem zm_RX4_30 : zmG RX4 30 = some (yX4_rowOf, 2, 2) := by decide +kernel
theorem zm_RX4_34 : zmG RX4 34 = some (yX4_entryKept, 3, 0) := by decide +kernel
theorem zm_RX5_69 : zmG RX5 69 = some (yX5_entryOf, 2, 2) := by decide +kernel
theorem zm_RX5_73 : zmG RX5 73 = some (yX4_change, 4, 1) := by decide +kernel
theorem zm_RX4_41 : zmG RX4 41 = some (⟨"java/lang/System", "arraycopy", "(Ljava/lang/Object;ILjava/lang/Object;II)V"⟩, 5, 3) := by decide +kernel
theorem zm_RL_23 : zmG RL 23 = some (yX5_entry, 2, 0) := by decide +kernel
theorem zm_RL_28 : zmG RL 28 = some (yX5_enter, 2, 0) := by decide +kernel
theorem zm_RX5_77 : zmG RX5 77 = some (yX5_isCore, 1, 0) := by decide +kernel
theorem zm_RX5_80 : zmG RX5 80 = some (yX5_isFree, 1, 0) := by decide +kernel
theorem zm_RX5_87 : zmG RX5 87 = some (yX5_takeAllCalls, 1, 0) := by decide +kernel
theorem zm_RX5_166 : zmG RX5 166 = some (yX5_takeFirstCall, 1, 0) := by decide +kernel
theorem zm_RX5_297 : zmG RX5 297 = some (yX2_removeFirst, 1, 1) := by decide +kernel
theorem zm_RX2_24 : zmG RX2 24 = some (⟨"java/lang/System", "arraycopy", "(Ljava/lang/Object;ILjava/lang/Object;II)V"⟩, 5, 3) := by decide +kernel
theorem zm_RX5_169 : zmG RX5 169 = some (yX3_isBegun, 1, 1) := by decide +kernel
theorem zm_RX5_112 : zmG RX5 112 = some (yX1_forget, 3, 1) := by decide +kernel
theorem zm_RX1_33 : zmG RX1 33 = some (yX1_isOf, 4, 0) := by decide +kernel
theorem zm_RX1_37 : zmG RX1 37 = some (yX1_spaceNoted, 2, 0) := by decide +kernel
theorem zm_RX1_41 : zmG RX1 41 = some (yX1_pageNoted, 2, 0) := by decide +kernel
theorem zm_RX1_48 : zmG RX1 48 = some (yX1_move, 3, 0) := by decide +kernel
theorem zm_RX5_283 : zmG RX5 283 = some (yX0_raiseGeneration, 3, 1) := by decide +kernel
theorem zm_RX0_31 : zmG RX0 31 = some (⟨"java/lang/Math", "max", "(II)I"⟩, 2, 4) := by decide +kernel
theorem zm_RX5_300 : zmG RX5 300 = some (yX3_waitNoMore, 2, 1) := by decide +kernel
theorem zm_RX5_185 : zmG RX5 185 = some (yX3_isDone, 1, 1) := by decide +kernel
theorem zm_RX5_91 : zmG RX5 91 = some (yX5_catchUp, 1, 0) := by decide +kernel
theorem zm_RX5_280 : zmG RX5 280 = some (yX5_isBehind, 2, 0) := by decide +kernel
theorem zm_RX5_211 : zmG RX5 211 = some (yX0_generation, 2, 1) := by decide +kernel
theorem zm_RL_32 : zmG RL 32 = some (yX5_sleep, 1, 0) := by decide +kernel
theorem zm_RL_36 : zmG RL 36 = some (yX5_wake, 1, 0) := by decide +kernel
theorem zm_RL_40 : zmG RL 40 = some (yX5_look, 3, 0) := by decide +kernel
theorem zm_RX5_98 : zmG RX5 98 = some (yX1_find, 3, 1) := by decide +kernel
theorem zm_RX5_102 : zmG RX5 102 = some (yX5_walkTable, 4, 0) := by decide +kernel
theorem zm_RX5_109 : zmG RX5 109 = some (yX5_isWritable, 1, 2) := by decide +kernel
theorem zm_RX5_276 : zmG RX5 276 = some (yX1_keep, 5, 1) := by decide +kernel
theorem zm_RX1_44 : zmG RX1 44 = some (yX1_forget, 3, 0) := by decide +kernel
theorem zm_RX5_131 : zmG RX5 131 = some (yX5_frameOf, 1, 2) := by decide +kernel
theorem zm_RX5_106 : zmG RX5 106 = some (yX1_entryNoted, 2, 1) := by decide +kernel
theorem zm_RX5_115 : zmG RX5 115 = some (yX5_goByNote, 2, 0) := by decide +kernel
theorem zm_RX5_141 : zmG RX5 141 = some (yX5_isStale, 2, 0) := by decide +kernel
theorem zm_RX5_125 : zmG RX5 125 = some (yX1_spaceNoted, 2, 1) := by decide +kernel
theorem zm_RX5_128 : zmG RX5 128 = some (yX1_pageNoted, 2, 1) := by decide +kernel
theorem zm_RL_45 : zmG RL 45 = some (yX5_how, 0, 0) := by decide +kernel
theorem zm_RL_50 : zmG RL 50 = some (yX5_note, 3, 0) := by decide +kernel
theorem zm_RX5_121 : zmG RX5 121 = some (yX5_isNote, 2, 0) := by decide +kernel
theorem zm_RX5_134 : zmG RX5 134 = some (yX5_oneIf, 1, 2) := by decide +kernel
theorem zm_RX5_138 : zmG RX5 138 = some (yX1_timeNoted, 2, 1) := by decide +kernel
theorem zm_RL_55 : zmG RL 55 = some (yX5_wasSo, 2, 0) := by decide +kernel
theorem zm_RX5_144 : zmG RX5 144 = some (yX4_heldFrom, 4, 1) := by decide +kernel
theorem zm_RX4_51 : zmG RX4 51 = some (yX4_timeKept, 3, 0) := by decide +kernel
theorem zm_RL_59 : zmG RL 59 = some (yX5_unmap, 3, 0) := by decide +kernel
theorem zm_RX5_148 : zmG RX5 148 = some (yX5_shootPage, 4, 0) := by decide +kernel
theorem zm_RX5_155 : zmG RX5 155 = some (yX3_isFull, 0, 1) := by decide +kernel
theorem zm_RX5_163 : zmG RX5 163 = some (yX5_beginShoot, 3, 0) := by decide +kernel
theorem zm_RX5_287 : zmG RX5 287 = some (yX3_begin, 5, 1) := by decide +kernel
theorem zm_RX5_227 : zmG RX5 227 = some (yX0_isAwakeIn, 2, 1) := by decide +kernel
theorem zm_RX5_291 : zmG RX5 291 = some (yX2_append, 2, 1) := by decide +kernel
theorem zm_RX5_294 : zmG RX5 294 = some (yX3_waitFor, 2, 1) := by decide +kernel
theorem zm_RL_63 : zmG RL 63 = some (yX5_remap, 5, 0) := by decide +kernel
theorem zm_RL_68 : zmG RL 68 = some (yX5_clear, 2, 0) := by decide +kernel
theorem zm_RX5_152 : zmG RX5 152 = some (yX4_isAllNone, 1, 1) := by decide +kernel
theorem zm_RX4_38 : zmG RX4 38 = some (yX4_entryNow, 2, 0) := by decide +kernel
theorem zm_RX5_159 : zmG RX5 159 = some (yX4_changeAllToNone, 2, 1) := by decide +kernel
theorem zm_RX4_47 : zmG RX4 47 = some (yX4_change, 4, 0) := by decide +kernel
theorem zm_RL_72 : zmG RL 72 = some (yX5_take, 1, 0) := by decide +kernel
theorem zm_RL_76 : zmG RL 76 = some (yX5_rounds, 2, 0) := by decide +kernel
theorem zm_RL_80 : zmG RL 80 = some (yX5_shoot, 2, 0) := by decide +kernel
theorem zm_RX5_194 : zmG RX5 194 = some (yJ6_bitCount_0f7a4, 1, 2) := by decide +kernel
theorem zm_RX5_199 : zmG RX5 199 = some (yX3_waitsFor, 2, 1) := by decide +kernel
theorem zm_RL_84 : zmG RL 84 = some (yX5_underWay, 1, 0) := by decide +kernel
theorem zm_RL_88 : zmG RL 88 = some (yX5_core, 2, 0) := by decide +kernel
theorem zm_RL_92 : zmG RL 92 = some (yX5_history, 3, 0) := by decide +kernel
theorem zm_RX5_214 : zmG RX5 214 = some (yX4_isKept, 3, 1) := by decide +kernel
theorem zm_RX5_218 : zmG RX5 218 = some (yX4_entryKept, 3, 1) := by decide +kernel
theorem zm_RX5_224 : zmG RX5 224 = some (yX4_timeKept, 3, 1) := by decide +kernel
theorem zm_RL_96 : zmG RL 96 = some (yX5_seen, 0, 0) := by decide +kernel
theorem zm_RL_100 : zmG RL 100 = some (yX5_danger, 2, 0) := by decide +kernel
theorem zm_RL_104 : zmG RL 104 = some (yX5_count, 1, 0) := by decide +kernel
theorem zm_RX5_233 : zmG RX5 233 = some (yX3_howManyDone, 0, 1) := by decide +kernel
theorem zm_RX3_37 : zmG RX3 37 = some (yX3_isDone, 1, 0) := by decide +kernel
theorem zm_RL_108 : zmG RL 108 = some (yX5_digest, 0, 0) := by decide +kernel
theorem zm_RX5_260 : zmG RX5 260 = some (yX5_entry, 2, 0) := by decide +kernel
theorem zm_RX5_263 : zmG RX5 263 = some (yX5_digestOfCore, 2, 0) := by decide +kernel
theorem zm_RX5_303 : zmG RX5 303 = some (yX5_core, 2, 0) := by decide +kernel
theorem zm_RX5_306 : zmG RX5 306 = some (yX5_note, 3, 0) := by decide +kernel
theorem zm_RX5_267 : zmG RX5 267 = some (yX5_shoot, 2, 0) := by decide +kernel
theorem zm_RX6_68 : zmG RX6 68 = some (yX6_begin, 1, 0) := by decide +kernel
theorem zm_RL_17 : zmG RL 17 = some (yX6_cores, 1, 0) := by decide +kernel
theorem zm_RX6_106 : zmG RX6 106 = some (yX6_in, 3, 2) := by decide +kernel
theorem zm_RL_22 : zmG RL 22 = some (yX6_map, 4, 0) := by decide +kernel
theorem zm_RX6_110 : zmG RX6 110 = some (yX6_isPage, 2, 2) := by decide +kernel
theorem zm_RX6_114 : zmG RX6 114 = some (yX6_entryOf, 2, 2) := by decide +kernel
theorem zm_RX6_118 : zmG RX6 118 = some (yX6_become, 2, 0) := by decide +kernel
theorem zm_RL_27 : zmG RL 27 = some (yX6_entry, 2, 0) := by decide +kernel
theorem zm_RX6_122 : zmG RX6 122 = some (yX6_told, 1, 2) := by decide +kernel
theorem zm_RL_31 : zmG RL 31 = some (yX6_enter, 2, 0) := by decide +kernel
theorem zm_RX6_139 : zmG RX6 139 = some (yX6_isCore, 1, 0) := by decide +kernel
theorem zm_RX6_143 : zmG RX6 143 = some (yX6_shootOf, 1, 0) := by decide +kernel
theorem zm_RX6_146 : zmG RX6 146 = some (yX6_takeAll, 1, 0) := by decide +kernel
theorem zm_RX6_136 : zmG RX6 136 = some (yX6_takeCall, 1, 0) := by decide +kernel
theorem zm_RX6_129 : zmG RX6 129 = some (yX6_forget, 3, 0) := by decide +kernel
theorem zm_RX6_126 : zmG RX6 126 = some (yX6_dropNote, 2, 0) := by decide +kernel
theorem zm_RX6_133 : zmG RX6 133 = some (yX6_settle, 1, 0) := by decide +kernel
theorem zm_RX6_149 : zmG RX6 149 = some (yX6_catchUp, 1, 0) := by decide +kernel
theorem zm_RL_35 : zmG RL 35 = some (yX6_sleep, 1, 0) := by decide +kernel
theorem zm_RL_39 : zmG RL 39 = some (yX6_wake, 1, 0) := by decide +kernel
theorem zm_RL_44 : zmG RL 44 = some (yX6_look, 3, 0) := by decide +kernel
theorem zm_RX6_152 : zmG RX6 152 = some (yX6_noteOf, 3, 0) := by decide +kernel
theorem zm_RX6_155 : zmG RX6 155 = some (yX6_isStale, 2, 0) := by decide +kernel
theorem zm_RX6_158 : zmG RX6 158 = some (yX6_takeNote, 4, 0) := by decide +kernel
theorem zm_RL_49 : zmG RL 49 = some (yX6_how, 0, 0) := by decide +kernel
theorem zm_RL_54 : zmG RL 54 = some (yX6_note, 3, 0) := by decide +kernel
theorem zm_RX6_162 : zmG RX6 162 = some (yX6_isNote, 2, 0) := by decide +kernel
theorem zm_RL_58 : zmG RL 58 = some (yX6_wasSo, 2, 0) := by decide +kernel
theorem zm_RL_62 : zmG RL 62 = some (yX6_unmap, 3, 0) := by decide +kernel
theorem zm_RX6_165 : zmG RX6 165 = some (yX6_mayShoot, 1, 0) := by decide +kernel
theorem zm_RX6_168 : zmG RX6 168 = some (yX6_begins, 4, 0) := by decide +kernel
theorem zm_RL_67 : zmG RL 67 = some (yX6_remap, 5, 0) := by decide +kernel
theorem zm_RL_71 : zmG RL 71 = some (yX6_clear, 2, 0) := by decide +kernel
theorem zm_RL_75 : zmG RL 75 = some (yX6_take, 1, 0) := by decide +kernel
theorem zm_RL_79 : zmG RL 79 = some (yX6_rounds, 2, 0) := by decide +kernel
theorem zm_RL_83 : zmG RL 83 = some (yX6_shoot, 2, 0) := by decide +kernel
theorem zm_RX6_172 : zmG RX6 172 = some (yX6_waited, 1, 0) := by decide +kernel
theorem zm_RL_87 : zmG RL 87 = some (yX6_underWay, 1, 0) := by decide +kernel
theorem zm_RL_91 : zmG RL 91 = some (yX6_core, 2, 0) := by decide +kernel
theorem zm_RL_95 : zmG RL 95 = some (yX6_history, 3, 0) := by decide +kernel
theorem zm_RL_99 : zmG RL 99 = some (yX6_seen, 0, 0) := by decide +kernel
theorem zm_RL_103 : zmG RL 103 = some (yX6_danger, 2, 0) := by decide +kernel
theorem zm_RL_107 : zmG RL 107 = some (yX6_count, 1, 0) := by decide +kernel
theorem zm_RL_112 : zmG RL 112 = some (yX6_digest, 0, 0) := by decide +kernel
theorem zm_RX6_179 : zmG RX6 179 = some (yX6_core, 2, 0) := by decide +kernel
theorem zm_RX6_183 : zmG RX6 183 = some (yX6_note, 3, 0) := by decide +kernel
theorem zm_RX6_185 : zmG RX6 185 = some (yX6_shoot, 2, 0) := by decide +kernel
theorem zc_265 : zcG RJ6 265 = some 1431655765 := by decide +kernel
theorem zc_266 : zcG RJ6 266 = some 858993459 := by decide +kernel
theorem zc_267 : zcG RJ6 267 = some 252645135 := by decide +kernel
theorem zl_256 : zlG RX5 256 = some 67 := by decide +kernel
theorem zl_258 : zlG RX5 258 = some 31 := by decide +kernel
theorem zl_175 : zlG RX6 175 = some 67 := by decide +kernel
theorem zl_177 : zlG RX6 177 = some 31 := by decide +kernel
