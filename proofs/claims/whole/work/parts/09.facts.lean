theorem q_0 : Cond.selects RX10 yX10_tapeNumber yX10_tapeNumber ∈ tblG := tblG_of 0 (by decide +kernel) rfl
theorem q_1 : Cond.selects RX10 yX10_isSide yX10_isSide ∈ tblG := tblG_of 1 (by decide +kernel) rfl
theorem q_2 : Cond.selects RX10 yX10_pointsNow yX10_pointsNow ∈ tblG := tblG_of 2 (by decide +kernel) rfl
theorem q_3 : Cond.selects RX10 yX10_isPlay yX10_isPlay ∈ tblG := tblG_of 3 (by decide +kernel) rfl
theorem q_4 : Cond.selects RX4 yX4_tellFrame yX4_tellFrame ∈ tblG := tblG_of 4 (by decide +kernel) rfl
theorem q_5 : Cond.selects RX4 yX4_mustHold yX4_mustHold ∈ tblG := tblG_of 5 (by decide +kernel) rfl
theorem q_6 : Cond.selects RX4 yX4_canHold yX4_canHold ∈ tblG := tblG_of 6 (by decide +kernel) rfl
theorem q_7 : Cond.selects RX4 yX4_searchFewest yX4_searchFewest ∈ tblG := tblG_of 7 (by decide +kernel) rfl
theorem q_8 : Cond.selects RX4 yX4_searchLeftOut yX4_searchLeftOut ∈ tblG := tblG_of 8 (by decide +kernel) rfl
theorem q_9 : Cond.selects RX10 yX10_callNow yX10_callNow ∈ tblG := tblG_of 9 (by decide +kernel) rfl
theorem q_10 : Cond.selects RX10 yX10_startAct yX10_startAct ∈ tblG := tblG_of 10 (by decide +kernel) rfl
theorem q_11 : Cond.selects RX10 yX10_reviewNow yX10_reviewNow ∈ tblG := tblG_of 11 (by decide +kernel) rfl
theorem q_12 : Cond.selects RX10 yX10_canChallenge yX10_canChallenge ∈ tblG := tblG_of 12 (by decide +kernel) rfl
theorem q_13 : Cond.selects RX10 yX10_isBoard yX10_isBoard ∈ tblG := tblG_of 13 (by decide +kernel) rfl
theorem q_14 : Cond.selects RX10 yX10_wouldOverturn yX10_wouldOverturn ∈ tblG := tblG_of 14 (by decide +kernel) rfl
theorem q_15 : Cond.selects RX10 yX10_pointsInTruth yX10_pointsInTruth ∈ tblG := tblG_of 15 (by decide +kernel) rfl
theorem q_16 : Cond.selects RX10 yX10_callUnchallenged yX10_callUnchallenged ∈ tblG := tblG_of 16 (by decide +kernel) rfl
theorem q_17 : Cond.selects RX10 yX10_neverLacks yX10_neverLacks ∈ tblG := tblG_of 17 (by decide +kernel) rfl
theorem q_18 : Cond.selects RX10 yX10_secondsOf yX10_secondsOf ∈ tblG := tblG_of 18 (by decide +kernel) rfl
theorem q_20 : Cond.selects RX11 yX11_usual yX11_usual ∈ tblG := tblG_of 20 (by decide +kernel) rfl
theorem q_21 : Cond.selects RX11 yX11_puts yX11_puts ∈ tblG := tblG_of 21 (by decide +kernel) rfl
theorem q_22 : Cond.selects RX11 yX11_steps yX11_steps ∈ tblG := tblG_of 22 (by decide +kernel) rfl
theorem q_23 : Cond.selects RX11 yX11_see yX11_see ∈ tblG := tblG_of 23 (by decide +kernel) rfl
theorem q_24 : Cond.selects RX11 yX11_lineHere yX11_lineHere ∈ tblG := tblG_of 24 (by decide +kernel) rfl
theorem q_25 : Cond.selects RX11 yX11_is yX11_is ∈ tblG := tblG_of 25 (by decide +kernel) rfl
theorem q_26 : Cond.selects RX11 yX11_begins yX11_begins ∈ tblG := tblG_of 26 (by decide +kernel) rfl
theorem q_27 : Cond.selects RX11 yX11_read yX11_read ∈ tblG := tblG_of 27 (by decide +kernel) rfl
theorem q_28 : Cond.selects RX11 yX11_must yX11_must ∈ tblG := tblG_of 28 (by decide +kernel) rfl
theorem q_29 : Cond.selects RX11 yX11_cameraLine yX11_cameraLine ∈ tblG := tblG_of 29 (by decide +kernel) rfl
theorem q_30 : Cond.selects RX11 yX11_newName yX11_newName ∈ tblG := tblG_of 30 (by decide +kernel) rfl
theorem q_31 : Cond.selects RX11 yX11_isName yX11_isName ∈ tblG := tblG_of 31 (by decide +kernel) rfl
theorem q_32 : Cond.selects RX11 yX11_isOwn yX11_isOwn ∈ tblG := tblG_of 32 (by decide +kernel) rfl
theorem q_33 : Cond.selects RX11 yX11_named yX11_named ∈ tblG := tblG_of 33 (by decide +kernel) rfl
theorem q_34 : Cond.selects RX11 yX11_number yX11_number ∈ tblG := tblG_of 34 (by decide +kernel) rfl
theorem q_35 : Cond.selects RX11 yX11_flashLine yX11_flashLine ∈ tblG := tblG_of 35 (by decide +kernel) rfl
theorem q_36 : Cond.selects RX11 yX11_known yX11_known ∈ tblG := tblG_of 36 (by decide +kernel) rfl
theorem q_37 : Cond.selects RX11 yX11_looksUp yX11_looksUp ∈ tblG := tblG_of 37 (by decide +kernel) rfl
theorem q_38 : Cond.selects RX11 yX11_sideLine yX11_sideLine ∈ tblG := tblG_of 38 (by decide +kernel) rfl
theorem q_39 : Cond.selects RX11 yX11_kindLine yX11_kindLine ∈ tblG := tblG_of 39 (by decide +kernel) rfl
theorem q_40 : Cond.selects RX11 yX11_maybe yX11_maybe ∈ tblG := tblG_of 40 (by decide +kernel) rfl
theorem q_41 : Cond.selects RX11 yX11_pair yX11_pair ∈ tblG := tblG_of 41 (by decide +kernel) rfl
theorem q_42 : Cond.selects RX11 yX11_takesWord yX11_takesWord ∈ tblG := tblG_of 42 (by decide +kernel) rfl
theorem q_43 : Cond.selects RX11 yX11_boardLine yX11_boardLine ∈ tblG := tblG_of 43 (by decide +kernel) rfl
theorem q_44 : Cond.selects RX11 yX11_member yX11_member ∈ tblG := tblG_of 44 (by decide +kernel) rfl
theorem q_45 : Cond.selects RX11 yX11_playLine yX11_playLine ∈ tblG := tblG_of 45 (by decide +kernel) rfl
theorem q_46 : Cond.selects RX11 yX11_readFrame yX11_readFrame ∈ tblG := tblG_of 46 (by decide +kernel) rfl
theorem q_47 : Cond.selects RX11 yX11_ruleLine yX11_ruleLine ∈ tblG := tblG_of 47 (by decide +kernel) rfl
theorem q_48 : Cond.selects RX11 yX11_takes yX11_takes ∈ tblG := tblG_of 48 (by decide +kernel) rfl
theorem q_49 : Cond.selects RX11 yX11_takesOver yX11_takesOver ∈ tblG := tblG_of 49 (by decide +kernel) rfl
theorem q_50 : Cond.selects RX11 yX11_laysClocks yX11_laysClocks ∈ tblG := tblG_of 50 (by decide +kernel) rfl
theorem q_51 : Cond.selects RX11 yX11_atMost yX11_atMost ∈ tblG := tblG_of 51 (by decide +kernel) rfl
theorem q_52 : Cond.selects RX11 yX11_closes yX11_closes ∈ tblG := tblG_of 52 (by decide +kernel) rfl
theorem q_53 : Cond.selects RX11 yX11_isSide yX11_isSide ∈ tblG := tblG_of 53 (by decide +kernel) rfl
theorem q_54 : Cond.selects RX11 yX11_pointsNow yX11_pointsNow ∈ tblG := tblG_of 54 (by decide +kernel) rfl
theorem q_55 : Cond.selects RX11 yX11_isPlay yX11_isPlay ∈ tblG := tblG_of 55 (by decide +kernel) rfl
theorem q_56 : Cond.selects RX11 yX11_verdictOf yX11_verdictOf ∈ tblG := tblG_of 56 (by decide +kernel) rfl
theorem q_57 : Cond.selects RX11 yX11_laysFrames yX11_laysFrames ∈ tblG := tblG_of 57 (by decide +kernel) rfl
theorem q_58 : Cond.selects RX11 yX11_framesOf yX11_framesOf ∈ tblG := tblG_of 58 (by decide +kernel) rfl
theorem q_59 : Cond.selects RX11 yX11_allFrames yX11_allFrames ∈ tblG := tblG_of 59 (by decide +kernel) rfl
theorem q_60 : Cond.selects RX11 yX11_byAll yX11_byAll ∈ tblG := tblG_of 60 (by decide +kernel) rfl
theorem q_61 : Cond.selects RX11 yX11_callOf yX11_callOf ∈ tblG := tblG_of 61 (by decide +kernel) rfl
theorem q_62 : Cond.selects RX11 yX11_review yX11_review ∈ tblG := tblG_of 62 (by decide +kernel) rfl
theorem q_63 : Cond.selects RX11 yX11_secondsOf yX11_secondsOf ∈ tblG := tblG_of 63 (by decide +kernel) rfl
theorem q_64 : Cond.selects RX11 yX11_keeps yX11_keeps ∈ tblG := tblG_of 64 (by decide +kernel) rfl
theorem q_65 : Cond.selects RX11 yX11_isAtOnce yX11_isAtOnce ∈ tblG := tblG_of 65 (by decide +kernel) rfl
theorem q_66 : Cond.selects RX11 yX11_reviewed yX11_reviewed ∈ tblG := tblG_of 66 (by decide +kernel) rfl
theorem q_67 : Cond.selects RX11 yX11_logs yX11_logs ∈ tblG := tblG_of 67 (by decide +kernel) rfl
theorem q_68 : Cond.selects RX11 yX11_forgets yX11_forgets ∈ tblG := tblG_of 68 (by decide +kernel) rfl
theorem q_69 : Cond.selects RX11 yX11_gains yX11_gains ∈ tblG := tblG_of 69 (by decide +kernel) rfl
theorem q_70 : Cond.selects RX11 yX11_isBoard yX11_isBoard ∈ tblG := tblG_of 70 (by decide +kernel) rfl
theorem q_71 : Cond.selects RX11 yX11_against yX11_against ∈ tblG := tblG_of 71 (by decide +kernel) rfl
theorem q_72 : Cond.selects RX11 yX11_trueCall yX11_trueCall ∈ tblG := tblG_of 72 (by decide +kernel) rfl
theorem q_73 : Cond.selects RX11 yX11_isEnough yX11_isEnough ∈ tblG := tblG_of 73 (by decide +kernel) rfl
theorem q_74 : Cond.selects RX11 yX11_timeOf yX11_timeOf ∈ tblG := tblG_of 74 (by decide +kernel) rfl
theorem q_76 : Cond.initialized RX10 ∈ tblG := tblG_of 76 (by decide +kernel) rfl
theorem q_77 : Cond.initialized RX9 ∈ tblG := tblG_of 77 (by decide +kernel) rfl
theorem q_78 : Cond.initialized RX2 ∈ tblG := tblG_of 78 (by decide +kernel) rfl
theorem q_81 : Cond.initialized RX6 ∈ tblG := tblG_of 81 (by decide +kernel) rfl
theorem q_82 : Cond.initialized RJ7 ∈ tblG := tblG_of 82 (by decide +kernel) rfl
theorem q_83 : Cond.initialized RX7 ∈ tblG := tblG_of 83 (by decide +kernel) rfl
theorem q_85 : Cond.initialized RX8 ∈ tblG := tblG_of 85 (by decide +kernel) rfl
theorem q_86 : Cond.initialized RX4 ∈ tblG := tblG_of 86 (by decide +kernel) rfl
theorem q_87 : Cond.initialized RX3 ∈ tblG := tblG_of 87 (by decide +kernel) rfl
theorem q_88 : Cond.initialized RX11 ∈ tblG := tblG_of 88 (by decide +kernel) rfl
theorem q_91 : Cond.initialized RJ0 ∈ tblG := tblG_of 91 (by decide +kernel) rfl
theorem q_92 : Cond.initialized RJ1 ∈ tblG := tblG_of 92 (by decide +kernel) rfl
theorem q_93 : Cond.initialized RJ3 ∈ tblG := tblG_of 93 (by decide +kernel) rfl
theorem q_99 : Cond.initialized RJ10 ∈ tblG := tblG_of 99 (by decide +kernel) rfl
theorem q_100 : Cond.initialized RJ6 ∈ tblG := tblG_of 100 (by decide +kernel) rfl
theorem q_121 : Cond.fieldLink RX2 11 "ReplayBooth$Bounds" "most" "[I" ∈ tblG := tblG_of 121 (by decide +kernel) rfl
theorem q_122 : Cond.fieldLink RX2 22 "ReplayBooth$Bounds" "torn" "Z" ∈ tblG := tblG_of 122 (by decide +kernel) rfl
theorem q_123 : Cond.fieldLink RX4 61 "ReplayBooth$Bounds" "torn" "Z" ∈ tblG := tblG_of 123 (by decide +kernel) rfl
theorem q_124 : Cond.fieldLink RX10 118 "ReplayBooth$Bounds" "torn" "Z" ∈ tblG := tblG_of 124 (by decide +kernel) rfl
theorem q_143 : Cond.fieldLink RX10 136 "ReplayBooth$Kind" "seconds" "I" ∈ tblG := tblG_of 143 (by decide +kernel) rfl
theorem q_144 : Cond.fieldLink RX4 133 "ReplayBooth$Kind" "seconds" "I" ∈ tblG := tblG_of 144 (by decide +kernel) rfl
theorem q_145 : Cond.fieldLink RX7 227 "ReplayBooth$Kind" "seconds" "I" ∈ tblG := tblG_of 145 (by decide +kernel) rfl
theorem q_146 : Cond.fieldLink RX9 77 "ReplayBooth$Kind" "forced" "Z" ∈ tblG := tblG_of 146 (by decide +kernel) rfl
theorem q_147 : Cond.fieldLink RX10 141 "ReplayBooth$Kind" "forced" "Z" ∈ tblG := tblG_of 147 (by decide +kernel) rfl
theorem q_148 : Cond.fieldLink RX7 238 "ReplayBooth$Kind" "forced" "Z" ∈ tblG := tblG_of 148 (by decide +kernel) rfl
theorem q_149 : Cond.fieldLink RX10 144 "ReplayBooth$Kind" "again" "Z" ∈ tblG := tblG_of 149 (by decide +kernel) rfl
theorem q_150 : Cond.fieldLink RX7 245 "ReplayBooth$Kind" "again" "Z" ∈ tblG := tblG_of 150 (by decide +kernel) rfl
theorem q_151 : Cond.fieldLink RX4 78 "ReplayBooth$Kind" "pairs" "I" ∈ tblG := tblG_of 151 (by decide +kernel) rfl
theorem q_152 : Cond.fieldLink RX10 147 "ReplayBooth$Kind" "pairs" "I" ∈ tblG := tblG_of 152 (by decide +kernel) rfl
theorem q_153 : Cond.fieldLink RX7 248 "ReplayBooth$Kind" "pairs" "I" ∈ tblG := tblG_of 153 (by decide +kernel) rfl
theorem q_155 : Cond.fieldLink RX4 83 "ReplayBooth$Kind" "first" "[I" ∈ tblG := tblG_of 155 (by decide +kernel) rfl
theorem q_156 : Cond.fieldLink RX7 267 "ReplayBooth$Kind" "first" "[I" ∈ tblG := tblG_of 156 (by decide +kernel) rfl
theorem q_158 : Cond.fieldLink RX4 86 "ReplayBooth$Kind" "second" "[I" ∈ tblG := tblG_of 158 (by decide +kernel) rfl
theorem q_159 : Cond.fieldLink RX7 270 "ReplayBooth$Kind" "second" "[I" ∈ tblG := tblG_of 159 (by decide +kernel) rfl
theorem q_178 : Cond.fieldLink RX7 280 "ReplayBooth$Board" "need" "I" ∈ tblG := tblG_of 178 (by decide +kernel) rfl
theorem q_179 : Cond.fieldLink RX10 357 "ReplayBooth$Board" "need" "I" ∈ tblG := tblG_of 179 (by decide +kernel) rfl
theorem q_180 : Cond.fieldLink RX4 145 "ReplayBooth$Board" "members" "I" ∈ tblG := tblG_of 180 (by decide +kernel) rfl
theorem q_181 : Cond.fieldLink RX7 285 "ReplayBooth$Board" "members" "I" ∈ tblG := tblG_of 181 (by decide +kernel) rfl
theorem q_183 : Cond.fieldLink RX4 150 "ReplayBooth$Board" "cameras" "[I" ∈ tblG := tblG_of 183 (by decide +kernel) rfl
theorem q_184 : Cond.fieldLink RX7 298 "ReplayBooth$Board" "cameras" "[I" ∈ tblG := tblG_of 184 (by decide +kernel) rfl
theorem q_197 : Cond.fieldLink RX9 81 "ReplayBooth$Play" "minute" "I" ∈ tblG := tblG_of 197 (by decide +kernel) rfl
theorem q_198 : Cond.fieldLink RX10 187 "ReplayBooth$Play" "minute" "I" ∈ tblG := tblG_of 198 (by decide +kernel) rfl
theorem q_199 : Cond.fieldLink RX7 307 "ReplayBooth$Play" "minute" "I" ∈ tblG := tblG_of 199 (by decide +kernel) rfl
theorem q_200 : Cond.fieldLink RX9 75 "ReplayBooth$Play" "kind" "I" ∈ tblG := tblG_of 200 (by decide +kernel) rfl
theorem q_201 : Cond.fieldLink RX4 69 "ReplayBooth$Play" "kind" "I" ∈ tblG := tblG_of 201 (by decide +kernel) rfl
theorem q_202 : Cond.fieldLink RX10 190 "ReplayBooth$Play" "kind" "I" ∈ tblG := tblG_of 202 (by decide +kernel) rfl
theorem q_203 : Cond.fieldLink RX7 313 "ReplayBooth$Play" "kind" "I" ∈ tblG := tblG_of 203 (by decide +kernel) rfl
theorem q_204 : Cond.fieldLink RX10 173 "ReplayBooth$Play" "side" "I" ∈ tblG := tblG_of 204 (by decide +kernel) rfl
theorem q_205 : Cond.fieldLink RX7 315 "ReplayBooth$Play" "side" "I" ∈ tblG := tblG_of 205 (by decide +kernel) rfl
theorem q_206 : Cond.fieldLink RX10 181 "ReplayBooth$Play" "points" "I" ∈ tblG := tblG_of 206 (by decide +kernel) rfl
theorem q_207 : Cond.fieldLink RX7 318 "ReplayBooth$Play" "points" "I" ∈ tblG := tblG_of 207 (by decide +kernel) rfl
theorem q_208 : Cond.fieldLink RX10 192 "ReplayBooth$Play" "call" "I" ∈ tblG := tblG_of 208 (by decide +kernel) rfl
theorem q_209 : Cond.fieldLink RX7 324 "ReplayBooth$Play" "call" "I" ∈ tblG := tblG_of 209 (by decide +kernel) rfl
theorem q_210 : Cond.fieldLink RX6 24 "ReplayBooth$Play" "frames" "I" ∈ tblG := tblG_of 210 (by decide +kernel) rfl
theorem q_211 : Cond.fieldLink RX4 30 "ReplayBooth$Play" "frames" "I" ∈ tblG := tblG_of 211 (by decide +kernel) rfl
theorem q_212 : Cond.fieldLink RX10 194 "ReplayBooth$Play" "frames" "I" ∈ tblG := tblG_of 212 (by decide +kernel) rfl
theorem q_213 : Cond.fieldLink RX7 337 "ReplayBooth$Play" "frames" "I" ∈ tblG := tblG_of 213 (by decide +kernel) rfl
theorem q_214 : Cond.fieldLink RX6 9 "ReplayBooth$Play" "camera" "[I" ∈ tblG := tblG_of 214 (by decide +kernel) rfl
theorem q_215 : Cond.fieldLink RX4 40 "ReplayBooth$Play" "camera" "[I" ∈ tblG := tblG_of 215 (by decide +kernel) rfl
theorem q_217 : Cond.fieldLink RX7 340 "ReplayBooth$Play" "camera" "[I" ∈ tblG := tblG_of 217 (by decide +kernel) rfl
theorem q_219 : Cond.fieldLink RX4 47 "ReplayBooth$Play" "tick" "[I" ∈ tblG := tblG_of 219 (by decide +kernel) rfl
theorem q_221 : Cond.fieldLink RX7 343 "ReplayBooth$Play" "tick" "[I" ∈ tblG := tblG_of 221 (by decide +kernel) rfl
theorem q_223 : Cond.fieldLink RX4 44 "ReplayBooth$Play" "there" "[I" ∈ tblG := tblG_of 223 (by decide +kernel) rfl
theorem q_225 : Cond.fieldLink RX7 346 "ReplayBooth$Play" "there" "[I" ∈ tblG := tblG_of 225 (by decide +kernel) rfl
theorem q_227 : Cond.fieldLink RX4 54 "ReplayBooth$Play" "notYet" "[I" ∈ tblG := tblG_of 227 (by decide +kernel) rfl
theorem q_229 : Cond.fieldLink RX7 349 "ReplayBooth$Play" "notYet" "[I" ∈ tblG := tblG_of 229 (by decide +kernel) rfl
theorem q_230 : Cond.fieldLink RX6 28 "ReplayBooth$Play" "fewestFound" "I" ∈ tblG := tblG_of 230 (by decide +kernel) rfl
theorem q_231 : Cond.fieldLink RX4 105 "ReplayBooth$Play" "fewestFound" "I" ∈ tblG := tblG_of 231 (by decide +kernel) rfl
theorem q_232 : Cond.fieldLink RX6 31 "ReplayBooth$Play" "leftOutFound" "I" ∈ tblG := tblG_of 232 (by decide +kernel) rfl
theorem q_233 : Cond.fieldLink RX4 127 "ReplayBooth$Play" "leftOutFound" "I" ∈ tblG := tblG_of 233 (by decide +kernel) rfl
theorem q_260 : Cond.instanceMethod yX9_clear ∈ tblG := tblG_of 260 (by decide +kernel) rfl
theorem q_261 : Cond.selects RX9 yX9_clear yX9_clear ∈ tblG := tblG_of 261 (by decide +kernel) rfl
theorem q_262 : Cond.code yX9_clear cX9_clear 1 none ∈ tblG := tblG_of 262 (by decide +kernel) rfl
theorem q_263 : Cond.methodLink RX9 62 yX2_clear ∈ tblG := tblG_of 263 (by decide +kernel) rfl
theorem q_264 : Cond.instanceMethod yX2_clear ∈ tblG := tblG_of 264 (by decide +kernel) rfl
theorem q_265 : Cond.selects RX2 yX2_clear yX2_clear ∈ tblG := tblG_of 265 (by decide +kernel) rfl
theorem q_266 : Cond.code yX2_clear cX2_clear 2 none ∈ tblG := tblG_of 266 (by decide +kernel) rfl
theorem q_267 : Cond.constant RX2 15 (268435456) ∈ tblG := tblG_of 267 (by decide +kernel) rfl
theorem q_268 : Cond.methodLink RX2 16 yJ7_fill_53178 ∈ tblG := tblG_of 268 (by decide +kernel) rfl
theorem q_269 : Cond.static yJ7_fill_53178 ∈ tblG := tblG_of 269 (by decide +kernel) rfl
theorem q_270 : Cond.code yJ7_fill_53178 cJ7_fill_53178 4 none ∈ tblG := tblG_of 270 (by decide +kernel) rfl
theorem q_271 : Cond.fieldLink RX9 55 "ReplayBooth$Told" "cameras" "I" ∈ tblG := tblG_of 271 (by decide +kernel) rfl
theorem q_272 : Cond.fieldLink RX10 105 "ReplayBooth$Told" "cameras" "I" ∈ tblG := tblG_of 272 (by decide +kernel) rfl
theorem q_273 : Cond.fieldLink RX4 121 "ReplayBooth$Told" "cameras" "I" ∈ tblG := tblG_of 273 (by decide +kernel) rfl
theorem q_274 : Cond.fieldLink RX7 157 "ReplayBooth$Told" "cameras" "I" ∈ tblG := tblG_of 274 (by decide +kernel) rfl
theorem q_276 : Cond.fieldLink RX10 108 "ReplayBooth$Told" "lateLeast" "[I" ∈ tblG := tblG_of 276 (by decide +kernel) rfl
theorem q_277 : Cond.fieldLink RX7 192 "ReplayBooth$Told" "lateLeast" "[I" ∈ tblG := tblG_of 277 (by decide +kernel) rfl
theorem q_279 : Cond.fieldLink RX10 111 "ReplayBooth$Told" "lateMost" "[I" ∈ tblG := tblG_of 279 (by decide +kernel) rfl
theorem q_280 : Cond.fieldLink RX7 195 "ReplayBooth$Told" "lateMost" "[I" ∈ tblG := tblG_of 280 (by decide +kernel) rfl
theorem q_281 : Cond.fieldLink RX9 59 "ReplayBooth$Told" "flashes" "I" ∈ tblG := tblG_of 281 (by decide +kernel) rfl
theorem q_282 : Cond.fieldLink RX7 160 "ReplayBooth$Told" "flashes" "I" ∈ tblG := tblG_of 282 (by decide +kernel) rfl
theorem q_283 : Cond.fieldLink RX10 398 "ReplayBooth$Told" "flashes" "I" ∈ tblG := tblG_of 283 (by decide +kernel) rfl
theorem q_284 : Cond.fieldLink RX9 21 "ReplayBooth$Told" "clocks" "LReplayBooth$Bounds;" ∈ tblG := tblG_of 284 (by decide +kernel) rfl
theorem q_285 : Cond.fieldLink RX4 21 "ReplayBooth$Told" "clocks" "LReplayBooth$Bounds;" ∈ tblG := tblG_of 285 (by decide +kernel) rfl
theorem q_286 : Cond.fieldLink RX10 114 "ReplayBooth$Told" "clocks" "LReplayBooth$Bounds;" ∈ tblG := tblG_of 286 (by decide +kernel) rfl
theorem q_287 : Cond.fieldLink RX7 198 "ReplayBooth$Told" "clocks" "LReplayBooth$Bounds;" ∈ tblG := tblG_of 287 (by decide +kernel) rfl
theorem q_288 : Cond.fieldLink RX9 63 "ReplayBooth$Told" "sides" "I" ∈ tblG := tblG_of 288 (by decide +kernel) rfl
theorem q_289 : Cond.fieldLink RX3 40 "ReplayBooth$Told" "sides" "I" ∈ tblG := tblG_of 289 (by decide +kernel) rfl
theorem q_290 : Cond.fieldLink RX10 222 "ReplayBooth$Told" "sides" "I" ∈ tblG := tblG_of 290 (by decide +kernel) rfl
theorem q_291 : Cond.fieldLink RX7 163 "ReplayBooth$Told" "sides" "I" ∈ tblG := tblG_of 291 (by decide +kernel) rfl
theorem q_293 : Cond.fieldLink RX3 45 "ReplayBooth$Told" "challenges" "[I" ∈ tblG := tblG_of 293 (by decide +kernel) rfl
theorem q_294 : Cond.fieldLink RX10 154 "ReplayBooth$Told" "challenges" "[I" ∈ tblG := tblG_of 294 (by decide +kernel) rfl
theorem q_295 : Cond.fieldLink RX7 217 "ReplayBooth$Told" "challenges" "[I" ∈ tblG := tblG_of 295 (by decide +kernel) rfl
theorem q_296 : Cond.fieldLink RX9 66 "ReplayBooth$Told" "kinds" "I" ∈ tblG := tblG_of 296 (by decide +kernel) rfl
theorem q_297 : Cond.fieldLink RX10 129 "ReplayBooth$Told" "kinds" "I" ∈ tblG := tblG_of 297 (by decide +kernel) rfl
theorem q_298 : Cond.fieldLink RX7 166 "ReplayBooth$Told" "kinds" "I" ∈ tblG := tblG_of 298 (by decide +kernel) rfl
theorem q_299 : Cond.fieldLink RX9 30 "ReplayBooth$Told" "kind" "[LReplayBooth$Kind;" ∈ tblG := tblG_of 299 (by decide +kernel) rfl
theorem q_300 : Cond.fieldLink RX4 65 "ReplayBooth$Told" "kind" "[LReplayBooth$Kind;" ∈ tblG := tblG_of 300 (by decide +kernel) rfl
theorem q_301 : Cond.fieldLink RX10 132 "ReplayBooth$Told" "kind" "[LReplayBooth$Kind;" ∈ tblG := tblG_of 301 (by decide +kernel) rfl
theorem q_302 : Cond.fieldLink RX7 220 "ReplayBooth$Told" "kind" "[LReplayBooth$Kind;" ∈ tblG := tblG_of 302 (by decide +kernel) rfl
theorem q_303 : Cond.fieldLink RX9 69 "ReplayBooth$Told" "boards" "I" ∈ tblG := tblG_of 303 (by decide +kernel) rfl
theorem q_304 : Cond.fieldLink RX10 225 "ReplayBooth$Told" "boards" "I" ∈ tblG := tblG_of 304 (by decide +kernel) rfl
theorem q_305 : Cond.fieldLink RX7 169 "ReplayBooth$Told" "boards" "I" ∈ tblG := tblG_of 305 (by decide +kernel) rfl
theorem q_307 : Cond.fieldLink RX7 273 "ReplayBooth$Told" "board" "[LReplayBooth$Board;" ∈ tblG := tblG_of 307 (by decide +kernel) rfl
theorem q_308 : Cond.fieldLink RX10 344 "ReplayBooth$Told" "board" "[LReplayBooth$Board;" ∈ tblG := tblG_of 308 (by decide +kernel) rfl
theorem q_309 : Cond.fieldLink RX9 72 "ReplayBooth$Told" "plays" "I" ∈ tblG := tblG_of 309 (by decide +kernel) rfl
theorem q_310 : Cond.fieldLink RX10 102 "ReplayBooth$Told" "plays" "I" ∈ tblG := tblG_of 310 (by decide +kernel) rfl
theorem q_311 : Cond.fieldLink RX7 172 "ReplayBooth$Told" "plays" "I" ∈ tblG := tblG_of 311 (by decide +kernel) rfl
theorem q_312 : Cond.fieldLink RX9 42 "ReplayBooth$Told" "play" "[LReplayBooth$Play;" ∈ tblG := tblG_of 312 (by decide +kernel) rfl
theorem q_313 : Cond.fieldLink RX10 169 "ReplayBooth$Told" "play" "[LReplayBooth$Play;" ∈ tblG := tblG_of 313 (by decide +kernel) rfl
theorem q_314 : Cond.fieldLink RX7 300 "ReplayBooth$Told" "play" "[LReplayBooth$Play;" ∈ tblG := tblG_of 314 (by decide +kernel) rfl
theorem q_315 : Cond.fieldLink RX9 46 "ReplayBooth$Told" "setting" "[I" ∈ tblG := tblG_of 315 (by decide +kernel) rfl
theorem q_316 : Cond.fieldLink RX4 136 "ReplayBooth$Told" "setting" "[I" ∈ tblG := tblG_of 316 (by decide +kernel) rfl
theorem q_317 : Cond.fieldLink RX7 182 "ReplayBooth$Told" "setting" "[I" ∈ tblG := tblG_of 317 (by decide +kernel) rfl
theorem q_318 : Cond.fieldLink RX10 302 "ReplayBooth$Told" "setting" "[I" ∈ tblG := tblG_of 318 (by decide +kernel) rfl
theorem q_354 : Cond.fieldLink RX7 9 "ReplayBooth$Token" "END" "LReplayBooth$Token;" ∈ tblG := tblG_of 354 (by decide +kernel) rfl
theorem q_358 : Cond.fieldLink RX7 31 "ReplayBooth$Reader" "tape" "[B" ∈ tblG := tblG_of 358 (by decide +kernel) rfl
theorem q_359 : Cond.fieldLink RX7 35 "ReplayBooth$Reader" "told" "LReplayBooth$Told;" ∈ tblG := tblG_of 359 (by decide +kernel) rfl
theorem q_360 : Cond.fieldLink RX7 50 "ReplayBooth$Reader" "end" "I" ∈ tblG := tblG_of 360 (by decide +kernel) rfl
theorem q_361 : Cond.fieldLink RX7 54 "ReplayBooth$Reader" "at" "I" ∈ tblG := tblG_of 361 (by decide +kernel) rfl
theorem q_362 : Cond.fieldLink RX7 15 "ReplayBooth$Reader" "token" "LReplayBooth$Token;" ∈ tblG := tblG_of 362 (by decide +kernel) rfl
theorem q_363 : Cond.fieldLink RX10 73 "ReplayBooth$Reader" "token" "LReplayBooth$Token;" ∈ tblG := tblG_of 363 (by decide +kernel) rfl
theorem q_364 : Cond.fieldLink RX7 66 "ReplayBooth$Reader" "start" "I" ∈ tblG := tblG_of 364 (by decide +kernel) rfl
theorem q_365 : Cond.fieldLink RX7 69 "ReplayBooth$Reader" "value" "I" ∈ tblG := tblG_of 365 (by decide +kernel) rfl
theorem q_366 : Cond.fieldLink RX7 107 "ReplayBooth$Reader" "number" "I" ∈ tblG := tblG_of 366 (by decide +kernel) rfl
theorem q_367 : Cond.fieldLink RX10 93 "ReplayBooth$Reader" "fault" "I" ∈ tblG := tblG_of 367 (by decide +kernel) rfl
theorem q_368 : Cond.fieldLink RX7 101 "ReplayBooth$Reader" "fault" "I" ∈ tblG := tblG_of 368 (by decide +kernel) rfl
theorem q_369 : Cond.fieldLink RX7 57 "ReplayBooth$Reader" "names" "I" ∈ tblG := tblG_of 369 (by decide +kernel) rfl
theorem q_370 : Cond.fieldLink RX7 20 "ReplayBooth$Reader" "nameCode" "[I" ∈ tblG := tblG_of 370 (by decide +kernel) rfl
theorem q_371 : Cond.fieldLink RX7 24 "ReplayBooth$Reader" "nameSort" "[LReplayBooth$Token;" ∈ tblG := tblG_of 371 (by decide +kernel) rfl
theorem q_372 : Cond.fieldLink RX7 28 "ReplayBooth$Reader" "nameNumber" "[I" ∈ tblG := tblG_of 372 (by decide +kernel) rfl
theorem q_373 : Cond.fieldLink RX7 60 "ReplayBooth$Reader" "settingsTold" "I" ∈ tblG := tblG_of 373 (by decide +kernel) rfl
theorem q_411 : Cond.fieldLink RX4 12 "ReplayBooth$Judge" "sure" "LReplayBooth$Bounds;" ∈ tblG := tblG_of 411 (by decide +kernel) rfl
theorem q_412 : Cond.fieldLink RX4 18 "ReplayBooth$Judge" "trial" "LReplayBooth$Bounds;" ∈ tblG := tblG_of 412 (by decide +kernel) rfl
theorem q_413 : Cond.fieldLink RX4 142 "ReplayBooth$Judge" "reviewSeconds" "I" ∈ tblG := tblG_of 413 (by decide +kernel) rfl
theorem q_414 : Cond.fieldLink RX10 273 "ReplayBooth$Judge" "reviewSeconds" "I" ∈ tblG := tblG_of 414 (by decide +kernel) rfl
theorem q_415 : Cond.fieldLink RX4 139 "ReplayBooth$Judge" "reviewFrames" "I" ∈ tblG := tblG_of 415 (by decide +kernel) rfl
theorem q_416 : Cond.fieldLink RX10 276 "ReplayBooth$Judge" "reviewFrames" "I" ∈ tblG := tblG_of 416 (by decide +kernel) rfl
theorem q_432 : Cond.fieldLink RX3 27 "ReplayBooth$Day" "happened" "I" ∈ tblG := tblG_of 432 (by decide +kernel) rfl
theorem q_433 : Cond.fieldLink RX10 166 "ReplayBooth$Day" "happened" "I" ∈ tblG := tblG_of 433 (by decide +kernel) rfl
theorem q_434 : Cond.fieldLink RX3 31 "ReplayBooth$Day" "yes" "I" ∈ tblG := tblG_of 434 (by decide +kernel) rfl
theorem q_435 : Cond.fieldLink RX3 34 "ReplayBooth$Day" "reviewed" "I" ∈ tblG := tblG_of 435 (by decide +kernel) rfl
theorem q_436 : Cond.fieldLink RX10 305 "ReplayBooth$Day" "reviewed" "I" ∈ tblG := tblG_of 436 (by decide +kernel) rfl
theorem q_437 : Cond.fieldLink RX3 37 "ReplayBooth$Day" "boarded" "I" ∈ tblG := tblG_of 437 (by decide +kernel) rfl
theorem q_438 : Cond.fieldLink RX10 338 "ReplayBooth$Day" "boarded" "I" ∈ tblG := tblG_of 438 (by decide +kernel) rfl
theorem q_439 : Cond.fieldLink RX3 9 "ReplayBooth$Day" "goneBy" "[I" ∈ tblG := tblG_of 439 (by decide +kernel) rfl
theorem q_440 : Cond.fieldLink RX10 299 "ReplayBooth$Day" "goneBy" "[I" ∈ tblG := tblG_of 440 (by decide +kernel) rfl
theorem q_441 : Cond.fieldLink RX3 15 "ReplayBooth$Day" "left" "[I" ∈ tblG := tblG_of 441 (by decide +kernel) rfl
theorem q_442 : Cond.fieldLink RX10 157 "ReplayBooth$Day" "left" "[I" ∈ tblG := tblG_of 442 (by decide +kernel) rfl
theorem q_443 : Cond.fieldLink RX3 18 "ReplayBooth$Day" "won" "[I" ∈ tblG := tblG_of 443 (by decide +kernel) rfl
theorem q_444 : Cond.fieldLink RX10 160 "ReplayBooth$Day" "won" "[I" ∈ tblG := tblG_of 444 (by decide +kernel) rfl
theorem q_445 : Cond.fieldLink RX3 21 "ReplayBooth$Day" "seconds" "[I" ∈ tblG := tblG_of 445 (by decide +kernel) rfl
theorem q_446 : Cond.fieldLink RX10 308 "ReplayBooth$Day" "seconds" "[I" ∈ tblG := tblG_of 446 (by decide +kernel) rfl
theorem q_447 : Cond.fieldLink RX3 24 "ReplayBooth$Day" "log" "[I" ∈ tblG := tblG_of 447 (by decide +kernel) rfl
theorem q_448 : Cond.fieldLink RX10 387 "ReplayBooth$Day" "log" "[I" ∈ tblG := tblG_of 448 (by decide +kernel) rfl
theorem q_449 : Cond.fieldLink RX3 54 "ReplayBooth$Day" "logRows" "I" ∈ tblG := tblG_of 449 (by decide +kernel) rfl
theorem q_450 : Cond.fieldLink RX10 382 "ReplayBooth$Day" "logRows" "I" ∈ tblG := tblG_of 450 (by decide +kernel) rfl
theorem q_473 : Cond.fieldLink RX10 9 "ReplayBooth" "tape" "[B" ∈ tblG := tblG_of 473 (by decide +kernel) rfl
theorem q_474 : Cond.fieldLink RX10 61 "ReplayBooth" "taped" "I" ∈ tblG := tblG_of 474 (by decide +kernel) rfl
theorem q_475 : Cond.fieldLink RX10 16 "ReplayBooth" "told" "LReplayBooth$Told;" ∈ tblG := tblG_of 475 (by decide +kernel) rfl
theorem q_476 : Cond.fieldLink RX10 20 "ReplayBooth" "spare" "LReplayBooth$Told;" ∈ tblG := tblG_of 476 (by decide +kernel) rfl
theorem q_477 : Cond.fieldLink RX10 28 "ReplayBooth" "reader" "LReplayBooth$Reader;" ∈ tblG := tblG_of 477 (by decide +kernel) rfl
theorem q_478 : Cond.fieldLink RX10 35 "ReplayBooth" "judge" "LReplayBooth$Judge;" ∈ tblG := tblG_of 478 (by decide +kernel) rfl
theorem q_479 : Cond.fieldLink RX10 42 "ReplayBooth" "day" "LReplayBooth$Day;" ∈ tblG := tblG_of 479 (by decide +kernel) rfl
theorem q_480 : Cond.fieldLink RX10 46 "ReplayBooth" "ahead" "[LReplayBooth$Day;" ∈ tblG := tblG_of 480 (by decide +kernel) rfl
theorem q_481 : Cond.fieldLink RX10 320 "ReplayBooth" "aheadNext" "I" ∈ tblG := tblG_of 481 (by decide +kernel) rfl
theorem q_482 : Cond.fieldLink RX10 99 "ReplayBooth" "acts" "I" ∈ tblG := tblG_of 482 (by decide +kernel) rfl
theorem q_483 : Cond.fieldLink RX10 50 "ReplayBooth" "kept" "[LReplayBooth$Day;" ∈ tblG := tblG_of 483 (by decide +kernel) rfl
theorem q_484 : Cond.fieldLink RX10 53 "ReplayBooth" "isKept" "[Z" ∈ tblG := tblG_of 484 (by decide +kernel) rfl
theorem q_485 : Cond.fieldLink RX10 57 "ReplayBooth" "row" "[I" ∈ tblG := tblG_of 485 (by decide +kernel) rfl
theorem q_486 : Cond.fieldLink RX10 393 "ReplayBooth" "rows" "I" ∈ tblG := tblG_of 486 (by decide +kernel) rfl
theorem q_521 : Cond.methodLink RX10 65 yX10_tapeNumber ∈ tblG := tblG_of 521 (by decide +kernel) rfl
theorem q_523 : Cond.instanceMethod yX10_tapeNumber ∈ tblG := tblG_of 523 (by decide +kernel) rfl
theorem q_524 : Cond.code yX10_tapeNumber cX10_tapeNumber 3 none ∈ tblG := tblG_of 524 (by decide +kernel) rfl
theorem q_529 : Cond.methodLink RX10 69 yX7_begin ∈ tblG := tblG_of 529 (by decide +kernel) rfl
theorem q_530 : Cond.instanceMethod yX7_begin ∈ tblG := tblG_of 530 (by decide +kernel) rfl
theorem q_531 : Cond.selects RX7 yX7_begin yX7_begin ∈ tblG := tblG_of 531 (by decide +kernel) rfl
theorem q_532 : Cond.code yX7_begin cX7_begin 3 none ∈ tblG := tblG_of 532 (by decide +kernel) rfl
theorem q_533 : Cond.methodLink RX7 39 yX9_clear ∈ tblG := tblG_of 533 (by decide +kernel) rfl
theorem q_534 : Cond.methodLink RX7 44 yJ9_min_7cf53 ∈ tblG := tblG_of 534 (by decide +kernel) rfl
theorem q_537 : Cond.methodLink RX7 63 yX7_advance ∈ tblG := tblG_of 537 (by decide +kernel) rfl
theorem q_538 : Cond.instanceMethod yX7_advance ∈ tblG := tblG_of 538 (by decide +kernel) rfl
theorem q_539 : Cond.selects RX7 yX7_advance yX7_advance ∈ tblG := tblG_of 539 (by decide +kernel) rfl
theorem q_540 : Cond.code yX7_advance cX7_advance 1 none ∈ tblG := tblG_of 540 (by decide +kernel) rfl
theorem q_541 : Cond.methodLink RX7 72 yX7_isDigit ∈ tblG := tblG_of 541 (by decide +kernel) rfl
theorem q_542 : Cond.static yX7_isDigit ∈ tblG := tblG_of 542 (by decide +kernel) rfl
theorem q_543 : Cond.code yX7_isDigit cX7_isDigit 1 (some .boolean) ∈ tblG := tblG_of 543 (by decide +kernel) rfl
theorem q_544 : Cond.methodLink RX7 76 yX7_scanNumber ∈ tblG := tblG_of 544 (by decide +kernel) rfl
theorem q_545 : Cond.instanceMethod yX7_scanNumber ∈ tblG := tblG_of 545 (by decide +kernel) rfl
theorem q_546 : Cond.selects RX7 yX7_scanNumber yX7_scanNumber ∈ tblG := tblG_of 546 (by decide +kernel) rfl
theorem q_547 : Cond.code yX7_scanNumber cX7_scanNumber 1 none ∈ tblG := tblG_of 547 (by decide +kernel) rfl
theorem q_548 : Cond.fieldLink RX7 89 "ReplayBooth$Token" "NUMBER" "LReplayBooth$Token;" ∈ tblG := tblG_of 548 (by decide +kernel) rfl
theorem q_550 : Cond.fieldLink RX7 92 "ReplayBooth$Token" "BAD" "LReplayBooth$Token;" ∈ tblG := tblG_of 550 (by decide +kernel) rfl
theorem q_552 : Cond.methodLink RX7 79 yX7_isLetter ∈ tblG := tblG_of 552 (by decide +kernel) rfl
theorem q_553 : Cond.static yX7_isLetter ∈ tblG := tblG_of 553 (by decide +kernel) rfl
theorem q_554 : Cond.code yX7_isLetter cX7_isLetter 1 (some .boolean) ∈ tblG := tblG_of 554 (by decide +kernel) rfl
theorem q_555 : Cond.methodLink RX7 82 yX7_scanWord ∈ tblG := tblG_of 555 (by decide +kernel) rfl
theorem q_556 : Cond.instanceMethod yX7_scanWord ∈ tblG := tblG_of 556 (by decide +kernel) rfl
theorem q_557 : Cond.selects RX7 yX7_scanWord yX7_scanWord ∈ tblG := tblG_of 557 (by decide +kernel) rfl
theorem q_558 : Cond.code yX7_scanWord cX7_scanWord 1 none ∈ tblG := tblG_of 558 (by decide +kernel) rfl
theorem q_559 : Cond.methodLink RX7 95 yX8_withLetter ∈ tblG := tblG_of 559 (by decide +kernel) rfl
theorem q_560 : Cond.static yX8_withLetter ∈ tblG := tblG_of 560 (by decide +kernel) rfl
theorem q_561 : Cond.code yX8_withLetter cX8_withLetter 2 (some .int) ∈ tblG := tblG_of 561 (by decide +kernel) rfl
theorem q_562 : Cond.methodLink RX7 98 yX8_ofWord ∈ tblG := tblG_of 562 (by decide +kernel) rfl
theorem q_563 : Cond.static yX8_ofWord ∈ tblG := tblG_of 563 (by decide +kernel) rfl
theorem q_564 : Cond.code yX8_ofWord cX8_ofWord 2 (some (.object "ReplayBooth$Token")) ∈ tblG := tblG_of 564 (by decide +kernel) rfl
theorem q_567 : Cond.fieldLink RX8 10 "ReplayBooth$Token" "NAME" "LReplayBooth$Token;" ∈ tblG := tblG_of 567 (by decide +kernel) rfl
theorem q_569 : Cond.methodLink RX7 85 yX8_ofSign ∈ tblG := tblG_of 569 (by decide +kernel) rfl
theorem q_570 : Cond.static yX8_ofSign ∈ tblG := tblG_of 570 (by decide +kernel) rfl
theorem q_571 : Cond.code yX8_ofSign cX8_ofSign 1 (some (.object "ReplayBooth$Token")) ∈ tblG := tblG_of 571 (by decide +kernel) rfl
theorem q_572 : Cond.fieldLink RX8 16 "ReplayBooth$Token" "LINE_END" "LReplayBooth$Token;" ∈ tblG := tblG_of 572 (by decide +kernel) rfl
theorem q_574 : Cond.fieldLink RX8 19 "ReplayBooth$Token" "OPENING" "LReplayBooth$Token;" ∈ tblG := tblG_of 574 (by decide +kernel) rfl
theorem q_576 : Cond.fieldLink RX8 22 "ReplayBooth$Token" "CLOSING" "LReplayBooth$Token;" ∈ tblG := tblG_of 576 (by decide +kernel) rfl
theorem q_578 : Cond.fieldLink RX8 25 "ReplayBooth$Token" "THERE" "LReplayBooth$Token;" ∈ tblG := tblG_of 578 (by decide +kernel) rfl
theorem q_580 : Cond.fieldLink RX8 28 "ReplayBooth$Token" "NOT_YET" "LReplayBooth$Token;" ∈ tblG := tblG_of 580 (by decide +kernel) rfl
theorem q_582 : Cond.fieldLink RX8 7 "ReplayBooth$Token" "BAD" "LReplayBooth$Token;" ∈ tblG := tblG_of 582 (by decide +kernel) rfl
theorem q_583 : Cond.fieldLink RX10 77 "ReplayBooth$Token" "END" "LReplayBooth$Token;" ∈ tblG := tblG_of 583 (by decide +kernel) rfl
theorem q_584 : Cond.methodLink RX10 82 yX7_tellLine ∈ tblG := tblG_of 584 (by decide +kernel) rfl
theorem q_585 : Cond.instanceMethod yX7_tellLine ∈ tblG := tblG_of 585 (by decide +kernel) rfl
theorem q_586 : Cond.selects RX7 yX7_tellLine yX7_tellLine ∈ tblG := tblG_of 586 (by decide +kernel) rfl
theorem q_587 : Cond.code yX7_tellLine cX7_tellLine 2 (some .boolean) ∈ tblG := tblG_of 587 (by decide +kernel) rfl
theorem q_588 : Cond.methodLink RX7 117 yX7_startLine ∈ tblG := tblG_of 588 (by decide +kernel) rfl
theorem q_589 : Cond.instanceMethod yX7_startLine ∈ tblG := tblG_of 589 (by decide +kernel) rfl
theorem q_590 : Cond.selects RX7 yX7_startLine yX7_startLine ∈ tblG := tblG_of 590 (by decide +kernel) rfl
theorem q_591 : Cond.code yX7_startLine cX7_startLine 3 (some .boolean) ∈ tblG := tblG_of 591 (by decide +kernel) rfl
theorem q_592 : Cond.methodLink RX7 153 yX7_roomFor ∈ tblG := tblG_of 592 (by decide +kernel) rfl
theorem q_593 : Cond.instanceMethod yX7_roomFor ∈ tblG := tblG_of 593 (by decide +kernel) rfl
theorem q_594 : Cond.selects RX7 yX7_roomFor yX7_roomFor ∈ tblG := tblG_of 594 (by decide +kernel) rfl
theorem q_595 : Cond.code yX7_roomFor cX7_roomFor 2 (some .int) ∈ tblG := tblG_of 595 (by decide +kernel) rfl
theorem q_596 : Cond.fieldLink RX7 121 "ReplayBooth$1" "$SwitchMap$ReplayBooth$Token" "[I" ∈ tblG := tblG_of 596 (by decide +kernel) rfl
theorem q_604 : Cond.methodLink RX7 175 yX7_roomForSetting ∈ tblG := tblG_of 604 (by decide +kernel) rfl
theorem q_605 : Cond.instanceMethod yX7_roomForSetting ∈ tblG := tblG_of 605 (by decide +kernel) rfl
theorem q_606 : Cond.selects RX7 yX7_roomForSetting yX7_roomForSetting ∈ tblG := tblG_of 606 (by decide +kernel) rfl
theorem q_607 : Cond.code yX7_roomForSetting cX7_roomForSetting 2 (some .int) ∈ tblG := tblG_of 607 (by decide +kernel) rfl
theorem q_608 : Cond.methodLink RX7 104 yX7_fail ∈ tblG := tblG_of 608 (by decide +kernel) rfl
theorem q_609 : Cond.instanceMethod yX7_fail ∈ tblG := tblG_of 609 (by decide +kernel) rfl
theorem q_610 : Cond.selects RX7 yX7_fail yX7_fail ∈ tblG := tblG_of 610 (by decide +kernel) rfl
theorem q_611 : Cond.code yX7_fail cX7_fail 2 (some .boolean) ∈ tblG := tblG_of 611 (by decide +kernel) rfl
theorem q_612 : Cond.methodLink RX7 130 yX7_tellCamera ∈ tblG := tblG_of 612 (by decide +kernel) rfl
theorem q_613 : Cond.instanceMethod yX7_tellCamera ∈ tblG := tblG_of 613 (by decide +kernel) rfl
theorem q_614 : Cond.selects RX7 yX7_tellCamera yX7_tellCamera ∈ tblG := tblG_of 614 (by decide +kernel) rfl
theorem q_615 : Cond.code yX7_tellCamera cX7_tellCamera 2 (some .boolean) ∈ tblG := tblG_of 615 (by decide +kernel) rfl
theorem q_616 : Cond.fieldLink RX7 185 "ReplayBooth$Token" "CAMERA" "LReplayBooth$Token;" ∈ tblG := tblG_of 616 (by decide +kernel) rfl
theorem q_618 : Cond.methodLink RX7 188 yX7_giveName ∈ tblG := tblG_of 618 (by decide +kernel) rfl
theorem q_619 : Cond.instanceMethod yX7_giveName ∈ tblG := tblG_of 619 (by decide +kernel) rfl
theorem q_620 : Cond.selects RX7 yX7_giveName yX7_giveName ∈ tblG := tblG_of 620 (by decide +kernel) rfl
theorem q_621 : Cond.code yX7_giveName cX7_giveName 4 (some .boolean) ∈ tblG := tblG_of 621 (by decide +kernel) rfl
theorem q_622 : Cond.fieldLink RX7 110 "ReplayBooth$Token" "NAME" "LReplayBooth$Token;" ∈ tblG := tblG_of 622 (by decide +kernel) rfl
theorem q_623 : Cond.methodLink RX7 179 yX7_takeNumber ∈ tblG := tblG_of 623 (by decide +kernel) rfl
theorem q_624 : Cond.instanceMethod yX7_takeNumber ∈ tblG := tblG_of 624 (by decide +kernel) rfl
theorem q_625 : Cond.selects RX7 yX7_takeNumber yX7_takeNumber ∈ tblG := tblG_of 625 (by decide +kernel) rfl
theorem q_626 : Cond.code yX7_takeNumber cX7_takeNumber 3 (some .boolean) ∈ tblG := tblG_of 626 (by decide +kernel) rfl
theorem q_627 : Cond.methodLink RX7 202 yX2_tellLate ∈ tblG := tblG_of 627 (by decide +kernel) rfl
theorem q_628 : Cond.instanceMethod yX2_tellLate ∈ tblG := tblG_of 628 (by decide +kernel) rfl
theorem q_629 : Cond.selects RX2 yX2_tellLate yX2_tellLate ∈ tblG := tblG_of 629 (by decide +kernel) rfl
theorem q_630 : Cond.code yX2_tellLate cX2_tellLate 4 none ∈ tblG := tblG_of 630 (by decide +kernel) rfl
theorem q_631 : Cond.methodLink RX2 32 yX2_tell ∈ tblG := tblG_of 631 (by decide +kernel) rfl
theorem q_632 : Cond.instanceMethod yX2_tell ∈ tblG := tblG_of 632 (by decide +kernel) rfl
theorem q_633 : Cond.selects RX2 yX2_tell yX2_tell ∈ tblG := tblG_of 633 (by decide +kernel) rfl
theorem q_634 : Cond.code yX2_tell cX2_tell 9 none ∈ tblG := tblG_of 634 (by decide +kernel) rfl
theorem q_635 : Cond.methodLink RX7 134 yX7_tellFlash ∈ tblG := tblG_of 635 (by decide +kernel) rfl
theorem q_636 : Cond.instanceMethod yX7_tellFlash ∈ tblG := tblG_of 636 (by decide +kernel) rfl
theorem q_637 : Cond.selects RX7 yX7_tellFlash yX7_tellFlash ∈ tblG := tblG_of 637 (by decide +kernel) rfl
theorem q_638 : Cond.code yX7_tellFlash cX7_tellFlash 4 (some .boolean) ∈ tblG := tblG_of 638 (by decide +kernel) rfl
theorem q_639 : Cond.methodLink RX7 208 yX7_takeName ∈ tblG := tblG_of 639 (by decide +kernel) rfl
theorem q_640 : Cond.instanceMethod yX7_takeName ∈ tblG := tblG_of 640 (by decide +kernel) rfl
theorem q_641 : Cond.selects RX7 yX7_takeName yX7_takeName ∈ tblG := tblG_of 641 (by decide +kernel) rfl
theorem q_642 : Cond.code yX7_takeName cX7_takeName 4 (some .int) ∈ tblG := tblG_of 642 (by decide +kernel) rfl
theorem q_643 : Cond.methodLink RX7 113 yX7_findName ∈ tblG := tblG_of 643 (by decide +kernel) rfl
theorem q_644 : Cond.instanceMethod yX7_findName ∈ tblG := tblG_of 644 (by decide +kernel) rfl
theorem q_645 : Cond.selects RX7 yX7_findName yX7_findName ∈ tblG := tblG_of 645 (by decide +kernel) rfl
theorem q_646 : Cond.code yX7_findName cX7_findName 4 (some .int) ∈ tblG := tblG_of 646 (by decide +kernel) rfl
theorem q_647 : Cond.methodLink RX7 211 yX2_tellFlash ∈ tblG := tblG_of 647 (by decide +kernel) rfl
theorem q_648 : Cond.instanceMethod yX2_tellFlash ∈ tblG := tblG_of 648 (by decide +kernel) rfl
theorem q_649 : Cond.selects RX2 yX2_tellFlash yX2_tellFlash ∈ tblG := tblG_of 649 (by decide +kernel) rfl
theorem q_650 : Cond.code yX2_tellFlash cX2_tellFlash 5 none ∈ tblG := tblG_of 650 (by decide +kernel) rfl
theorem q_651 : Cond.methodLink RX7 137 yX7_tellSide ∈ tblG := tblG_of 651 (by decide +kernel) rfl
theorem q_652 : Cond.instanceMethod yX7_tellSide ∈ tblG := tblG_of 652 (by decide +kernel) rfl
theorem q_653 : Cond.selects RX7 yX7_tellSide yX7_tellSide ∈ tblG := tblG_of 653 (by decide +kernel) rfl
theorem q_654 : Cond.code yX7_tellSide cX7_tellSide 1 (some .boolean) ∈ tblG := tblG_of 654 (by decide +kernel) rfl
theorem q_655 : Cond.fieldLink RX7 214 "ReplayBooth$Token" "SIDE" "LReplayBooth$Token;" ∈ tblG := tblG_of 655 (by decide +kernel) rfl
theorem q_657 : Cond.methodLink RX7 140 yX7_tellKind ∈ tblG := tblG_of 657 (by decide +kernel) rfl
theorem q_658 : Cond.instanceMethod yX7_tellKind ∈ tblG := tblG_of 658 (by decide +kernel) rfl
theorem q_659 : Cond.selects RX7 yX7_tellKind yX7_tellKind ∈ tblG := tblG_of 659 (by decide +kernel) rfl
theorem q_660 : Cond.code yX7_tellKind cX7_tellKind 3 (some .boolean) ∈ tblG := tblG_of 660 (by decide +kernel) rfl
theorem q_661 : Cond.fieldLink RX7 224 "ReplayBooth$Token" "KIND" "LReplayBooth$Token;" ∈ tblG := tblG_of 661 (by decide +kernel) rfl
theorem q_663 : Cond.fieldLink RX7 232 "ReplayBooth$Token" "FORCED" "LReplayBooth$Token;" ∈ tblG := tblG_of 663 (by decide +kernel) rfl
theorem q_665 : Cond.methodLink RX7 235 yX7_skip ∈ tblG := tblG_of 665 (by decide +kernel) rfl
theorem q_666 : Cond.instanceMethod yX7_skip ∈ tblG := tblG_of 666 (by decide +kernel) rfl
theorem q_667 : Cond.selects RX7 yX7_skip yX7_skip ∈ tblG := tblG_of 667 (by decide +kernel) rfl
theorem q_668 : Cond.code yX7_skip cX7_skip 3 (some .boolean) ∈ tblG := tblG_of 668 (by decide +kernel) rfl
theorem q_669 : Cond.fieldLink RX7 242 "ReplayBooth$Token" "AGAIN" "LReplayBooth$Token;" ∈ tblG := tblG_of 669 (by decide +kernel) rfl
theorem q_671 : Cond.methodLink RX7 251 yX7_tellPair ∈ tblG := tblG_of 671 (by decide +kernel) rfl
theorem q_672 : Cond.instanceMethod yX7_tellPair ∈ tblG := tblG_of 672 (by decide +kernel) rfl
theorem q_673 : Cond.selects RX7 yX7_tellPair yX7_tellPair ∈ tblG := tblG_of 673 (by decide +kernel) rfl
theorem q_674 : Cond.code yX7_tellPair cX7_tellPair 3 (some .boolean) ∈ tblG := tblG_of 674 (by decide +kernel) rfl
theorem q_675 : Cond.methodLink RX7 258 yX7_takeMark ∈ tblG := tblG_of 675 (by decide +kernel) rfl
theorem q_676 : Cond.instanceMethod yX7_takeMark ∈ tblG := tblG_of 676 (by decide +kernel) rfl
theorem q_677 : Cond.selects RX7 yX7_takeMark yX7_takeMark ∈ tblG := tblG_of 677 (by decide +kernel) rfl
theorem q_678 : Cond.code yX7_takeMark cX7_takeMark 2 (some .boolean) ∈ tblG := tblG_of 678 (by decide +kernel) rfl
theorem q_679 : Cond.fieldLink RX7 261 "ReplayBooth$Token" "BEFORE" "LReplayBooth$Token;" ∈ tblG := tblG_of 679 (by decide +kernel) rfl
theorem q_681 : Cond.methodLink RX7 264 yX7_take ∈ tblG := tblG_of 681 (by decide +kernel) rfl
theorem q_682 : Cond.instanceMethod yX7_take ∈ tblG := tblG_of 682 (by decide +kernel) rfl
theorem q_683 : Cond.selects RX7 yX7_take yX7_take ∈ tblG := tblG_of 683 (by decide +kernel) rfl
theorem q_684 : Cond.code yX7_take cX7_take 2 (some .boolean) ∈ tblG := tblG_of 684 (by decide +kernel) rfl
theorem q_685 : Cond.fieldLink RX7 255 "ReplayBooth$Token" "AND" "LReplayBooth$Token;" ∈ tblG := tblG_of 685 (by decide +kernel) rfl
theorem q_687 : Cond.methodLink RX7 143 yX7_tellBoard ∈ tblG := tblG_of 687 (by decide +kernel) rfl
theorem q_688 : Cond.instanceMethod yX7_tellBoard ∈ tblG := tblG_of 688 (by decide +kernel) rfl
theorem q_689 : Cond.selects RX7 yX7_tellBoard yX7_tellBoard ∈ tblG := tblG_of 689 (by decide +kernel) rfl
theorem q_690 : Cond.code yX7_tellBoard cX7_tellBoard 3 (some .boolean) ∈ tblG := tblG_of 690 (by decide +kernel) rfl
theorem q_691 : Cond.fieldLink RX7 277 "ReplayBooth$Token" "BOARD" "LReplayBooth$Token;" ∈ tblG := tblG_of 691 (by decide +kernel) rfl
theorem q_693 : Cond.fieldLink RX7 288 "ReplayBooth$Token" "OPENING" "LReplayBooth$Token;" ∈ tblG := tblG_of 693 (by decide +kernel) rfl
theorem q_694 : Cond.methodLink RX7 291 yX7_tellMember ∈ tblG := tblG_of 694 (by decide +kernel) rfl
theorem q_695 : Cond.instanceMethod yX7_tellMember ∈ tblG := tblG_of 695 (by decide +kernel) rfl
theorem q_696 : Cond.selects RX7 yX7_tellMember yX7_tellMember ∈ tblG := tblG_of 696 (by decide +kernel) rfl
theorem q_697 : Cond.code yX7_tellMember cX7_tellMember 5 (some .boolean) ∈ tblG := tblG_of 697 (by decide +kernel) rfl
theorem q_698 : Cond.fieldLink RX7 295 "ReplayBooth$Token" "CLOSING" "LReplayBooth$Token;" ∈ tblG := tblG_of 698 (by decide +kernel) rfl
theorem q_699 : Cond.methodLink RX7 146 yX7_tellPlay ∈ tblG := tblG_of 699 (by decide +kernel) rfl
theorem q_700 : Cond.instanceMethod yX7_tellPlay ∈ tblG := tblG_of 700 (by decide +kernel) rfl
theorem q_701 : Cond.selects RX7 yX7_tellPlay yX7_tellPlay ∈ tblG := tblG_of 701 (by decide +kernel) rfl
theorem q_702 : Cond.code yX7_tellPlay cX7_tellPlay 4 (some .boolean) ∈ tblG := tblG_of 702 (by decide +kernel) rfl
theorem q_703 : Cond.methodLink RX7 304 yX6_clear ∈ tblG := tblG_of 703 (by decide +kernel) rfl
theorem q_704 : Cond.instanceMethod yX6_clear ∈ tblG := tblG_of 704 (by decide +kernel) rfl
theorem q_705 : Cond.selects RX6 yX6_clear yX6_clear ∈ tblG := tblG_of 705 (by decide +kernel) rfl
theorem q_706 : Cond.code yX6_clear cX6_clear 1 none ∈ tblG := tblG_of 706 (by decide +kernel) rfl
theorem q_707 : Cond.fieldLink RX7 310 "ReplayBooth$Token" "PLAY" "LReplayBooth$Token;" ∈ tblG := tblG_of 707 (by decide +kernel) rfl
theorem q_709 : Cond.fieldLink RX7 321 "ReplayBooth$Token" "YES" "LReplayBooth$Token;" ∈ tblG := tblG_of 709 (by decide +kernel) rfl
theorem q_711 : Cond.fieldLink RX7 327 "ReplayBooth$Token" "NO" "LReplayBooth$Token;" ∈ tblG := tblG_of 711 (by decide +kernel) rfl
theorem q_713 : Cond.fieldLink RX7 330 "ReplayBooth$Token" "LINE_END" "LReplayBooth$Token;" ∈ tblG := tblG_of 713 (by decide +kernel) rfl
theorem q_714 : Cond.methodLink RX7 333 yX7_tellFrame ∈ tblG := tblG_of 714 (by decide +kernel) rfl
theorem q_715 : Cond.instanceMethod yX7_tellFrame ∈ tblG := tblG_of 715 (by decide +kernel) rfl
theorem q_716 : Cond.selects RX7 yX7_tellFrame yX7_tellFrame ∈ tblG := tblG_of 716 (by decide +kernel) rfl
theorem q_717 : Cond.code yX7_tellFrame cX7_tellFrame 6 (some .boolean) ∈ tblG := tblG_of 717 (by decide +kernel) rfl
theorem q_718 : Cond.fieldLink RX7 352 "ReplayBooth$Token" "THERE" "LReplayBooth$Token;" ∈ tblG := tblG_of 718 (by decide +kernel) rfl
theorem q_719 : Cond.fieldLink RX7 355 "ReplayBooth$Token" "NOT_YET" "LReplayBooth$Token;" ∈ tblG := tblG_of 719 (by decide +kernel) rfl
theorem q_720 : Cond.methodLink RX7 149 yX7_tellSetting ∈ tblG := tblG_of 720 (by decide +kernel) rfl
theorem q_721 : Cond.instanceMethod yX7_tellSetting ∈ tblG := tblG_of 721 (by decide +kernel) rfl
theorem q_722 : Cond.selects RX7 yX7_tellSetting yX7_tellSetting ∈ tblG := tblG_of 722 (by decide +kernel) rfl
theorem q_723 : Cond.code yX7_tellSetting cX7_tellSetting 3 (some .boolean) ∈ tblG := tblG_of 723 (by decide +kernel) rfl
theorem q_724 : Cond.fieldLink RX10 86 "ReplayBooth$Token" "LINE_END" "LReplayBooth$Token;" ∈ tblG := tblG_of 724 (by decide +kernel) rfl
theorem q_725 : Cond.methodLink RX10 89 yX7_take ∈ tblG := tblG_of 725 (by decide +kernel) rfl
theorem q_726 : Cond.methodLink RX10 96 yX3_begin ∈ tblG := tblG_of 726 (by decide +kernel) rfl
theorem q_727 : Cond.instanceMethod yX3_begin ∈ tblG := tblG_of 727 (by decide +kernel) rfl
theorem q_728 : Cond.selects RX3 yX3_begin yX3_begin ∈ tblG := tblG_of 728 (by decide +kernel) rfl
theorem q_729 : Cond.code yX3_begin cX3_begin 3 none ∈ tblG := tblG_of 729 (by decide +kernel) rfl
theorem q_730 : Cond.methodLink RX3 48 yJ7_fill_53178 ∈ tblG := tblG_of 730 (by decide +kernel) rfl
theorem q_735 : Cond.methodLink RX10 124 yX2_lateLeast ∈ tblG := tblG_of 735 (by decide +kernel) rfl
theorem q_736 : Cond.instanceMethod yX2_lateLeast ∈ tblG := tblG_of 736 (by decide +kernel) rfl
theorem q_737 : Cond.selects RX2 yX2_lateLeast yX2_lateLeast ∈ tblG := tblG_of 737 (by decide +kernel) rfl
theorem q_738 : Cond.code yX2_lateLeast cX2_lateLeast 2 (some .int) ∈ tblG := tblG_of 738 (by decide +kernel) rfl
theorem q_739 : Cond.methodLink RX10 127 yX2_lateMost ∈ tblG := tblG_of 739 (by decide +kernel) rfl
theorem q_740 : Cond.instanceMethod yX2_lateMost ∈ tblG := tblG_of 740 (by decide +kernel) rfl
theorem q_741 : Cond.selects RX2 yX2_lateMost yX2_lateMost ∈ tblG := tblG_of 741 (by decide +kernel) rfl
theorem q_742 : Cond.code yX2_lateMost cX2_lateMost 2 (some .int) ∈ tblG := tblG_of 742 (by decide +kernel) rfl
theorem q_751 : Cond.methodLink RX10 150 yX10_isSide ∈ tblG := tblG_of 751 (by decide +kernel) rfl
theorem q_753 : Cond.instanceMethod yX10_isSide ∈ tblG := tblG_of 753 (by decide +kernel) rfl
theorem q_754 : Cond.code yX10_isSide cX10_isSide 2 (some .boolean) ∈ tblG := tblG_of 754 (by decide +kernel) rfl
theorem q_755 : Cond.methodLink RX10 163 yX10_pointsNow ∈ tblG := tblG_of 755 (by decide +kernel) rfl
theorem q_757 : Cond.instanceMethod yX10_pointsNow ∈ tblG := tblG_of 757 (by decide +kernel) rfl
theorem q_758 : Cond.code yX10_pointsNow cX10_pointsNow 4 (some .int) ∈ tblG := tblG_of 758 (by decide +kernel) rfl
theorem q_759 : Cond.methodLink RX10 178 yX3_call ∈ tblG := tblG_of 759 (by decide +kernel) rfl
theorem q_760 : Cond.instanceMethod yX3_call ∈ tblG := tblG_of 760 (by decide +kernel) rfl
theorem q_761 : Cond.selects RX3 yX3_call yX3_call ∈ tblG := tblG_of 761 (by decide +kernel) rfl
theorem q_762 : Cond.code yX3_call cX3_call 2 (some .int) ∈ tblG := tblG_of 762 (by decide +kernel) rfl
theorem q_767 : Cond.methodLink RX10 184 yX10_isPlay ∈ tblG := tblG_of 767 (by decide +kernel) rfl
theorem q_769 : Cond.instanceMethod yX10_isPlay ∈ tblG := tblG_of 769 (by decide +kernel) rfl
theorem q_770 : Cond.code yX10_isPlay cX10_isPlay 2 (some .boolean) ∈ tblG := tblG_of 770 (by decide +kernel) rfl
theorem q_771 : Cond.methodLink RX10 197 yX3_isReviewed ∈ tblG := tblG_of 771 (by decide +kernel) rfl
theorem q_772 : Cond.instanceMethod yX3_isReviewed ∈ tblG := tblG_of 772 (by decide +kernel) rfl
theorem q_773 : Cond.selects RX3 yX3_isReviewed yX3_isReviewed ∈ tblG := tblG_of 773 (by decide +kernel) rfl
theorem q_774 : Cond.code yX3_isReviewed cX3_isReviewed 2 (some .boolean) ∈ tblG := tblG_of 774 (by decide +kernel) rfl
theorem q_775 : Cond.methodLink RX10 200 yX3_isBoarded ∈ tblG := tblG_of 775 (by decide +kernel) rfl
theorem q_776 : Cond.instanceMethod yX3_isBoarded ∈ tblG := tblG_of 776 (by decide +kernel) rfl
theorem q_777 : Cond.selects RX3 yX3_isBoarded yX3_isBoarded ∈ tblG := tblG_of 777 (by decide +kernel) rfl
theorem q_778 : Cond.code yX3_isBoarded cX3_isBoarded 2 (some .boolean) ∈ tblG := tblG_of 778 (by decide +kernel) rfl
theorem q_783 : Cond.methodLink RX10 228 yX4_byFrames ∈ tblG := tblG_of 783 (by decide +kernel) rfl
theorem q_784 : Cond.instanceMethod yX4_byFrames ∈ tblG := tblG_of 784 (by decide +kernel) rfl
theorem q_785 : Cond.selects RX4 yX4_byFrames yX4_byFrames ∈ tblG := tblG_of 785 (by decide +kernel) rfl
theorem q_786 : Cond.code yX4_byFrames cX4_byFrames 5 (some .int) ∈ tblG := tblG_of 786 (by decide +kernel) rfl
theorem q_787 : Cond.methodLink RX4 57 yX4_sureOf ∈ tblG := tblG_of 787 (by decide +kernel) rfl
theorem q_788 : Cond.instanceMethod yX4_sureOf ∈ tblG := tblG_of 788 (by decide +kernel) rfl
theorem q_789 : Cond.selects RX4 yX4_sureOf yX4_sureOf ∈ tblG := tblG_of 789 (by decide +kernel) rfl
theorem q_790 : Cond.code yX4_sureOf cX4_sureOf 5 (some (.object "ReplayBooth$Bounds")) ∈ tblG := tblG_of 790 (by decide +kernel) rfl
theorem q_791 : Cond.methodLink RX4 26 yX2_copyFrom ∈ tblG := tblG_of 791 (by decide +kernel) rfl
theorem q_792 : Cond.instanceMethod yX2_copyFrom ∈ tblG := tblG_of 792 (by decide +kernel) rfl
theorem q_793 : Cond.selects RX2 yX2_copyFrom yX2_copyFrom ∈ tblG := tblG_of 793 (by decide +kernel) rfl
theorem q_794 : Cond.code yX2_copyFrom cX2_copyFrom 2 none ∈ tblG := tblG_of 794 (by decide +kernel) rfl
theorem q_795 : Cond.methodLink RX2 26 ⟨"java/lang/System", "arraycopy", "(Ljava/lang/Object;ILjava/lang/Object;II)V"⟩ ∈ tblG := tblG_of 795 (by decide +kernel) rfl
theorem q_796 : Cond.static ⟨"java/lang/System", "arraycopy", "(Ljava/lang/Object;ILjava/lang/Object;II)V"⟩ ∈ tblG := tblG_of 796 (by decide +kernel) rfl
theorem q_797 : Cond.native ⟨"java/lang/System", "arraycopy", "(Ljava/lang/Object;ILjava/lang/Object;II)V"⟩ ∈ tblG := tblG_of 797 (by decide +kernel) rfl
theorem q_798 : Cond.methodLink RX4 36 yX4_tellFrame ∈ tblG := tblG_of 798 (by decide +kernel) rfl
theorem q_800 : Cond.instanceMethod yX4_tellFrame ∈ tblG := tblG_of 800 (by decide +kernel) rfl
theorem q_801 : Cond.code yX4_tellFrame cX4_tellFrame 6 none ∈ tblG := tblG_of 801 (by decide +kernel) rfl
theorem q_802 : Cond.methodLink RX4 50 yX2_tell ∈ tblG := tblG_of 802 (by decide +kernel) rfl
theorem q_803 : Cond.methodLink RX4 71 yX4_mustHold ∈ tblG := tblG_of 803 (by decide +kernel) rfl
theorem q_805 : Cond.instanceMethod yX4_mustHold ∈ tblG := tblG_of 805 (by decide +kernel) rfl
theorem q_806 : Cond.code yX4_mustHold cX4_mustHold 3 (some .boolean) ∈ tblG := tblG_of 806 (by decide +kernel) rfl
theorem q_807 : Cond.methodLink RX4 89 yX2_markLess ∈ tblG := tblG_of 807 (by decide +kernel) rfl
theorem q_808 : Cond.instanceMethod yX2_markLess ∈ tblG := tblG_of 808 (by decide +kernel) rfl
theorem q_809 : Cond.selects RX2 yX2_markLess yX2_markLess ∈ tblG := tblG_of 809 (by decide +kernel) rfl
theorem q_810 : Cond.code yX2_markLess cX2_markLess 3 (some .int) ∈ tblG := tblG_of 810 (by decide +kernel) rfl
theorem q_811 : Cond.methodLink RX4 75 yX4_canHold ∈ tblG := tblG_of 811 (by decide +kernel) rfl
theorem q_813 : Cond.instanceMethod yX4_canHold ∈ tblG := tblG_of 813 (by decide +kernel) rfl
theorem q_814 : Cond.code yX4_canHold cX4_canHold 3 (some .boolean) ∈ tblG := tblG_of 814 (by decide +kernel) rfl
theorem q_819 : Cond.methodLink RX10 232 yX9_allCameras ∈ tblG := tblG_of 819 (by decide +kernel) rfl
theorem q_820 : Cond.instanceMethod yX9_allCameras ∈ tblG := tblG_of 820 (by decide +kernel) rfl
theorem q_821 : Cond.selects RX9 yX9_allCameras yX9_allCameras ∈ tblG := tblG_of 821 (by decide +kernel) rfl
theorem q_822 : Cond.code yX9_allCameras cX9_allCameras 1 (some .int) ∈ tblG := tblG_of 822 (by decide +kernel) rfl
theorem q_823 : Cond.methodLink RX10 236 yX6_framesOf ∈ tblG := tblG_of 823 (by decide +kernel) rfl
theorem q_824 : Cond.instanceMethod yX6_framesOf ∈ tblG := tblG_of 824 (by decide +kernel) rfl
theorem q_825 : Cond.selects RX6 yX6_framesOf yX6_framesOf ∈ tblG := tblG_of 825 (by decide +kernel) rfl
theorem q_826 : Cond.code yX6_framesOf cX6_framesOf 4 (some .int) ∈ tblG := tblG_of 826 (by decide +kernel) rfl
theorem q_831 : Cond.constant RX10 239 (3000000) ∈ tblG := tblG_of 831 (by decide +kernel) rfl
theorem q_832 : Cond.methodLink RX10 240 yX6_allFrames ∈ tblG := tblG_of 832 (by decide +kernel) rfl
theorem q_833 : Cond.instanceMethod yX6_allFrames ∈ tblG := tblG_of 833 (by decide +kernel) rfl
theorem q_834 : Cond.selects RX6 yX6_allFrames yX6_allFrames ∈ tblG := tblG_of 834 (by decide +kernel) rfl
theorem q_835 : Cond.code yX6_allFrames cX6_allFrames 1 (some .int) ∈ tblG := tblG_of 835 (by decide +kernel) rfl
theorem q_836 : Cond.methodLink RX10 243 yX4_sureOf ∈ tblG := tblG_of 836 (by decide +kernel) rfl
theorem q_837 : Cond.constant RX10 247 (2000000) ∈ tblG := tblG_of 837 (by decide +kernel) rfl
theorem q_838 : Cond.methodLink RX10 248 yX2_markLess ∈ tblG := tblG_of 838 (by decide +kernel) rfl
theorem q_839 : Cond.constant RX10 252 (268435456) ∈ tblG := tblG_of 839 (by decide +kernel) rfl
theorem q_840 : Cond.constant RX10 253 (1000000) ∈ tblG := tblG_of 840 (by decide +kernel) rfl
theorem q_845 : Cond.methodLink RX10 254 yX4_fewestFrames ∈ tblG := tblG_of 845 (by decide +kernel) rfl
theorem q_846 : Cond.instanceMethod yX4_fewestFrames ∈ tblG := tblG_of 846 (by decide +kernel) rfl
theorem q_847 : Cond.selects RX4 yX4_fewestFrames yX4_fewestFrames ∈ tblG := tblG_of 847 (by decide +kernel) rfl
theorem q_848 : Cond.code yX4_fewestFrames cX4_fewestFrames 3 (some .int) ∈ tblG := tblG_of 848 (by decide +kernel) rfl
theorem q_849 : Cond.methodLink RX4 108 yX4_searchFewest ∈ tblG := tblG_of 849 (by decide +kernel) rfl
theorem q_851 : Cond.instanceMethod yX4_searchFewest ∈ tblG := tblG_of 851 (by decide +kernel) rfl
theorem q_852 : Cond.code yX4_searchFewest cX4_searchFewest 7 (some .int) ∈ tblG := tblG_of 852 (by decide +kernel) rfl
theorem q_853 : Cond.methodLink RX4 93 yX6_allFrames ∈ tblG := tblG_of 853 (by decide +kernel) rfl
theorem q_854 : Cond.methodLink RX4 97 yX4_byFrames ∈ tblG := tblG_of 854 (by decide +kernel) rfl
theorem q_855 : Cond.methodLink RX4 101 yX4_isSure ∈ tblG := tblG_of 855 (by decide +kernel) rfl
theorem q_856 : Cond.static yX4_isSure ∈ tblG := tblG_of 856 (by decide +kernel) rfl
theorem q_857 : Cond.code yX4_isSure cX4_isSure 1 (some .boolean) ∈ tblG := tblG_of 857 (by decide +kernel) rfl
theorem q_858 : Cond.methodLink RX4 112 yJ6_bitCount_0f7a4 ∈ tblG := tblG_of 858 (by decide +kernel) rfl
theorem q_859 : Cond.static yJ6_bitCount_0f7a4 ∈ tblG := tblG_of 859 (by decide +kernel) rfl
theorem q_860 : Cond.code yJ6_bitCount_0f7a4 cJ6_bitCount_0f7a4 1 (some .int) ∈ tblG := tblG_of 860 (by decide +kernel) rfl
theorem q_861 : Cond.constant RJ6 265 (1431655765) ∈ tblG := tblG_of 861 (by decide +kernel) rfl
theorem q_862 : Cond.constant RJ6 266 (858993459) ∈ tblG := tblG_of 862 (by decide +kernel) rfl
theorem q_863 : Cond.constant RJ6 267 (252645135) ∈ tblG := tblG_of 863 (by decide +kernel) rfl
theorem q_868 : Cond.methodLink RX10 258 yX4_keyFrames ∈ tblG := tblG_of 868 (by decide +kernel) rfl
theorem q_869 : Cond.instanceMethod yX4_keyFrames ∈ tblG := tblG_of 869 (by decide +kernel) rfl
theorem q_870 : Cond.selects RX4 yX4_keyFrames yX4_keyFrames ∈ tblG := tblG_of 870 (by decide +kernel) rfl
theorem q_871 : Cond.code yX4_keyFrames cX4_keyFrames 6 (some .int) ∈ tblG := tblG_of 871 (by decide +kernel) rfl
theorem q_876 : Cond.methodLink RX10 261 yX4_fewestCameras ∈ tblG := tblG_of 876 (by decide +kernel) rfl
theorem q_877 : Cond.instanceMethod yX4_fewestCameras ∈ tblG := tblG_of 877 (by decide +kernel) rfl
theorem q_878 : Cond.selects RX4 yX4_fewestCameras yX4_fewestCameras ∈ tblG := tblG_of 878 (by decide +kernel) rfl
theorem q_879 : Cond.code yX4_fewestCameras cX4_fewestCameras 7 (some .int) ∈ tblG := tblG_of 879 (by decide +kernel) rfl
theorem q_880 : Cond.methodLink RX4 118 yX9_allCameras ∈ tblG := tblG_of 880 (by decide +kernel) rfl
theorem q_881 : Cond.methodLink RX4 124 yX6_framesOf ∈ tblG := tblG_of 881 (by decide +kernel) rfl
theorem q_886 : Cond.methodLink RX10 264 yX4_fewestLeftOut ∈ tblG := tblG_of 886 (by decide +kernel) rfl
theorem q_887 : Cond.instanceMethod yX4_fewestLeftOut ∈ tblG := tblG_of 887 (by decide +kernel) rfl
theorem q_888 : Cond.selects RX4 yX4_fewestLeftOut yX4_fewestLeftOut ∈ tblG := tblG_of 888 (by decide +kernel) rfl
theorem q_889 : Cond.code yX4_fewestLeftOut cX4_fewestLeftOut 3 (some .int) ∈ tblG := tblG_of 889 (by decide +kernel) rfl
theorem q_890 : Cond.methodLink RX4 130 yX4_searchLeftOut ∈ tblG := tblG_of 890 (by decide +kernel) rfl
theorem q_892 : Cond.instanceMethod yX4_searchLeftOut ∈ tblG := tblG_of 892 (by decide +kernel) rfl
theorem q_893 : Cond.code yX4_searchLeftOut cX4_searchLeftOut 6 (some .int) ∈ tblG := tblG_of 893 (by decide +kernel) rfl
theorem q_898 : Cond.methodLink RX10 267 yX10_callNow ∈ tblG := tblG_of 898 (by decide +kernel) rfl
theorem q_900 : Cond.instanceMethod yX10_callNow ∈ tblG := tblG_of 900 (by decide +kernel) rfl
theorem q_901 : Cond.code yX10_callNow cX10_callNow 2 (some .int) ∈ tblG := tblG_of 901 (by decide +kernel) rfl
theorem q_902 : Cond.methodLink RX10 270 yX4_review ∈ tblG := tblG_of 902 (by decide +kernel) rfl
theorem q_903 : Cond.instanceMethod yX4_review ∈ tblG := tblG_of 903 (by decide +kernel) rfl
theorem q_904 : Cond.selects RX4 yX4_review yX4_review ∈ tblG := tblG_of 904 (by decide +kernel) rfl
theorem q_905 : Cond.code yX4_review cX4_review 7 (some .int) ∈ tblG := tblG_of 905 (by decide +kernel) rfl
theorem q_910 : Cond.methodLink RX10 279 yX10_startAct ∈ tblG := tblG_of 910 (by decide +kernel) rfl
theorem q_912 : Cond.instanceMethod yX10_startAct ∈ tblG := tblG_of 912 (by decide +kernel) rfl
theorem q_913 : Cond.code yX10_startAct cX10_startAct 1 none ∈ tblG := tblG_of 913 (by decide +kernel) rfl
theorem q_914 : Cond.methodLink RX10 323 yX3_copyFrom ∈ tblG := tblG_of 914 (by decide +kernel) rfl
theorem q_915 : Cond.instanceMethod yX3_copyFrom ∈ tblG := tblG_of 915 (by decide +kernel) rfl
theorem q_916 : Cond.selects RX3 yX3_copyFrom yX3_copyFrom ∈ tblG := tblG_of 916 (by decide +kernel) rfl
theorem q_917 : Cond.code yX3_copyFrom cX3_copyFrom 2 none ∈ tblG := tblG_of 917 (by decide +kernel) rfl
theorem q_918 : Cond.methodLink RX3 57 ⟨"java/lang/System", "arraycopy", "(Ljava/lang/Object;ILjava/lang/Object;II)V"⟩ ∈ tblG := tblG_of 918 (by decide +kernel) rfl
theorem q_919 : Cond.methodLink RX10 327 yJ9_min_7cf53 ∈ tblG := tblG_of 919 (by decide +kernel) rfl
theorem q_920 : Cond.methodLink RX10 282 yX3_happen ∈ tblG := tblG_of 920 (by decide +kernel) rfl
theorem q_921 : Cond.instanceMethod yX3_happen ∈ tblG := tblG_of 921 (by decide +kernel) rfl
theorem q_922 : Cond.selects RX3 yX3_happen yX3_happen ∈ tblG := tblG_of 922 (by decide +kernel) rfl
theorem q_923 : Cond.code yX3_happen cX3_happen 3 none ∈ tblG := tblG_of 923 (by decide +kernel) rfl
theorem q_924 : Cond.methodLink RX10 286 yX9_isReviewedAtOnce ∈ tblG := tblG_of 924 (by decide +kernel) rfl
theorem q_925 : Cond.instanceMethod yX9_isReviewedAtOnce ∈ tblG := tblG_of 925 (by decide +kernel) rfl
theorem q_926 : Cond.selects RX9 yX9_isReviewedAtOnce yX9_isReviewedAtOnce ∈ tblG := tblG_of 926 (by decide +kernel) rfl
theorem q_927 : Cond.code yX9_isReviewedAtOnce cX9_isReviewedAtOnce 2 (some .boolean) ∈ tblG := tblG_of 927 (by decide +kernel) rfl
theorem q_928 : Cond.methodLink RX10 289 yX10_reviewNow ∈ tblG := tblG_of 928 (by decide +kernel) rfl
theorem q_930 : Cond.instanceMethod yX10_reviewNow ∈ tblG := tblG_of 930 (by decide +kernel) rfl
theorem q_931 : Cond.code yX10_reviewNow cX10_reviewNow 4 (some .int) ∈ tblG := tblG_of 931 (by decide +kernel) rfl
theorem q_932 : Cond.methodLink RX10 310 yX3_addLog ∈ tblG := tblG_of 932 (by decide +kernel) rfl
theorem q_933 : Cond.instanceMethod yX3_addLog ∈ tblG := tblG_of 933 (by decide +kernel) rfl
theorem q_934 : Cond.selects RX3 yX3_addLog yX3_addLog ∈ tblG := tblG_of 934 (by decide +kernel) rfl
theorem q_935 : Cond.code yX3_addLog cX3_addLog 6 none ∈ tblG := tblG_of 935 (by decide +kernel) rfl
theorem q_936 : Cond.methodLink RX3 63 yJ9_min_7cf53 ∈ tblG := tblG_of 936 (by decide +kernel) rfl
theorem q_937 : Cond.methodLink RX10 314 yX3_turn ∈ tblG := tblG_of 937 (by decide +kernel) rfl
theorem q_938 : Cond.instanceMethod yX3_turn ∈ tblG := tblG_of 938 (by decide +kernel) rfl
theorem q_939 : Cond.selects RX3 yX3_turn yX3_turn ∈ tblG := tblG_of 939 (by decide +kernel) rfl
theorem q_940 : Cond.code yX3_turn cX3_turn 2 none ∈ tblG := tblG_of 940 (by decide +kernel) rfl
theorem q_941 : Cond.methodLink RX10 317 yX3_restartBehind ∈ tblG := tblG_of 941 (by decide +kernel) rfl
theorem q_942 : Cond.instanceMethod yX3_restartBehind ∈ tblG := tblG_of 942 (by decide +kernel) rfl
theorem q_943 : Cond.selects RX3 yX3_restartBehind yX3_restartBehind ∈ tblG := tblG_of 943 (by decide +kernel) rfl
theorem q_944 : Cond.code yX3_restartBehind cX3_restartBehind 3 none ∈ tblG := tblG_of 944 (by decide +kernel) rfl
theorem q_949 : Cond.methodLink RX10 292 yX10_canChallenge ∈ tblG := tblG_of 949 (by decide +kernel) rfl
theorem q_951 : Cond.instanceMethod yX10_canChallenge ∈ tblG := tblG_of 951 (by decide +kernel) rfl
theorem q_952 : Cond.code yX10_canChallenge cX10_canChallenge 3 (some .boolean) ∈ tblG := tblG_of 952 (by decide +kernel) rfl
theorem q_953 : Cond.methodLink RX10 296 yX9_leftWhenWon ∈ tblG := tblG_of 953 (by decide +kernel) rfl
theorem q_954 : Cond.instanceMethod yX9_leftWhenWon ∈ tblG := tblG_of 954 (by decide +kernel) rfl
theorem q_955 : Cond.selects RX9 yX9_leftWhenWon yX9_leftWhenWon ∈ tblG := tblG_of 955 (by decide +kernel) rfl
theorem q_956 : Cond.code yX9_leftWhenWon cX9_leftWhenWon 5 (some .int) ∈ tblG := tblG_of 956 (by decide +kernel) rfl
theorem q_957 : Cond.methodLink RX9 84 yJ9_min_7cf53 ∈ tblG := tblG_of 957 (by decide +kernel) rfl
theorem q_962 : Cond.methodLink RX10 332 yX10_isBoard ∈ tblG := tblG_of 962 (by decide +kernel) rfl
theorem q_964 : Cond.instanceMethod yX10_isBoard ∈ tblG := tblG_of 964 (by decide +kernel) rfl
theorem q_965 : Cond.code yX10_isBoard cX10_isBoard 2 (some .boolean) ∈ tblG := tblG_of 965 (by decide +kernel) rfl
theorem q_966 : Cond.methodLink RX10 335 yX10_wouldOverturn ∈ tblG := tblG_of 966 (by decide +kernel) rfl
theorem q_968 : Cond.instanceMethod yX10_wouldOverturn ∈ tblG := tblG_of 968 (by decide +kernel) rfl
theorem q_969 : Cond.code yX10_wouldOverturn cX10_wouldOverturn 5 (some .boolean) ∈ tblG := tblG_of 969 (by decide +kernel) rfl
theorem q_970 : Cond.methodLink RX10 348 yX4_membersAgainst ∈ tblG := tblG_of 970 (by decide +kernel) rfl
theorem q_971 : Cond.instanceMethod yX4_membersAgainst ∈ tblG := tblG_of 971 (by decide +kernel) rfl
theorem q_972 : Cond.selects RX4 yX4_membersAgainst yX4_membersAgainst ∈ tblG := tblG_of 972 (by decide +kernel) rfl
theorem q_973 : Cond.code yX4_membersAgainst cX4_membersAgainst 8 (some .int) ∈ tblG := tblG_of 973 (by decide +kernel) rfl
theorem q_974 : Cond.methodLink RX10 352 yJ6_bitCount_0f7a4 ∈ tblG := tblG_of 974 (by decide +kernel) rfl
theorem q_975 : Cond.methodLink RX10 341 yX3_giveBack ∈ tblG := tblG_of 975 (by decide +kernel) rfl
theorem q_976 : Cond.instanceMethod yX3_giveBack ∈ tblG := tblG_of 976 (by decide +kernel) rfl
theorem q_977 : Cond.selects RX3 yX3_giveBack yX3_giveBack ∈ tblG := tblG_of 977 (by decide +kernel) rfl
theorem q_978 : Cond.code yX3_giveBack cX3_giveBack 3 none ∈ tblG := tblG_of 978 (by decide +kernel) rfl
theorem q_995 : Cond.methodLink RX10 362 yX10_pointsInTruth ∈ tblG := tblG_of 995 (by decide +kernel) rfl
theorem q_997 : Cond.instanceMethod yX10_pointsInTruth ∈ tblG := tblG_of 997 (by decide +kernel) rfl
theorem q_998 : Cond.code yX10_pointsInTruth cX10_pointsInTruth 7 (some .int) ∈ tblG := tblG_of 998 (by decide +kernel) rfl
theorem q_999 : Cond.methodLink RX10 365 yX4_trueCall ∈ tblG := tblG_of 999 (by decide +kernel) rfl
theorem q_1000 : Cond.instanceMethod yX4_trueCall ∈ tblG := tblG_of 1000 (by decide +kernel) rfl
theorem q_1001 : Cond.selects RX4 yX4_trueCall yX4_trueCall ∈ tblG := tblG_of 1001 (by decide +kernel) rfl
theorem q_1002 : Cond.code yX4_trueCall cX4_trueCall 5 (some .int) ∈ tblG := tblG_of 1002 (by decide +kernel) rfl
theorem q_1015 : Cond.methodLink RX10 368 yX10_callUnchallenged ∈ tblG := tblG_of 1015 (by decide +kernel) rfl
theorem q_1017 : Cond.instanceMethod yX10_callUnchallenged ∈ tblG := tblG_of 1017 (by decide +kernel) rfl
theorem q_1018 : Cond.code yX10_callUnchallenged cX10_callUnchallenged 4 (some .int) ∈ tblG := tblG_of 1018 (by decide +kernel) rfl
theorem q_1023 : Cond.methodLink RX10 371 yX10_isAgainst ∈ tblG := tblG_of 1023 (by decide +kernel) rfl
theorem q_1024 : Cond.static yX10_isAgainst ∈ tblG := tblG_of 1024 (by decide +kernel) rfl
theorem q_1025 : Cond.code yX10_isAgainst cX10_isAgainst 2 (some .boolean) ∈ tblG := tblG_of 1025 (by decide +kernel) rfl
theorem q_1026 : Cond.methodLink RX10 375 yX10_neverLacks ∈ tblG := tblG_of 1026 (by decide +kernel) rfl
theorem q_1028 : Cond.instanceMethod yX10_neverLacks ∈ tblG := tblG_of 1028 (by decide +kernel) rfl
theorem q_1029 : Cond.code yX10_neverLacks cX10_neverLacks 7 (some .boolean) ∈ tblG := tblG_of 1029 (by decide +kernel) rfl
theorem q_1034 : Cond.methodLink RX10 379 yX10_secondsOf ∈ tblG := tblG_of 1034 (by decide +kernel) rfl
theorem q_1036 : Cond.instanceMethod yX10_secondsOf ∈ tblG := tblG_of 1036 (by decide +kernel) rfl
theorem q_1037 : Cond.code yX10_secondsOf cX10_secondsOf 4 (some .int) ∈ tblG := tblG_of 1037 (by decide +kernel) rfl
theorem q_1046 : Cond.methodLink RX10 390 yX10_narrowed ∈ tblG := tblG_of 1046 (by decide +kernel) rfl
theorem q_1047 : Cond.static yX10_narrowed ∈ tblG := tblG_of 1047 (by decide +kernel) rfl
theorem q_1048 : Cond.code yX10_narrowed cX10_narrowed 2 (some .int) ∈ tblG := tblG_of 1048 (by decide +kernel) rfl
theorem q_1156 : Cond.methodLink RX11 115 yX11_usual ∈ tblG := tblG_of 1156 (by decide +kernel) rfl
theorem q_1158 : Cond.instanceMethod yX11_usual ∈ tblG := tblG_of 1158 (by decide +kernel) rfl
theorem q_1159 : Cond.code yX11_usual cX11_usual 3 none ∈ tblG := tblG_of 1159 (by decide +kernel) rfl
theorem q_1160 : Cond.fieldLink RX11 119 "ReplayBoothModel" "thrown" "I" ∈ tblG := tblG_of 1160 (by decide +kernel) rfl
theorem q_1161 : Cond.fieldLink RX11 7 "ReplayBoothModel" "tape" "[B" ∈ tblG := tblG_of 1161 (by decide +kernel) rfl
theorem q_1162 : Cond.fieldLink RX11 123 "ReplayBoothModel" "taped" "I" ∈ tblG := tblG_of 1162 (by decide +kernel) rfl
theorem q_1163 : Cond.fieldLink RX11 129 "ReplayBoothModel" "size" "I" ∈ tblG := tblG_of 1163 (by decide +kernel) rfl
theorem q_1164 : Cond.fieldLink RX11 135 "ReplayBoothModel" "from" "I" ∈ tblG := tblG_of 1164 (by decide +kernel) rfl
theorem q_1165 : Cond.fieldLink RX11 132 "ReplayBoothModel" "to" "I" ∈ tblG := tblG_of 1165 (by decide +kernel) rfl
theorem q_1166 : Cond.fieldLink RX11 142 "ReplayBoothModel" "token" "I" ∈ tblG := tblG_of 1166 (by decide +kernel) rfl
theorem q_1167 : Cond.fieldLink RX11 145 "ReplayBoothModel" "value" "I" ∈ tblG := tblG_of 1167 (by decide +kernel) rfl
theorem q_1168 : Cond.fieldLink RX11 148 "ReplayBoothModel" "word" "J" ∈ tblG := tblG_of 1168 (by decide +kernel) rfl
theorem q_1169 : Cond.fieldLink RX11 166 "ReplayBoothModel" "fault" "I" ∈ tblG := tblG_of 1169 (by decide +kernel) rfl
theorem q_1170 : Cond.fieldLink RX11 169 "ReplayBoothModel" "faultPlace" "I" ∈ tblG := tblG_of 1170 (by decide +kernel) rfl
theorem q_1171 : Cond.fieldLink RX11 13 "ReplayBoothModel" "many" "[I" ∈ tblG := tblG_of 1171 (by decide +kernel) rfl
theorem q_1172 : Cond.fieldLink RX11 17 "ReplayBoothModel" "rules" "[I" ∈ tblG := tblG_of 1172 (by decide +kernel) rfl
theorem q_1173 : Cond.fieldLink RX11 20 "ReplayBoothModel" "ruled" "[Z" ∈ tblG := tblG_of 1173 (by decide +kernel) rfl
theorem q_1174 : Cond.fieldLink RX11 24 "ReplayBoothModel" "names" "[J" ∈ tblG := tblG_of 1174 (by decide +kernel) rfl
theorem q_1175 : Cond.fieldLink RX11 28 "ReplayBoothModel" "lateLeast" "[I" ∈ tblG := tblG_of 1175 (by decide +kernel) rfl
theorem q_1176 : Cond.fieldLink RX11 31 "ReplayBoothModel" "lateMost" "[I" ∈ tblG := tblG_of 1176 (by decide +kernel) rfl
theorem q_1177 : Cond.fieldLink RX11 34 "ReplayBoothModel" "flashes" "[I" ∈ tblG := tblG_of 1177 (by decide +kernel) rfl
theorem q_1178 : Cond.fieldLink RX11 37 "ReplayBoothModel" "challenges" "[I" ∈ tblG := tblG_of 1178 (by decide +kernel) rfl
theorem q_1179 : Cond.fieldLink RX11 40 "ReplayBoothModel" "seconds" "[I" ∈ tblG := tblG_of 1179 (by decide +kernel) rfl
theorem q_1180 : Cond.fieldLink RX11 43 "ReplayBoothModel" "forced" "[Z" ∈ tblG := tblG_of 1180 (by decide +kernel) rfl
theorem q_1181 : Cond.fieldLink RX11 46 "ReplayBoothModel" "again" "[Z" ∈ tblG := tblG_of 1181 (by decide +kernel) rfl
theorem q_1182 : Cond.fieldLink RX11 49 "ReplayBoothModel" "pairs" "[I" ∈ tblG := tblG_of 1182 (by decide +kernel) rfl
theorem q_1183 : Cond.fieldLink RX11 52 "ReplayBoothModel" "firstMark" "[I" ∈ tblG := tblG_of 1183 (by decide +kernel) rfl
theorem q_1184 : Cond.fieldLink RX11 55 "ReplayBoothModel" "secondMark" "[I" ∈ tblG := tblG_of 1184 (by decide +kernel) rfl
theorem q_1185 : Cond.fieldLink RX11 58 "ReplayBoothModel" "needs" "[I" ∈ tblG := tblG_of 1185 (by decide +kernel) rfl
theorem q_1186 : Cond.fieldLink RX11 61 "ReplayBoothModel" "members" "[I" ∈ tblG := tblG_of 1186 (by decide +kernel) rfl
theorem q_1187 : Cond.fieldLink RX11 64 "ReplayBoothModel" "memberOf" "[I" ∈ tblG := tblG_of 1187 (by decide +kernel) rfl
theorem q_1188 : Cond.fieldLink RX11 67 "ReplayBoothModel" "minute" "[I" ∈ tblG := tblG_of 1188 (by decide +kernel) rfl
theorem q_1189 : Cond.fieldLink RX11 70 "ReplayBoothModel" "kindOf" "[I" ∈ tblG := tblG_of 1189 (by decide +kernel) rfl
theorem q_1190 : Cond.fieldLink RX11 73 "ReplayBoothModel" "sideOf" "[I" ∈ tblG := tblG_of 1190 (by decide +kernel) rfl
theorem q_1191 : Cond.fieldLink RX11 76 "ReplayBoothModel" "points" "[I" ∈ tblG := tblG_of 1191 (by decide +kernel) rfl
theorem q_1192 : Cond.fieldLink RX11 79 "ReplayBoothModel" "called" "[I" ∈ tblG := tblG_of 1192 (by decide +kernel) rfl
theorem q_1193 : Cond.fieldLink RX11 82 "ReplayBoothModel" "frames" "[I" ∈ tblG := tblG_of 1193 (by decide +kernel) rfl
theorem q_1194 : Cond.fieldLink RX11 85 "ReplayBoothModel" "frameCamera" "[I" ∈ tblG := tblG_of 1194 (by decide +kernel) rfl
theorem q_1195 : Cond.fieldLink RX11 88 "ReplayBoothModel" "frameTick" "[I" ∈ tblG := tblG_of 1195 (by decide +kernel) rfl
theorem q_1196 : Cond.fieldLink RX11 91 "ReplayBoothModel" "there" "[I" ∈ tblG := tblG_of 1196 (by decide +kernel) rfl
theorem q_1197 : Cond.fieldLink RX11 94 "ReplayBoothModel" "notYet" "[I" ∈ tblG := tblG_of 1197 (by decide +kernel) rfl
theorem q_1198 : Cond.fieldLink RX11 97 "ReplayBoothModel" "s" "[I" ∈ tblG := tblG_of 1198 (by decide +kernel) rfl
theorem q_1199 : Cond.fieldLink RX11 100 "ReplayBoothModel" "undone" "[I" ∈ tblG := tblG_of 1199 (by decide +kernel) rfl
theorem q_1200 : Cond.fieldLink RX11 304 "ReplayBoothModel" "undos" "I" ∈ tblG := tblG_of 1200 (by decide +kernel) rfl
theorem q_1201 : Cond.fieldLink RX11 103 "ReplayBoothModel" "kept" "[I" ∈ tblG := tblG_of 1201 (by decide +kernel) rfl
theorem q_1202 : Cond.fieldLink RX11 106 "ReplayBoothModel" "isKept" "[Z" ∈ tblG := tblG_of 1202 (by decide +kernel) rfl
theorem q_1203 : Cond.fieldLink RX11 109 "ReplayBoothModel" "d" "[I" ∈ tblG := tblG_of 1203 (by decide +kernel) rfl
theorem q_1204 : Cond.fieldLink RX11 364 "ReplayBoothModel" "looked" "I" ∈ tblG := tblG_of 1204 (by decide +kernel) rfl
theorem q_1205 : Cond.fieldLink RX11 112 "ReplayBoothModel" "row" "[I" ∈ tblG := tblG_of 1205 (by decide +kernel) rfl
theorem q_1206 : Cond.fieldLink RX11 414 "ReplayBoothModel" "rowMany" "I" ∈ tblG := tblG_of 1206 (by decide +kernel) rfl
theorem q_1311 : Cond.methodLink RX11 126 yX11_puts ∈ tblG := tblG_of 1311 (by decide +kernel) rfl
theorem q_1313 : Cond.instanceMethod yX11_puts ∈ tblG := tblG_of 1313 (by decide +kernel) rfl
theorem q_1314 : Cond.code yX11_puts cX11_puts 3 none ∈ tblG := tblG_of 1314 (by decide +kernel) rfl
theorem q_1319 : Cond.methodLink RX11 156 yX11_within ∈ tblG := tblG_of 1319 (by decide +kernel) rfl
theorem q_1320 : Cond.static yX11_within ∈ tblG := tblG_of 1320 (by decide +kernel) rfl
theorem q_1321 : Cond.code yX11_within cX11_within 6 (some .boolean) ∈ tblG := tblG_of 1321 (by decide +kernel) rfl
theorem q_1322 : Cond.methodLink RX11 228 yX11_steps ∈ tblG := tblG_of 1322 (by decide +kernel) rfl
theorem q_1324 : Cond.instanceMethod yX11_steps ∈ tblG := tblG_of 1324 (by decide +kernel) rfl
theorem q_1325 : Cond.code yX11_steps cX11_steps 2 none ∈ tblG := tblG_of 1325 (by decide +kernel) rfl
theorem q_1326 : Cond.methodLink RX11 138 yX11_see ∈ tblG := tblG_of 1326 (by decide +kernel) rfl
theorem q_1328 : Cond.instanceMethod yX11_see ∈ tblG := tblG_of 1328 (by decide +kernel) rfl
theorem q_1329 : Cond.code yX11_see cX11_see 2 (some .int) ∈ tblG := tblG_of 1329 (by decide +kernel) rfl
theorem q_1330 : Cond.constantLong RX11 152 (97) ∈ tblG := tblG_of 1330 (by decide +kernel) rfl
theorem q_1331 : Cond.constantLong RX11 154 (122) ∈ tblG := tblG_of 1331 (by decide +kernel) rfl
theorem q_1332 : Cond.constantLong RX11 160 (96) ∈ tblG := tblG_of 1332 (by decide +kernel) rfl
theorem q_1333 : Cond.constantLong RX11 162 (48) ∈ tblG := tblG_of 1333 (by decide +kernel) rfl
theorem q_1334 : Cond.constantLong RX11 164 (57) ∈ tblG := tblG_of 1334 (by decide +kernel) rfl
theorem q_1335 : Cond.methodLink RX11 307 yX11_lineHere ∈ tblG := tblG_of 1335 (by decide +kernel) rfl
theorem q_1337 : Cond.instanceMethod yX11_lineHere ∈ tblG := tblG_of 1337 (by decide +kernel) rfl
theorem q_1338 : Cond.code yX11_lineHere cX11_lineHere 1 none ∈ tblG := tblG_of 1338 (by decide +kernel) rfl
theorem q_1340 : Cond.methodLink RX11 188 yX11_is ∈ tblG := tblG_of 1340 (by decide +kernel) rfl
theorem q_1342 : Cond.instanceMethod yX11_is ∈ tblG := tblG_of 1342 (by decide +kernel) rfl
theorem q_1343 : Cond.code yX11_is cX11_is 2 (some .boolean) ∈ tblG := tblG_of 1343 (by decide +kernel) rfl
theorem q_1344 : Cond.methodLink RX11 182 yX11_spelled ∈ tblG := tblG_of 1344 (by decide +kernel) rfl
theorem q_1345 : Cond.static yX11_spelled ∈ tblG := tblG_of 1345 (by decide +kernel) rfl
theorem q_1346 : Cond.code yX11_spelled cX11_spelled 4 (some .long) ∈ tblG := tblG_of 1346 (by decide +kernel) rfl
theorem q_1347 : Cond.methodLink RX11 172 yJ0_length_8abf5 ∈ tblG := tblG_of 1347 (by decide +kernel) rfl
theorem q_1348 : Cond.instanceMethod yJ0_length_8abf5 ∈ tblG := tblG_of 1348 (by decide +kernel) rfl
theorem q_1349 : Cond.selects RJ0 yJ0_length_8abf5 yJ0_length_8abf5 ∈ tblG := tblG_of 1349 (by decide +kernel) rfl
theorem q_1350 : Cond.code yJ0_length_8abf5 cJ0_length_8abf5 1 (some .int) ∈ tblG := tblG_of 1350 (by decide +kernel) rfl
theorem q_1351 : Cond.methodLink RJ0 335 yJ0_coder_7d493 ∈ tblG := tblG_of 1351 (by decide +kernel) rfl
theorem q_1352 : Cond.instanceMethod yJ0_coder_7d493 ∈ tblG := tblG_of 1352 (by decide +kernel) rfl
theorem q_1353 : Cond.selects RJ0 yJ0_coder_7d493 yJ0_coder_7d493 ∈ tblG := tblG_of 1353 (by decide +kernel) rfl
theorem q_1354 : Cond.code yJ0_coder_7d493 cJ0_coder_7d493 1 (some .byte) ∈ tblG := tblG_of 1354 (by decide +kernel) rfl
theorem q_1355 : Cond.fieldLink RJ0 38 "java/lang/String" "COMPACT_STRINGS" "Z" ∈ tblG := tblG_of 1355 (by decide +kernel) rfl
theorem q_1357 : Cond.methodLink RX11 178 yJ0_charAt_5068e ∈ tblG := tblG_of 1357 (by decide +kernel) rfl
theorem q_1358 : Cond.instanceMethod yJ0_charAt_5068e ∈ tblG := tblG_of 1358 (by decide +kernel) rfl
theorem q_1359 : Cond.selects RJ0 yJ0_charAt_5068e yJ0_charAt_5068e ∈ tblG := tblG_of 1359 (by decide +kernel) rfl
theorem q_1360 : Cond.code yJ0_charAt_5068e cJ0_charAt_5068e 2 (some .char) ∈ tblG := tblG_of 1360 (by decide +kernel) rfl
theorem q_1361 : Cond.methodLink RJ0 492 yJ0_isLatin1_aae02 ∈ tblG := tblG_of 1361 (by decide +kernel) rfl
theorem q_1362 : Cond.instanceMethod yJ0_isLatin1_aae02 ∈ tblG := tblG_of 1362 (by decide +kernel) rfl
theorem q_1363 : Cond.selects RJ0 yJ0_isLatin1_aae02 yJ0_isLatin1_aae02 ∈ tblG := tblG_of 1363 (by decide +kernel) rfl
theorem q_1364 : Cond.code yJ0_isLatin1_aae02 cJ0_isLatin1_aae02 1 (some .boolean) ∈ tblG := tblG_of 1364 (by decide +kernel) rfl
theorem q_1365 : Cond.methodLink RJ0 495 yJ1_charAt_3b067 ∈ tblG := tblG_of 1365 (by decide +kernel) rfl
theorem q_1366 : Cond.static yJ1_charAt_3b067 ∈ tblG := tblG_of 1366 (by decide +kernel) rfl
theorem q_1367 : Cond.code yJ1_charAt_3b067 cJ1_charAt_3b067 2 (some .char) ∈ tblG := tblG_of 1367 (by decide +kernel) rfl
theorem q_1368 : Cond.methodLink RJ1 9 yJ0_checkIndex_df160 ∈ tblG := tblG_of 1368 (by decide +kernel) rfl
theorem q_1369 : Cond.static yJ0_checkIndex_df160 ∈ tblG := tblG_of 1369 (by decide +kernel) rfl
theorem q_1370 : Cond.code yJ0_checkIndex_df160 cJ0_checkIndex_df160 2 none ∈ tblG := tblG_of 1370 (by decide +kernel) rfl
theorem q_1371 : Cond.fieldLink RJ0 1053 "jdk/internal/util/Preconditions" "SIOOBE_FORMATTER" "Ljava/util/function/BiFunction;" ∈ tblG := tblG_of 1371 (by decide +kernel) rfl
theorem q_1373 : Cond.methodLink RJ0 1059 yJ3_checkIndex_8e157 ∈ tblG := tblG_of 1373 (by decide +kernel) rfl
theorem q_1374 : Cond.static yJ3_checkIndex_8e157 ∈ tblG := tblG_of 1374 (by decide +kernel) rfl
theorem q_1375 : Cond.code yJ3_checkIndex_8e157 cJ3_checkIndex_8e157 3 (some .int) ∈ tblG := tblG_of 1375 (by decide +kernel) rfl
theorem q_1395 : Cond.methodLink RX11 273 yX11_begins ∈ tblG := tblG_of 1395 (by decide +kernel) rfl
theorem q_1397 : Cond.instanceMethod yX11_begins ∈ tblG := tblG_of 1397 (by decide +kernel) rfl
theorem q_1398 : Cond.code yX11_begins cX11_begins 3 (some .boolean) ∈ tblG := tblG_of 1398 (by decide +kernel) rfl
theorem q_1399 : Cond.methodLink RX11 231 yX11_read ∈ tblG := tblG_of 1399 (by decide +kernel) rfl
theorem q_1401 : Cond.instanceMethod yX11_read ∈ tblG := tblG_of 1401 (by decide +kernel) rfl
theorem q_1402 : Cond.code yX11_read cX11_read 2 (some .int) ∈ tblG := tblG_of 1402 (by decide +kernel) rfl
theorem q_1403 : Cond.methodLink RX11 224 yX11_must ∈ tblG := tblG_of 1403 (by decide +kernel) rfl
theorem q_1405 : Cond.instanceMethod yX11_must ∈ tblG := tblG_of 1405 (by decide +kernel) rfl
theorem q_1406 : Cond.code yX11_must cX11_must 3 (some .boolean) ∈ tblG := tblG_of 1406 (by decide +kernel) rfl
theorem q_1407 : Cond.methodLink RX11 276 yX11_cameraLine ∈ tblG := tblG_of 1407 (by decide +kernel) rfl
theorem q_1409 : Cond.instanceMethod yX11_cameraLine ∈ tblG := tblG_of 1409 (by decide +kernel) rfl
theorem q_1410 : Cond.code yX11_cameraLine cX11_cameraLine 2 none ∈ tblG := tblG_of 1410 (by decide +kernel) rfl
theorem q_1411 : Cond.methodLink RX11 243 yX11_newName ∈ tblG := tblG_of 1411 (by decide +kernel) rfl
theorem q_1413 : Cond.instanceMethod yX11_newName ∈ tblG := tblG_of 1413 (by decide +kernel) rfl
theorem q_1414 : Cond.code yX11_newName cX11_newName 4 none ∈ tblG := tblG_of 1414 (by decide +kernel) rfl
theorem q_1415 : Cond.methodLink RX11 234 yX11_isName ∈ tblG := tblG_of 1415 (by decide +kernel) rfl
theorem q_1417 : Cond.instanceMethod yX11_isName ∈ tblG := tblG_of 1417 (by decide +kernel) rfl
theorem q_1418 : Cond.code yX11_isName cX11_isName 1 (some .boolean) ∈ tblG := tblG_of 1418 (by decide +kernel) rfl
theorem q_1419 : Cond.methodLink RX11 220 yX11_isOwn ∈ tblG := tblG_of 1419 (by decide +kernel) rfl
theorem q_1421 : Cond.instanceMethod yX11_isOwn ∈ tblG := tblG_of 1421 (by decide +kernel) rfl
theorem q_1422 : Cond.code yX11_isOwn cX11_isOwn 2 (some .boolean) ∈ tblG := tblG_of 1422 (by decide +kernel) rfl
theorem q_1438 : Cond.methodLink RX11 237 yX11_named ∈ tblG := tblG_of 1438 (by decide +kernel) rfl
theorem q_1440 : Cond.instanceMethod yX11_named ∈ tblG := tblG_of 1440 (by decide +kernel) rfl
theorem q_1441 : Cond.code yX11_named cX11_named 3 (some .int) ∈ tblG := tblG_of 1441 (by decide +kernel) rfl
theorem q_1442 : Cond.methodLink RX11 246 yX11_number ∈ tblG := tblG_of 1442 (by decide +kernel) rfl
theorem q_1444 : Cond.instanceMethod yX11_number ∈ tblG := tblG_of 1444 (by decide +kernel) rfl
theorem q_1445 : Cond.code yX11_number cX11_number 4 (some .int) ∈ tblG := tblG_of 1445 (by decide +kernel) rfl
theorem q_1446 : Cond.methodLink RX11 279 yX11_flashLine ∈ tblG := tblG_of 1446 (by decide +kernel) rfl
theorem q_1448 : Cond.instanceMethod yX11_flashLine ∈ tblG := tblG_of 1448 (by decide +kernel) rfl
theorem q_1449 : Cond.code yX11_flashLine cX11_flashLine 2 none ∈ tblG := tblG_of 1449 (by decide +kernel) rfl
theorem q_1450 : Cond.methodLink RX11 250 yX11_known ∈ tblG := tblG_of 1450 (by decide +kernel) rfl
theorem q_1452 : Cond.instanceMethod yX11_known ∈ tblG := tblG_of 1452 (by decide +kernel) rfl
theorem q_1453 : Cond.code yX11_known cX11_known 3 (some .int) ∈ tblG := tblG_of 1453 (by decide +kernel) rfl
theorem q_1454 : Cond.methodLink RX11 240 yX11_looksUp ∈ tblG := tblG_of 1454 (by decide +kernel) rfl
theorem q_1456 : Cond.instanceMethod yX11_looksUp ∈ tblG := tblG_of 1456 (by decide +kernel) rfl
theorem q_1457 : Cond.code yX11_looksUp cX11_looksUp 2 (some .int) ∈ tblG := tblG_of 1457 (by decide +kernel) rfl
theorem q_1458 : Cond.methodLink RX11 282 yX11_sideLine ∈ tblG := tblG_of 1458 (by decide +kernel) rfl
theorem q_1460 : Cond.instanceMethod yX11_sideLine ∈ tblG := tblG_of 1460 (by decide +kernel) rfl
theorem q_1461 : Cond.code yX11_sideLine cX11_sideLine 1 none ∈ tblG := tblG_of 1461 (by decide +kernel) rfl
theorem q_1462 : Cond.methodLink RX11 285 yX11_kindLine ∈ tblG := tblG_of 1462 (by decide +kernel) rfl
theorem q_1464 : Cond.instanceMethod yX11_kindLine ∈ tblG := tblG_of 1464 (by decide +kernel) rfl
theorem q_1465 : Cond.code yX11_kindLine cX11_kindLine 2 none ∈ tblG := tblG_of 1465 (by decide +kernel) rfl
theorem q_1466 : Cond.methodLink RX11 257 yX11_maybe ∈ tblG := tblG_of 1466 (by decide +kernel) rfl
theorem q_1468 : Cond.instanceMethod yX11_maybe ∈ tblG := tblG_of 1468 (by decide +kernel) rfl
theorem q_1469 : Cond.code yX11_maybe cX11_maybe 3 (some .boolean) ∈ tblG := tblG_of 1469 (by decide +kernel) rfl
theorem q_1470 : Cond.methodLink RX11 260 yX11_pair ∈ tblG := tblG_of 1470 (by decide +kernel) rfl
theorem q_1472 : Cond.instanceMethod yX11_pair ∈ tblG := tblG_of 1472 (by decide +kernel) rfl
theorem q_1473 : Cond.code yX11_pair cX11_pair 3 none ∈ tblG := tblG_of 1473 (by decide +kernel) rfl
theorem q_1474 : Cond.methodLink RX11 253 yX11_takesWord ∈ tblG := tblG_of 1474 (by decide +kernel) rfl
theorem q_1476 : Cond.instanceMethod yX11_takesWord ∈ tblG := tblG_of 1476 (by decide +kernel) rfl
theorem q_1477 : Cond.code yX11_takesWord cX11_takesWord 2 none ∈ tblG := tblG_of 1477 (by decide +kernel) rfl
theorem q_1478 : Cond.methodLink RX11 288 yX11_boardLine ∈ tblG := tblG_of 1478 (by decide +kernel) rfl
theorem q_1480 : Cond.instanceMethod yX11_boardLine ∈ tblG := tblG_of 1480 (by decide +kernel) rfl
theorem q_1481 : Cond.code yX11_boardLine cX11_boardLine 2 none ∈ tblG := tblG_of 1481 (by decide +kernel) rfl
theorem q_1482 : Cond.methodLink RX11 263 yX11_member ∈ tblG := tblG_of 1482 (by decide +kernel) rfl
theorem q_1484 : Cond.instanceMethod yX11_member ∈ tblG := tblG_of 1484 (by decide +kernel) rfl
theorem q_1485 : Cond.code yX11_member cX11_member 2 (some .int) ∈ tblG := tblG_of 1485 (by decide +kernel) rfl
theorem q_1486 : Cond.methodLink RX11 291 yX11_playLine ∈ tblG := tblG_of 1486 (by decide +kernel) rfl
theorem q_1488 : Cond.instanceMethod yX11_playLine ∈ tblG := tblG_of 1488 (by decide +kernel) rfl
theorem q_1489 : Cond.code yX11_playLine cX11_playLine 2 none ∈ tblG := tblG_of 1489 (by decide +kernel) rfl
theorem q_1490 : Cond.methodLink RX11 270 yX11_readFrame ∈ tblG := tblG_of 1490 (by decide +kernel) rfl
theorem q_1492 : Cond.instanceMethod yX11_readFrame ∈ tblG := tblG_of 1492 (by decide +kernel) rfl
theorem q_1493 : Cond.code yX11_readFrame cX11_readFrame 5 none ∈ tblG := tblG_of 1493 (by decide +kernel) rfl
theorem q_1494 : Cond.methodLink RX11 266 yX11_has ∈ tblG := tblG_of 1494 (by decide +kernel) rfl
theorem q_1495 : Cond.static yX11_has ∈ tblG := tblG_of 1495 (by decide +kernel) rfl
theorem q_1496 : Cond.code yX11_has cX11_has 2 (some .boolean) ∈ tblG := tblG_of 1496 (by decide +kernel) rfl
theorem q_1497 : Cond.methodLink RX11 294 yX11_ruleLine ∈ tblG := tblG_of 1497 (by decide +kernel) rfl
theorem q_1499 : Cond.instanceMethod yX11_ruleLine ∈ tblG := tblG_of 1499 (by decide +kernel) rfl
theorem q_1500 : Cond.code yX11_ruleLine cX11_ruleLine 2 none ∈ tblG := tblG_of 1500 (by decide +kernel) rfl
theorem q_1501 : Cond.methodLink RX11 297 yX11_takes ∈ tblG := tblG_of 1501 (by decide +kernel) rfl
theorem q_1503 : Cond.instanceMethod yX11_takes ∈ tblG := tblG_of 1503 (by decide +kernel) rfl
theorem q_1504 : Cond.code yX11_takes cX11_takes 2 none ∈ tblG := tblG_of 1504 (by decide +kernel) rfl
theorem q_1505 : Cond.methodLink RX11 310 yX11_takesOver ∈ tblG := tblG_of 1505 (by decide +kernel) rfl
theorem q_1507 : Cond.instanceMethod yX11_takesOver ∈ tblG := tblG_of 1507 (by decide +kernel) rfl
theorem q_1508 : Cond.code yX11_takesOver cX11_takesOver 2 none ∈ tblG := tblG_of 1508 (by decide +kernel) rfl
theorem q_1509 : Cond.methodLink RX11 300 yX11_copies ∈ tblG := tblG_of 1509 (by decide +kernel) rfl
theorem q_1510 : Cond.static yX11_copies ∈ tblG := tblG_of 1510 (by decide +kernel) rfl
theorem q_1511 : Cond.code yX11_copies cX11_copies 2 none ∈ tblG := tblG_of 1511 (by decide +kernel) rfl
theorem q_1516 : Cond.constantLong RX11 334 (3) ∈ tblG := tblG_of 1516 (by decide +kernel) rfl
theorem q_1517 : Cond.methodLink RX11 318 yX11_laysClocks ∈ tblG := tblG_of 1517 (by decide +kernel) rfl
theorem q_1519 : Cond.instanceMethod yX11_laysClocks ∈ tblG := tblG_of 1519 (by decide +kernel) rfl
theorem q_1520 : Cond.code yX11_laysClocks cX11_laysClocks 5 none ∈ tblG := tblG_of 1520 (by decide +kernel) rfl
theorem q_1521 : Cond.constant RX11 313 (100000000) ∈ tblG := tblG_of 1521 (by decide +kernel) rfl
theorem q_1522 : Cond.methodLink RX11 314 yX11_atMost ∈ tblG := tblG_of 1522 (by decide +kernel) rfl
theorem q_1524 : Cond.instanceMethod yX11_atMost ∈ tblG := tblG_of 1524 (by decide +kernel) rfl
theorem q_1525 : Cond.code yX11_atMost cX11_atMost 4 none ∈ tblG := tblG_of 1525 (by decide +kernel) rfl
theorem q_1526 : Cond.methodLink RX11 325 yX11_closes ∈ tblG := tblG_of 1526 (by decide +kernel) rfl
theorem q_1528 : Cond.instanceMethod yX11_closes ∈ tblG := tblG_of 1528 (by decide +kernel) rfl
theorem q_1529 : Cond.code yX11_closes cX11_closes 4 (some .boolean) ∈ tblG := tblG_of 1529 (by decide +kernel) rfl
theorem q_1538 : Cond.methodLink RX11 336 yX11_isSide ∈ tblG := tblG_of 1538 (by decide +kernel) rfl
theorem q_1540 : Cond.instanceMethod yX11_isSide ∈ tblG := tblG_of 1540 (by decide +kernel) rfl
theorem q_1541 : Cond.code yX11_isSide cX11_isSide 2 (some .boolean) ∈ tblG := tblG_of 1541 (by decide +kernel) rfl
theorem q_1542 : Cond.methodLink RX11 340 yX11_pointsNow ∈ tblG := tblG_of 1542 (by decide +kernel) rfl
theorem q_1544 : Cond.instanceMethod yX11_pointsNow ∈ tblG := tblG_of 1544 (by decide +kernel) rfl
theorem q_1545 : Cond.code yX11_pointsNow cX11_pointsNow 4 (some .int) ∈ tblG := tblG_of 1545 (by decide +kernel) rfl
theorem q_1550 : Cond.methodLink RX11 343 yX11_isPlay ∈ tblG := tblG_of 1550 (by decide +kernel) rfl
theorem q_1552 : Cond.instanceMethod yX11_isPlay ∈ tblG := tblG_of 1552 (by decide +kernel) rfl
theorem q_1553 : Cond.code yX11_isPlay cX11_isPlay 2 (some .boolean) ∈ tblG := tblG_of 1553 (by decide +kernel) rfl
theorem q_1562 : Cond.methodLink RX11 331 yX11_verdictOf ∈ tblG := tblG_of 1562 (by decide +kernel) rfl
theorem q_1564 : Cond.instanceMethod yX11_verdictOf ∈ tblG := tblG_of 1564 (by decide +kernel) rfl
theorem q_1565 : Cond.code yX11_verdictOf cX11_verdictOf 6 (some .int) ∈ tblG := tblG_of 1565 (by decide +kernel) rfl
theorem q_1566 : Cond.methodLink RX11 321 yX11_laysFrames ∈ tblG := tblG_of 1566 (by decide +kernel) rfl
theorem q_1568 : Cond.instanceMethod yX11_laysFrames ∈ tblG := tblG_of 1568 (by decide +kernel) rfl
theorem q_1569 : Cond.code yX11_laysFrames cX11_laysFrames 7 none ∈ tblG := tblG_of 1569 (by decide +kernel) rfl
theorem q_1574 : Cond.methodLink RX11 346 yX11_framesOf ∈ tblG := tblG_of 1574 (by decide +kernel) rfl
theorem q_1576 : Cond.instanceMethod yX11_framesOf ∈ tblG := tblG_of 1576 (by decide +kernel) rfl
theorem q_1577 : Cond.code yX11_framesOf cX11_framesOf 5 (some .int) ∈ tblG := tblG_of 1577 (by decide +kernel) rfl
theorem q_1582 : Cond.constant RX11 349 (3000000) ∈ tblG := tblG_of 1582 (by decide +kernel) rfl
theorem q_1583 : Cond.methodLink RX11 328 yX11_allFrames ∈ tblG := tblG_of 1583 (by decide +kernel) rfl
theorem q_1585 : Cond.instanceMethod yX11_allFrames ∈ tblG := tblG_of 1585 (by decide +kernel) rfl
theorem q_1586 : Cond.code yX11_allFrames cX11_allFrames 2 (some .int) ∈ tblG := tblG_of 1586 (by decide +kernel) rfl
theorem q_1587 : Cond.constant RX11 350 (2000000) ∈ tblG := tblG_of 1587 (by decide +kernel) rfl
theorem q_1588 : Cond.constant RX11 351 (1000000) ∈ tblG := tblG_of 1588 (by decide +kernel) rfl
theorem q_1593 : Cond.methodLink RX11 355 yX11_byAll ∈ tblG := tblG_of 1593 (by decide +kernel) rfl
theorem q_1595 : Cond.instanceMethod yX11_byAll ∈ tblG := tblG_of 1595 (by decide +kernel) rfl
theorem q_1596 : Cond.code yX11_byAll cX11_byAll 2 (some .int) ∈ tblG := tblG_of 1596 (by decide +kernel) rfl
theorem q_1597 : Cond.methodLink RX11 358 yX11_isSure ∈ tblG := tblG_of 1597 (by decide +kernel) rfl
theorem q_1598 : Cond.static yX11_isSure ∈ tblG := tblG_of 1598 (by decide +kernel) rfl
theorem q_1599 : Cond.code yX11_isSure cX11_isSure 1 (some .boolean) ∈ tblG := tblG_of 1599 (by decide +kernel) rfl
theorem q_1600 : Cond.methodLink RX11 361 yX11_isFewer ∈ tblG := tblG_of 1600 (by decide +kernel) rfl
theorem q_1601 : Cond.static yX11_isFewer ∈ tblG := tblG_of 1601 (by decide +kernel) rfl
theorem q_1602 : Cond.code yX11_isFewer cX11_isFewer 2 (some .boolean) ∈ tblG := tblG_of 1602 (by decide +kernel) rfl
theorem q_1603 : Cond.methodLink RX11 352 yX11_bits ∈ tblG := tblG_of 1603 (by decide +kernel) rfl
theorem q_1604 : Cond.static yX11_bits ∈ tblG := tblG_of 1604 (by decide +kernel) rfl
theorem q_1605 : Cond.code yX11_bits cX11_bits 3 (some .int) ∈ tblG := tblG_of 1605 (by decide +kernel) rfl
theorem q_1622 : Cond.constantLong RX11 367 (2) ∈ tblG := tblG_of 1622 (by decide +kernel) rfl
theorem q_1623 : Cond.methodLink RX11 369 yX11_callOf ∈ tblG := tblG_of 1623 (by decide +kernel) rfl
theorem q_1625 : Cond.instanceMethod yX11_callOf ∈ tblG := tblG_of 1625 (by decide +kernel) rfl
theorem q_1626 : Cond.code yX11_callOf cX11_callOf 2 (some .int) ∈ tblG := tblG_of 1626 (by decide +kernel) rfl
theorem q_1627 : Cond.methodLink RX11 372 yX11_review ∈ tblG := tblG_of 1627 (by decide +kernel) rfl
theorem q_1629 : Cond.instanceMethod yX11_review ∈ tblG := tblG_of 1629 (by decide +kernel) rfl
theorem q_1630 : Cond.code yX11_review cX11_review 4 (some .int) ∈ tblG := tblG_of 1630 (by decide +kernel) rfl
theorem q_1631 : Cond.methodLink RX11 375 yX11_secondsOf ∈ tblG := tblG_of 1631 (by decide +kernel) rfl
theorem q_1633 : Cond.instanceMethod yX11_secondsOf ∈ tblG := tblG_of 1633 (by decide +kernel) rfl
theorem q_1634 : Cond.code yX11_secondsOf cX11_secondsOf 2 (some .int) ∈ tblG := tblG_of 1634 (by decide +kernel) rfl
theorem q_1639 : Cond.methodLink RX11 385 yX11_keeps ∈ tblG := tblG_of 1639 (by decide +kernel) rfl
theorem q_1641 : Cond.instanceMethod yX11_keeps ∈ tblG := tblG_of 1641 (by decide +kernel) rfl
theorem q_1642 : Cond.code yX11_keeps cX11_keeps 2 none ∈ tblG := tblG_of 1642 (by decide +kernel) rfl
theorem q_1643 : Cond.methodLink RX11 388 yX11_isAtOnce ∈ tblG := tblG_of 1643 (by decide +kernel) rfl
theorem q_1645 : Cond.instanceMethod yX11_isAtOnce ∈ tblG := tblG_of 1645 (by decide +kernel) rfl
theorem q_1646 : Cond.code yX11_isAtOnce cX11_isAtOnce 2 (some .boolean) ∈ tblG := tblG_of 1646 (by decide +kernel) rfl
theorem q_1647 : Cond.methodLink RX11 391 yX11_reviewed ∈ tblG := tblG_of 1647 (by decide +kernel) rfl
theorem q_1649 : Cond.instanceMethod yX11_reviewed ∈ tblG := tblG_of 1649 (by decide +kernel) rfl
theorem q_1650 : Cond.code yX11_reviewed cX11_reviewed 4 (some .int) ∈ tblG := tblG_of 1650 (by decide +kernel) rfl
theorem q_1651 : Cond.methodLink RX11 378 yX11_logs ∈ tblG := tblG_of 1651 (by decide +kernel) rfl
theorem q_1653 : Cond.instanceMethod yX11_logs ∈ tblG := tblG_of 1653 (by decide +kernel) rfl
theorem q_1654 : Cond.code yX11_logs cX11_logs 6 none ∈ tblG := tblG_of 1654 (by decide +kernel) rfl
theorem q_1655 : Cond.methodLink RX11 382 yX11_forgets ∈ tblG := tblG_of 1655 (by decide +kernel) rfl
theorem q_1657 : Cond.instanceMethod yX11_forgets ∈ tblG := tblG_of 1657 (by decide +kernel) rfl
theorem q_1658 : Cond.code yX11_forgets cX11_forgets 3 none ∈ tblG := tblG_of 1658 (by decide +kernel) rfl
theorem q_1663 : Cond.methodLink RX11 394 yX11_gains ∈ tblG := tblG_of 1663 (by decide +kernel) rfl
theorem q_1665 : Cond.instanceMethod yX11_gains ∈ tblG := tblG_of 1665 (by decide +kernel) rfl
theorem q_1666 : Cond.code yX11_gains cX11_gains 2 none ∈ tblG := tblG_of 1666 (by decide +kernel) rfl
theorem q_1671 : Cond.methodLink RX11 397 yX11_isBoard ∈ tblG := tblG_of 1671 (by decide +kernel) rfl
theorem q_1673 : Cond.instanceMethod yX11_isBoard ∈ tblG := tblG_of 1673 (by decide +kernel) rfl
theorem q_1674 : Cond.code yX11_isBoard cX11_isBoard 2 (some .boolean) ∈ tblG := tblG_of 1674 (by decide +kernel) rfl
theorem q_1675 : Cond.methodLink RX11 400 yX11_against ∈ tblG := tblG_of 1675 (by decide +kernel) rfl
theorem q_1677 : Cond.instanceMethod yX11_against ∈ tblG := tblG_of 1677 (by decide +kernel) rfl
theorem q_1678 : Cond.code yX11_against cX11_against 7 (some .int) ∈ tblG := tblG_of 1678 (by decide +kernel) rfl
theorem q_1695 : Cond.methodLink RX11 403 yX11_trueCall ∈ tblG := tblG_of 1695 (by decide +kernel) rfl
theorem q_1697 : Cond.instanceMethod yX11_trueCall ∈ tblG := tblG_of 1697 (by decide +kernel) rfl
theorem q_1698 : Cond.code yX11_trueCall cX11_trueCall 4 (some .int) ∈ tblG := tblG_of 1698 (by decide +kernel) rfl
theorem q_1715 : Cond.methodLink RX11 406 yX11_isEnough ∈ tblG := tblG_of 1715 (by decide +kernel) rfl
theorem q_1717 : Cond.instanceMethod yX11_isEnough ∈ tblG := tblG_of 1717 (by decide +kernel) rfl
theorem q_1718 : Cond.code yX11_isEnough cX11_isEnough 6 (some .boolean) ∈ tblG := tblG_of 1718 (by decide +kernel) rfl
theorem q_1723 : Cond.constantLong RX11 409 (999) ∈ tblG := tblG_of 1723 (by decide +kernel) rfl
theorem q_1724 : Cond.methodLink RX11 411 yX11_timeOf ∈ tblG := tblG_of 1724 (by decide +kernel) rfl
theorem q_1726 : Cond.instanceMethod yX11_timeOf ∈ tblG := tblG_of 1726 (by decide +kernel) rfl
theorem q_1727 : Cond.code yX11_timeOf cX11_timeOf 4 (some .int) ∈ tblG := tblG_of 1727 (by decide +kernel) rfl
theorem q_1771 : Cond.fieldLink RX8 112 "ReplayBooth$Token" "code" "I" ∈ tblG := tblG_of 1771 (by decide +kernel) rfl
theorem q_1772 : Cond.fieldLink RJx29ce0 7 "java/lang/Enum" "ordinal" "I" ∈ tblG := tblG_of 1772 (by decide +kernel) rfl
theorem q_1773 : Cond.fieldLink RJ0 9 "java/lang/String" "value" "[B" ∈ tblG := tblG_of 1773 (by decide +kernel) rfl
theorem q_1774 : Cond.fieldLink RJ0 15 "java/lang/String" "coder" "B" ∈ tblG := tblG_of 1774 (by decide +kernel) rfl
theorem inG_X1 : ∀ w ∈ wsX10, w ∈ tblG := fun w hw => List.mem_filter.mpr ⟨(by decide +kernel : ∀ w ∈ wsX10, w ∈ lw_tbl) w hw, (by decide +kernel : ∀ w ∈ wsX10, goodWord w = true) w hw⟩
theorem inG_X2 : ∀ w ∈ wsX20, w ∈ tblG := fun w hw => List.mem_filter.mpr ⟨(by decide +kernel : ∀ w ∈ wsX20, w ∈ lw_tbl) w hw, (by decide +kernel : ∀ w ∈ wsX20, goodWord w = true) w hw⟩
theorem inG_X3 : ∀ w ∈ wsX30, w ∈ tblG := fun w hw => List.mem_filter.mpr ⟨(by decide +kernel : ∀ w ∈ wsX30, w ∈ lw_tbl) w hw, (by decide +kernel : ∀ w ∈ wsX30, goodWord w = true) w hw⟩
theorem inG_X4 : ∀ w ∈ wsX40, w ∈ tblG := fun w hw => List.mem_filter.mpr ⟨(by decide +kernel : ∀ w ∈ wsX40, w ∈ lw_tbl) w hw, (by decide +kernel : ∀ w ∈ wsX40, goodWord w = true) w hw⟩
theorem inG_X5 : ∀ w ∈ wsX50, w ∈ tblG := fun w hw => List.mem_filter.mpr ⟨(by decide +kernel : ∀ w ∈ wsX50, w ∈ lw_tbl) w hw, (by decide +kernel : ∀ w ∈ wsX50, goodWord w = true) w hw⟩
theorem inG_X6 : ∀ w ∈ wsX60, w ∈ tblG := fun w hw => List.mem_filter.mpr ⟨(by decide +kernel : ∀ w ∈ wsX60, w ∈ lw_tbl) w hw, (by decide +kernel : ∀ w ∈ wsX60, goodWord w = true) w hw⟩
theorem inG_X7 : ∀ w ∈ wsX70, w ∈ tblG := fun w hw => List.mem_filter.mpr ⟨(by decide +kernel : ∀ w ∈ wsX70, w ∈ lw_tbl) w hw, (by decide +kernel : ∀ w ∈ wsX70, goodWord w = true) w hw⟩
theorem inG_X9 : ∀ w ∈ wsX90, w ∈ tblG := fun w hw => List.mem_filter.mpr ⟨(by decide +kernel : ∀ w ∈ wsX90, w ∈ lw_tbl) w hw, (by decide +kernel : ∀ w ∈ wsX90, goodWord w = true) w hw⟩
theorem inG_X10 : ∀ w ∈ wsX100, w ∈ tblG := fun w hw => List.mem_filter.mpr ⟨(by decide +kernel : ∀ w ∈ wsX100, w ∈ lw_tbl) w hw, (by decide +kernel : ∀ w ∈ wsX100, goodWord w = true) w hw⟩
theorem inG_X11 : ∀ w ∈ wsX110, w ∈ tblG := fun w hw => List.mem_filter.mpr ⟨(by decide +kernel : ∀ w ∈ wsX110, w ∈ lw_tbl) w hw, (by decide +kernel : ∀ w ∈ wsX110, goodWord w = true) w hw⟩
theorem ff_X1_0 : FF 0 0 0 "ReplayBooth$Board" "need" "I" false := ⟨RX1, TX1, 3, tyX1, rfl, inG_X1, by decide, by decide +kernel, rfl, tyX1_ok, nmX1, by decide +kernel⟩
theorem ff_X1_1 : FF 0 1 0 "ReplayBooth$Board" "members" "I" false := ⟨RX1, TX1, 3, tyX1, rfl, inG_X1, by decide, by decide +kernel, rfl, tyX1_ok, nmX1, by decide +kernel⟩
theorem ff_X1_2 : FF 0 2 2 "ReplayBooth$Board" "cameras" "[I" true := ⟨RX1, TX1, 3, tyX1, rfl, inG_X1, by decide, by decide +kernel, rfl, tyX1_ok, nmX1, by decide +kernel⟩
theorem ff_X10_0 : FF 8 0 2 "ReplayBooth" "tape" "[B" true := ⟨RX10, TX10, 14, tyX10, rfl, inG_X10, by decide, by decide +kernel, rfl, tyX10_ok, nmX10, by decide +kernel⟩
theorem ff_X10_1 : FF 8 1 0 "ReplayBooth" "taped" "I" false := ⟨RX10, TX10, 14, tyX10, rfl, inG_X10, by decide, by decide +kernel, rfl, tyX10_ok, nmX10, by decide +kernel⟩
theorem ff_X10_2 : FF 8 2 2 "ReplayBooth" "told" "LReplayBooth$Told;" false := ⟨RX10, TX10, 14, tyX10, rfl, inG_X10, by decide, by decide +kernel, rfl, tyX10_ok, nmX10, by decide +kernel⟩
theorem ff_X10_3 : FF 8 3 2 "ReplayBooth" "spare" "LReplayBooth$Told;" false := ⟨RX10, TX10, 14, tyX10, rfl, inG_X10, by decide, by decide +kernel, rfl, tyX10_ok, nmX10, by decide +kernel⟩
theorem ff_X10_4 : FF 8 4 2 "ReplayBooth" "reader" "LReplayBooth$Reader;" true := ⟨RX10, TX10, 14, tyX10, rfl, inG_X10, by decide, by decide +kernel, rfl, tyX10_ok, nmX10, by decide +kernel⟩
theorem ff_X10_5 : FF 8 5 2 "ReplayBooth" "judge" "LReplayBooth$Judge;" true := ⟨RX10, TX10, 14, tyX10, rfl, inG_X10, by decide, by decide +kernel, rfl, tyX10_ok, nmX10, by decide +kernel⟩
theorem ff_X10_6 : FF 8 6 2 "ReplayBooth" "day" "LReplayBooth$Day;" true := ⟨RX10, TX10, 14, tyX10, rfl, inG_X10, by decide, by decide +kernel, rfl, tyX10_ok, nmX10, by decide +kernel⟩
theorem ff_X10_7 : FF 8 7 2 "ReplayBooth" "ahead" "[LReplayBooth$Day;" true := ⟨RX10, TX10, 14, tyX10, rfl, inG_X10, by decide, by decide +kernel, rfl, tyX10_ok, nmX10, by decide +kernel⟩
theorem ff_X10_8 : FF 8 8 0 "ReplayBooth" "aheadNext" "I" false := ⟨RX10, TX10, 14, tyX10, rfl, inG_X10, by decide, by decide +kernel, rfl, tyX10_ok, nmX10, by decide +kernel⟩
theorem ff_X10_9 : FF 8 9 0 "ReplayBooth" "acts" "I" false := ⟨RX10, TX10, 14, tyX10, rfl, inG_X10, by decide, by decide +kernel, rfl, tyX10_ok, nmX10, by decide +kernel⟩
theorem ff_X10_10 : FF 8 10 2 "ReplayBooth" "kept" "[LReplayBooth$Day;" true := ⟨RX10, TX10, 14, tyX10, rfl, inG_X10, by decide, by decide +kernel, rfl, tyX10_ok, nmX10, by decide +kernel⟩
theorem ff_X10_11 : FF 8 11 2 "ReplayBooth" "isKept" "[Z" true := ⟨RX10, TX10, 14, tyX10, rfl, inG_X10, by decide, by decide +kernel, rfl, tyX10_ok, nmX10, by decide +kernel⟩
theorem ff_X10_12 : FF 8 12 2 "ReplayBooth" "row" "[I" true := ⟨RX10, TX10, 14, tyX10, rfl, inG_X10, by decide, by decide +kernel, rfl, tyX10_ok, nmX10, by decide +kernel⟩
theorem ff_X10_13 : FF 8 13 0 "ReplayBooth" "rows" "I" false := ⟨RX10, TX10, 14, tyX10, rfl, inG_X10, by decide, by decide +kernel, rfl, tyX10_ok, nmX10, by decide +kernel⟩
theorem ff_X11_0 : FF 9 0 0 "ReplayBoothModel" "thrown" "I" false := ⟨RX11, TX11, 47, tyX11, rfl, inG_X11, by decide, by decide +kernel, rfl, tyX11_ok, nmX11, by decide +kernel⟩
theorem ff_X11_1 : FF 9 1 2 "ReplayBoothModel" "tape" "[B" true := ⟨RX11, TX11, 47, tyX11, rfl, inG_X11, by decide, by decide +kernel, rfl, tyX11_ok, nmX11, by decide +kernel⟩
theorem ff_X11_2 : FF 9 2 0 "ReplayBoothModel" "taped" "I" false := ⟨RX11, TX11, 47, tyX11, rfl, inG_X11, by decide, by decide +kernel, rfl, tyX11_ok, nmX11, by decide +kernel⟩
theorem ff_X11_3 : FF 9 3 0 "ReplayBoothModel" "size" "I" false := ⟨RX11, TX11, 47, tyX11, rfl, inG_X11, by decide, by decide +kernel, rfl, tyX11_ok, nmX11, by decide +kernel⟩
theorem ff_X11_4 : FF 9 4 0 "ReplayBoothModel" "from" "I" false := ⟨RX11, TX11, 47, tyX11, rfl, inG_X11, by decide, by decide +kernel, rfl, tyX11_ok, nmX11, by decide +kernel⟩
theorem ff_X11_5 : FF 9 5 0 "ReplayBoothModel" "to" "I" false := ⟨RX11, TX11, 47, tyX11, rfl, inG_X11, by decide, by decide +kernel, rfl, tyX11_ok, nmX11, by decide +kernel⟩
theorem ff_X11_6 : FF 9 6 0 "ReplayBoothModel" "token" "I" false := ⟨RX11, TX11, 47, tyX11, rfl, inG_X11, by decide, by decide +kernel, rfl, tyX11_ok, nmX11, by decide +kernel⟩
theorem ff_X11_7 : FF 9 7 0 "ReplayBoothModel" "value" "I" false := ⟨RX11, TX11, 47, tyX11, rfl, inG_X11, by decide, by decide +kernel, rfl, tyX11_ok, nmX11, by decide +kernel⟩
theorem ff_X11_8 : FF 9 8 1 "ReplayBoothModel" "word" "J" false := ⟨RX11, TX11, 47, tyX11, rfl, inG_X11, by decide, by decide +kernel, rfl, tyX11_ok, nmX11, by decide +kernel⟩
theorem ff_X11_9 : FF 9 9 0 "ReplayBoothModel" "fault" "I" false := ⟨RX11, TX11, 47, tyX11, rfl, inG_X11, by decide, by decide +kernel, rfl, tyX11_ok, nmX11, by decide +kernel⟩
theorem ff_X11_10 : FF 9 10 0 "ReplayBoothModel" "faultPlace" "I" false := ⟨RX11, TX11, 47, tyX11, rfl, inG_X11, by decide, by decide +kernel, rfl, tyX11_ok, nmX11, by decide +kernel⟩
theorem ff_X11_11 : FF 9 11 2 "ReplayBoothModel" "many" "[I" true := ⟨RX11, TX11, 47, tyX11, rfl, inG_X11, by decide, by decide +kernel, rfl, tyX11_ok, nmX11, by decide +kernel⟩
theorem ff_X11_12 : FF 9 12 2 "ReplayBoothModel" "rules" "[I" true := ⟨RX11, TX11, 47, tyX11, rfl, inG_X11, by decide, by decide +kernel, rfl, tyX11_ok, nmX11, by decide +kernel⟩
theorem ff_X11_13 : FF 9 13 2 "ReplayBoothModel" "ruled" "[Z" true := ⟨RX11, TX11, 47, tyX11, rfl, inG_X11, by decide, by decide +kernel, rfl, tyX11_ok, nmX11, by decide +kernel⟩
theorem ff_X11_14 : FF 9 14 2 "ReplayBoothModel" "names" "[J" true := ⟨RX11, TX11, 47, tyX11, rfl, inG_X11, by decide, by decide +kernel, rfl, tyX11_ok, nmX11, by decide +kernel⟩
theorem ff_X11_15 : FF 9 15 2 "ReplayBoothModel" "lateLeast" "[I" true := ⟨RX11, TX11, 47, tyX11, rfl, inG_X11, by decide, by decide +kernel, rfl, tyX11_ok, nmX11, by decide +kernel⟩
theorem ff_X11_16 : FF 9 16 2 "ReplayBoothModel" "lateMost" "[I" true := ⟨RX11, TX11, 47, tyX11, rfl, inG_X11, by decide, by decide +kernel, rfl, tyX11_ok, nmX11, by decide +kernel⟩
theorem ff_X11_17 : FF 9 17 2 "ReplayBoothModel" "flashes" "[I" true := ⟨RX11, TX11, 47, tyX11, rfl, inG_X11, by decide, by decide +kernel, rfl, tyX11_ok, nmX11, by decide +kernel⟩
theorem ff_X11_18 : FF 9 18 2 "ReplayBoothModel" "challenges" "[I" true := ⟨RX11, TX11, 47, tyX11, rfl, inG_X11, by decide, by decide +kernel, rfl, tyX11_ok, nmX11, by decide +kernel⟩
theorem ff_X11_19 : FF 9 19 2 "ReplayBoothModel" "seconds" "[I" true := ⟨RX11, TX11, 47, tyX11, rfl, inG_X11, by decide, by decide +kernel, rfl, tyX11_ok, nmX11, by decide +kernel⟩
theorem ff_X11_20 : FF 9 20 2 "ReplayBoothModel" "forced" "[Z" true := ⟨RX11, TX11, 47, tyX11, rfl, inG_X11, by decide, by decide +kernel, rfl, tyX11_ok, nmX11, by decide +kernel⟩
theorem ff_X11_21 : FF 9 21 2 "ReplayBoothModel" "again" "[Z" true := ⟨RX11, TX11, 47, tyX11, rfl, inG_X11, by decide, by decide +kernel, rfl, tyX11_ok, nmX11, by decide +kernel⟩
theorem ff_X11_22 : FF 9 22 2 "ReplayBoothModel" "pairs" "[I" true := ⟨RX11, TX11, 47, tyX11, rfl, inG_X11, by decide, by decide +kernel, rfl, tyX11_ok, nmX11, by decide +kernel⟩
theorem ff_X11_23 : FF 9 23 2 "ReplayBoothModel" "firstMark" "[I" true := ⟨RX11, TX11, 47, tyX11, rfl, inG_X11, by decide, by decide +kernel, rfl, tyX11_ok, nmX11, by decide +kernel⟩
theorem ff_X11_24 : FF 9 24 2 "ReplayBoothModel" "secondMark" "[I" true := ⟨RX11, TX11, 47, tyX11, rfl, inG_X11, by decide, by decide +kernel, rfl, tyX11_ok, nmX11, by decide +kernel⟩
theorem ff_X11_25 : FF 9 25 2 "ReplayBoothModel" "needs" "[I" true := ⟨RX11, TX11, 47, tyX11, rfl, inG_X11, by decide, by decide +kernel, rfl, tyX11_ok, nmX11, by decide +kernel⟩
theorem ff_X11_26 : FF 9 26 2 "ReplayBoothModel" "members" "[I" true := ⟨RX11, TX11, 47, tyX11, rfl, inG_X11, by decide, by decide +kernel, rfl, tyX11_ok, nmX11, by decide +kernel⟩
theorem ff_X11_27 : FF 9 27 2 "ReplayBoothModel" "memberOf" "[I" true := ⟨RX11, TX11, 47, tyX11, rfl, inG_X11, by decide, by decide +kernel, rfl, tyX11_ok, nmX11, by decide +kernel⟩
theorem ff_X11_28 : FF 9 28 2 "ReplayBoothModel" "minute" "[I" true := ⟨RX11, TX11, 47, tyX11, rfl, inG_X11, by decide, by decide +kernel, rfl, tyX11_ok, nmX11, by decide +kernel⟩
theorem ff_X11_29 : FF 9 29 2 "ReplayBoothModel" "kindOf" "[I" true := ⟨RX11, TX11, 47, tyX11, rfl, inG_X11, by decide, by decide +kernel, rfl, tyX11_ok, nmX11, by decide +kernel⟩
theorem ff_X11_30 : FF 9 30 2 "ReplayBoothModel" "sideOf" "[I" true := ⟨RX11, TX11, 47, tyX11, rfl, inG_X11, by decide, by decide +kernel, rfl, tyX11_ok, nmX11, by decide +kernel⟩
theorem ff_X11_31 : FF 9 31 2 "ReplayBoothModel" "points" "[I" true := ⟨RX11, TX11, 47, tyX11, rfl, inG_X11, by decide, by decide +kernel, rfl, tyX11_ok, nmX11, by decide +kernel⟩
theorem ff_X11_32 : FF 9 32 2 "ReplayBoothModel" "called" "[I" true := ⟨RX11, TX11, 47, tyX11, rfl, inG_X11, by decide, by decide +kernel, rfl, tyX11_ok, nmX11, by decide +kernel⟩
theorem ff_X11_33 : FF 9 33 2 "ReplayBoothModel" "frames" "[I" true := ⟨RX11, TX11, 47, tyX11, rfl, inG_X11, by decide, by decide +kernel, rfl, tyX11_ok, nmX11, by decide +kernel⟩
theorem ff_X11_34 : FF 9 34 2 "ReplayBoothModel" "frameCamera" "[I" true := ⟨RX11, TX11, 47, tyX11, rfl, inG_X11, by decide, by decide +kernel, rfl, tyX11_ok, nmX11, by decide +kernel⟩
theorem ff_X11_35 : FF 9 35 2 "ReplayBoothModel" "frameTick" "[I" true := ⟨RX11, TX11, 47, tyX11, rfl, inG_X11, by decide, by decide +kernel, rfl, tyX11_ok, nmX11, by decide +kernel⟩
theorem ff_X11_36 : FF 9 36 2 "ReplayBoothModel" "there" "[I" true := ⟨RX11, TX11, 47, tyX11, rfl, inG_X11, by decide, by decide +kernel, rfl, tyX11_ok, nmX11, by decide +kernel⟩
theorem ff_X11_37 : FF 9 37 2 "ReplayBoothModel" "notYet" "[I" true := ⟨RX11, TX11, 47, tyX11, rfl, inG_X11, by decide, by decide +kernel, rfl, tyX11_ok, nmX11, by decide +kernel⟩
theorem ff_X11_38 : FF 9 38 2 "ReplayBoothModel" "s" "[I" true := ⟨RX11, TX11, 47, tyX11, rfl, inG_X11, by decide, by decide +kernel, rfl, tyX11_ok, nmX11, by decide +kernel⟩
theorem ff_X11_39 : FF 9 39 2 "ReplayBoothModel" "undone" "[I" true := ⟨RX11, TX11, 47, tyX11, rfl, inG_X11, by decide, by decide +kernel, rfl, tyX11_ok, nmX11, by decide +kernel⟩
theorem ff_X11_40 : FF 9 40 0 "ReplayBoothModel" "undos" "I" false := ⟨RX11, TX11, 47, tyX11, rfl, inG_X11, by decide, by decide +kernel, rfl, tyX11_ok, nmX11, by decide +kernel⟩
theorem ff_X11_41 : FF 9 41 2 "ReplayBoothModel" "kept" "[I" true := ⟨RX11, TX11, 47, tyX11, rfl, inG_X11, by decide, by decide +kernel, rfl, tyX11_ok, nmX11, by decide +kernel⟩
theorem ff_X11_42 : FF 9 42 2 "ReplayBoothModel" "isKept" "[Z" true := ⟨RX11, TX11, 47, tyX11, rfl, inG_X11, by decide, by decide +kernel, rfl, tyX11_ok, nmX11, by decide +kernel⟩
theorem ff_X11_43 : FF 9 43 2 "ReplayBoothModel" "d" "[I" true := ⟨RX11, TX11, 47, tyX11, rfl, inG_X11, by decide, by decide +kernel, rfl, tyX11_ok, nmX11, by decide +kernel⟩
theorem ff_X11_44 : FF 9 44 0 "ReplayBoothModel" "looked" "I" false := ⟨RX11, TX11, 47, tyX11, rfl, inG_X11, by decide, by decide +kernel, rfl, tyX11_ok, nmX11, by decide +kernel⟩
theorem ff_X11_45 : FF 9 45 2 "ReplayBoothModel" "row" "[I" true := ⟨RX11, TX11, 47, tyX11, rfl, inG_X11, by decide, by decide +kernel, rfl, tyX11_ok, nmX11, by decide +kernel⟩
theorem ff_X11_46 : FF 9 46 0 "ReplayBoothModel" "rowMany" "I" false := ⟨RX11, TX11, 47, tyX11, rfl, inG_X11, by decide, by decide +kernel, rfl, tyX11_ok, nmX11, by decide +kernel⟩
theorem ff_X2_0 : FF 1 0 2 "ReplayBooth$Bounds" "most" "[I" true := ⟨RX2, TX2, 2, tyX2, rfl, inG_X2, by decide, by decide +kernel, rfl, tyX2_ok, nmX2, by decide +kernel⟩
theorem ff_X2_1 : FF 1 1 0 "ReplayBooth$Bounds" "torn" "Z" false := ⟨RX2, TX2, 2, tyX2, rfl, inG_X2, by decide, by decide +kernel, rfl, tyX2_ok, nmX2, by decide +kernel⟩
theorem ff_X3_0 : FF 2 0 0 "ReplayBooth$Day" "happened" "I" false := ⟨RX3, TX3, 10, tyX3, rfl, inG_X3, by decide, by decide +kernel, rfl, tyX3_ok, nmX3, by decide +kernel⟩
theorem ff_X3_1 : FF 2 1 0 "ReplayBooth$Day" "yes" "I" false := ⟨RX3, TX3, 10, tyX3, rfl, inG_X3, by decide, by decide +kernel, rfl, tyX3_ok, nmX3, by decide +kernel⟩
theorem ff_X3_2 : FF 2 2 0 "ReplayBooth$Day" "reviewed" "I" false := ⟨RX3, TX3, 10, tyX3, rfl, inG_X3, by decide, by decide +kernel, rfl, tyX3_ok, nmX3, by decide +kernel⟩
theorem ff_X3_3 : FF 2 3 0 "ReplayBooth$Day" "boarded" "I" false := ⟨RX3, TX3, 10, tyX3, rfl, inG_X3, by decide, by decide +kernel, rfl, tyX3_ok, nmX3, by decide +kernel⟩
theorem ff_X3_4 : FF 2 4 2 "ReplayBooth$Day" "goneBy" "[I" true := ⟨RX3, TX3, 10, tyX3, rfl, inG_X3, by decide, by decide +kernel, rfl, tyX3_ok, nmX3, by decide +kernel⟩
theorem ff_X3_5 : FF 2 5 2 "ReplayBooth$Day" "left" "[I" true := ⟨RX3, TX3, 10, tyX3, rfl, inG_X3, by decide, by decide +kernel, rfl, tyX3_ok, nmX3, by decide +kernel⟩
theorem ff_X3_6 : FF 2 6 2 "ReplayBooth$Day" "won" "[I" true := ⟨RX3, TX3, 10, tyX3, rfl, inG_X3, by decide, by decide +kernel, rfl, tyX3_ok, nmX3, by decide +kernel⟩
theorem ff_X3_7 : FF 2 7 2 "ReplayBooth$Day" "seconds" "[I" true := ⟨RX3, TX3, 10, tyX3, rfl, inG_X3, by decide, by decide +kernel, rfl, tyX3_ok, nmX3, by decide +kernel⟩
theorem ff_X3_8 : FF 2 8 2 "ReplayBooth$Day" "log" "[I" true := ⟨RX3, TX3, 10, tyX3, rfl, inG_X3, by decide, by decide +kernel, rfl, tyX3_ok, nmX3, by decide +kernel⟩
theorem ff_X3_9 : FF 2 9 0 "ReplayBooth$Day" "logRows" "I" false := ⟨RX3, TX3, 10, tyX3, rfl, inG_X3, by decide, by decide +kernel, rfl, tyX3_ok, nmX3, by decide +kernel⟩
theorem ff_X4_0 : FF 3 0 2 "ReplayBooth$Judge" "sure" "LReplayBooth$Bounds;" true := ⟨RX4, TX4, 4, tyX4, rfl, inG_X4, by decide, by decide +kernel, rfl, tyX4_ok, nmX4, by decide +kernel⟩
theorem ff_X4_1 : FF 3 1 2 "ReplayBooth$Judge" "trial" "LReplayBooth$Bounds;" true := ⟨RX4, TX4, 4, tyX4, rfl, inG_X4, by decide, by decide +kernel, rfl, tyX4_ok, nmX4, by decide +kernel⟩
theorem ff_X4_2 : FF 3 2 0 "ReplayBooth$Judge" "reviewSeconds" "I" false := ⟨RX4, TX4, 4, tyX4, rfl, inG_X4, by decide, by decide +kernel, rfl, tyX4_ok, nmX4, by decide +kernel⟩
theorem ff_X4_3 : FF 3 3 0 "ReplayBooth$Judge" "reviewFrames" "I" false := ⟨RX4, TX4, 4, tyX4, rfl, inG_X4, by decide, by decide +kernel, rfl, tyX4_ok, nmX4, by decide +kernel⟩
theorem ff_X5_0 : FF 4 0 0 "ReplayBooth$Kind" "seconds" "I" false := ⟨RX5, TX5, 6, tyX5, rfl, inG_X5, by decide, by decide +kernel, rfl, tyX5_ok, nmX5, by decide +kernel⟩
theorem ff_X5_1 : FF 4 1 0 "ReplayBooth$Kind" "forced" "Z" false := ⟨RX5, TX5, 6, tyX5, rfl, inG_X5, by decide, by decide +kernel, rfl, tyX5_ok, nmX5, by decide +kernel⟩
theorem ff_X5_2 : FF 4 2 0 "ReplayBooth$Kind" "again" "Z" false := ⟨RX5, TX5, 6, tyX5, rfl, inG_X5, by decide, by decide +kernel, rfl, tyX5_ok, nmX5, by decide +kernel⟩
theorem ff_X5_3 : FF 4 3 0 "ReplayBooth$Kind" "pairs" "I" false := ⟨RX5, TX5, 6, tyX5, rfl, inG_X5, by decide, by decide +kernel, rfl, tyX5_ok, nmX5, by decide +kernel⟩
theorem ff_X5_4 : FF 4 4 2 "ReplayBooth$Kind" "first" "[I" true := ⟨RX5, TX5, 6, tyX5, rfl, inG_X5, by decide, by decide +kernel, rfl, tyX5_ok, nmX5, by decide +kernel⟩
theorem ff_X5_5 : FF 4 5 2 "ReplayBooth$Kind" "second" "[I" true := ⟨RX5, TX5, 6, tyX5, rfl, inG_X5, by decide, by decide +kernel, rfl, tyX5_ok, nmX5, by decide +kernel⟩
theorem ff_X6_0 : FF 5 0 0 "ReplayBooth$Play" "minute" "I" false := ⟨RX6, TX6, 12, tyX6, rfl, inG_X6, by decide, by decide +kernel, rfl, tyX6_ok, nmX6, by decide +kernel⟩
theorem ff_X6_1 : FF 5 1 0 "ReplayBooth$Play" "kind" "I" false := ⟨RX6, TX6, 12, tyX6, rfl, inG_X6, by decide, by decide +kernel, rfl, tyX6_ok, nmX6, by decide +kernel⟩
theorem ff_X6_2 : FF 5 2 0 "ReplayBooth$Play" "side" "I" false := ⟨RX6, TX6, 12, tyX6, rfl, inG_X6, by decide, by decide +kernel, rfl, tyX6_ok, nmX6, by decide +kernel⟩
theorem ff_X6_3 : FF 5 3 0 "ReplayBooth$Play" "points" "I" false := ⟨RX6, TX6, 12, tyX6, rfl, inG_X6, by decide, by decide +kernel, rfl, tyX6_ok, nmX6, by decide +kernel⟩
theorem ff_X6_4 : FF 5 4 0 "ReplayBooth$Play" "call" "I" false := ⟨RX6, TX6, 12, tyX6, rfl, inG_X6, by decide, by decide +kernel, rfl, tyX6_ok, nmX6, by decide +kernel⟩
theorem ff_X6_5 : FF 5 5 0 "ReplayBooth$Play" "frames" "I" false := ⟨RX6, TX6, 12, tyX6, rfl, inG_X6, by decide, by decide +kernel, rfl, tyX6_ok, nmX6, by decide +kernel⟩
theorem ff_X6_6 : FF 5 6 2 "ReplayBooth$Play" "camera" "[I" true := ⟨RX6, TX6, 12, tyX6, rfl, inG_X6, by decide, by decide +kernel, rfl, tyX6_ok, nmX6, by decide +kernel⟩
theorem ff_X6_7 : FF 5 7 2 "ReplayBooth$Play" "tick" "[I" true := ⟨RX6, TX6, 12, tyX6, rfl, inG_X6, by decide, by decide +kernel, rfl, tyX6_ok, nmX6, by decide +kernel⟩
theorem ff_X6_8 : FF 5 8 2 "ReplayBooth$Play" "there" "[I" true := ⟨RX6, TX6, 12, tyX6, rfl, inG_X6, by decide, by decide +kernel, rfl, tyX6_ok, nmX6, by decide +kernel⟩
theorem ff_X6_9 : FF 5 9 2 "ReplayBooth$Play" "notYet" "[I" true := ⟨RX6, TX6, 12, tyX6, rfl, inG_X6, by decide, by decide +kernel, rfl, tyX6_ok, nmX6, by decide +kernel⟩
theorem ff_X6_10 : FF 5 10 0 "ReplayBooth$Play" "fewestFound" "I" false := ⟨RX6, TX6, 12, tyX6, rfl, inG_X6, by decide, by decide +kernel, rfl, tyX6_ok, nmX6, by decide +kernel⟩
theorem ff_X6_11 : FF 5 11 0 "ReplayBooth$Play" "leftOutFound" "I" false := ⟨RX6, TX6, 12, tyX6, rfl, inG_X6, by decide, by decide +kernel, rfl, tyX6_ok, nmX6, by decide +kernel⟩
theorem ff_X7_0 : FF 6 0 2 "ReplayBooth$Reader" "tape" "[B" true := ⟨RX7, TX7, 14, tyX7, rfl, inG_X7, by decide, by decide +kernel, rfl, tyX7_ok, nmX7, by decide +kernel⟩
theorem ff_X7_1 : FF 6 1 2 "ReplayBooth$Reader" "told" "LReplayBooth$Told;" false := ⟨RX7, TX7, 14, tyX7, rfl, inG_X7, by decide, by decide +kernel, rfl, tyX7_ok, nmX7, by decide +kernel⟩
theorem ff_X7_2 : FF 6 2 0 "ReplayBooth$Reader" "end" "I" false := ⟨RX7, TX7, 14, tyX7, rfl, inG_X7, by decide, by decide +kernel, rfl, tyX7_ok, nmX7, by decide +kernel⟩
theorem ff_X7_3 : FF 6 3 0 "ReplayBooth$Reader" "at" "I" false := ⟨RX7, TX7, 14, tyX7, rfl, inG_X7, by decide, by decide +kernel, rfl, tyX7_ok, nmX7, by decide +kernel⟩
theorem ff_X7_4 : FF 6 4 2 "ReplayBooth$Reader" "token" "LReplayBooth$Token;" false := ⟨RX7, TX7, 14, tyX7, rfl, inG_X7, by decide, by decide +kernel, rfl, tyX7_ok, nmX7, by decide +kernel⟩
theorem ff_X7_5 : FF 6 5 0 "ReplayBooth$Reader" "start" "I" false := ⟨RX7, TX7, 14, tyX7, rfl, inG_X7, by decide, by decide +kernel, rfl, tyX7_ok, nmX7, by decide +kernel⟩
theorem ff_X7_6 : FF 6 6 0 "ReplayBooth$Reader" "value" "I" false := ⟨RX7, TX7, 14, tyX7, rfl, inG_X7, by decide, by decide +kernel, rfl, tyX7_ok, nmX7, by decide +kernel⟩
theorem ff_X7_7 : FF 6 7 0 "ReplayBooth$Reader" "number" "I" false := ⟨RX7, TX7, 14, tyX7, rfl, inG_X7, by decide, by decide +kernel, rfl, tyX7_ok, nmX7, by decide +kernel⟩
theorem ff_X7_8 : FF 6 8 0 "ReplayBooth$Reader" "fault" "I" false := ⟨RX7, TX7, 14, tyX7, rfl, inG_X7, by decide, by decide +kernel, rfl, tyX7_ok, nmX7, by decide +kernel⟩
theorem ff_X7_9 : FF 6 9 0 "ReplayBooth$Reader" "names" "I" false := ⟨RX7, TX7, 14, tyX7, rfl, inG_X7, by decide, by decide +kernel, rfl, tyX7_ok, nmX7, by decide +kernel⟩
theorem ff_X7_10 : FF 6 10 2 "ReplayBooth$Reader" "nameCode" "[I" true := ⟨RX7, TX7, 14, tyX7, rfl, inG_X7, by decide, by decide +kernel, rfl, tyX7_ok, nmX7, by decide +kernel⟩
theorem ff_X7_11 : FF 6 11 2 "ReplayBooth$Reader" "nameSort" "[LReplayBooth$Token;" true := ⟨RX7, TX7, 14, tyX7, rfl, inG_X7, by decide, by decide +kernel, rfl, tyX7_ok, nmX7, by decide +kernel⟩
theorem ff_X7_12 : FF 6 12 2 "ReplayBooth$Reader" "nameNumber" "[I" true := ⟨RX7, TX7, 14, tyX7, rfl, inG_X7, by decide, by decide +kernel, rfl, tyX7_ok, nmX7, by decide +kernel⟩
theorem ff_X7_13 : FF 6 13 0 "ReplayBooth$Reader" "settingsTold" "I" false := ⟨RX7, TX7, 14, tyX7, rfl, inG_X7, by decide, by decide +kernel, rfl, tyX7_ok, nmX7, by decide +kernel⟩
theorem ff_X9_0 : FF 7 0 0 "ReplayBooth$Told" "cameras" "I" false := ⟨RX9, TX9, 14, tyX9, rfl, inG_X9, by decide, by decide +kernel, rfl, tyX9_ok, nmX9, by decide +kernel⟩
theorem ff_X9_1 : FF 7 1 2 "ReplayBooth$Told" "lateLeast" "[I" true := ⟨RX9, TX9, 14, tyX9, rfl, inG_X9, by decide, by decide +kernel, rfl, tyX9_ok, nmX9, by decide +kernel⟩
theorem ff_X9_2 : FF 7 2 2 "ReplayBooth$Told" "lateMost" "[I" true := ⟨RX9, TX9, 14, tyX9, rfl, inG_X9, by decide, by decide +kernel, rfl, tyX9_ok, nmX9, by decide +kernel⟩
theorem ff_X9_3 : FF 7 3 0 "ReplayBooth$Told" "flashes" "I" false := ⟨RX9, TX9, 14, tyX9, rfl, inG_X9, by decide, by decide +kernel, rfl, tyX9_ok, nmX9, by decide +kernel⟩
theorem ff_X9_4 : FF 7 4 2 "ReplayBooth$Told" "clocks" "LReplayBooth$Bounds;" true := ⟨RX9, TX9, 14, tyX9, rfl, inG_X9, by decide, by decide +kernel, rfl, tyX9_ok, nmX9, by decide +kernel⟩
theorem ff_X9_5 : FF 7 5 0 "ReplayBooth$Told" "sides" "I" false := ⟨RX9, TX9, 14, tyX9, rfl, inG_X9, by decide, by decide +kernel, rfl, tyX9_ok, nmX9, by decide +kernel⟩
theorem ff_X9_6 : FF 7 6 2 "ReplayBooth$Told" "challenges" "[I" true := ⟨RX9, TX9, 14, tyX9, rfl, inG_X9, by decide, by decide +kernel, rfl, tyX9_ok, nmX9, by decide +kernel⟩
theorem ff_X9_7 : FF 7 7 0 "ReplayBooth$Told" "kinds" "I" false := ⟨RX9, TX9, 14, tyX9, rfl, inG_X9, by decide, by decide +kernel, rfl, tyX9_ok, nmX9, by decide +kernel⟩
theorem ff_X9_8 : FF 7 8 2 "ReplayBooth$Told" "kind" "[LReplayBooth$Kind;" true := ⟨RX9, TX9, 14, tyX9, rfl, inG_X9, by decide, by decide +kernel, rfl, tyX9_ok, nmX9, by decide +kernel⟩
theorem ff_X9_9 : FF 7 9 0 "ReplayBooth$Told" "boards" "I" false := ⟨RX9, TX9, 14, tyX9, rfl, inG_X9, by decide, by decide +kernel, rfl, tyX9_ok, nmX9, by decide +kernel⟩
theorem ff_X9_10 : FF 7 10 2 "ReplayBooth$Told" "board" "[LReplayBooth$Board;" true := ⟨RX9, TX9, 14, tyX9, rfl, inG_X9, by decide, by decide +kernel, rfl, tyX9_ok, nmX9, by decide +kernel⟩
theorem ff_X9_11 : FF 7 11 0 "ReplayBooth$Told" "plays" "I" false := ⟨RX9, TX9, 14, tyX9, rfl, inG_X9, by decide, by decide +kernel, rfl, tyX9_ok, nmX9, by decide +kernel⟩
theorem ff_X9_12 : FF 7 12 2 "ReplayBooth$Told" "play" "[LReplayBooth$Play;" true := ⟨RX9, TX9, 14, tyX9, rfl, inG_X9, by decide, by decide +kernel, rfl, tyX9_ok, nmX9, by decide +kernel⟩
theorem ff_X9_13 : FF 7 13 2 "ReplayBooth$Told" "setting" "[I" true := ⟨RX9, TX9, 14, tyX9, rfl, inG_X9, by decide, by decide +kernel, rfl, tyX9_ok, nmX9, by decide +kernel⟩
theorem sh_64 : shc 64 = 9 := by decide +kernel
theorem sh_65 : shc 65 = 22 := by decide +kernel
theorem sh_208 : shc 208 = 7 := by decide +kernel
theorem sh_209 : shc 209 = 20 := by decide +kernel
theorem sh_210 : shc 210 = 28 := by decide +kernel
theorem sh_211 : shc 211 = 20 := by decide +kernel
theorem sh_212 : shc 212 = 4 := by decide +kernel
theorem sh_213 : shc 213 = 2 := by decide +kernel
theorem sh_215 : shc 215 = 2 := by decide +kernel
theorem sh_217 : shc 217 = 3 := by decide +kernel
theorem sh_218 : shc 218 = 20 := by decide +kernel
theorem sh_219 : shc 219 = 20 := by decide +kernel
theorem sh_220 : shc 220 = 20 := by decide +kernel
theorem sh_221 : shc 221 = 20 := by decide +kernel
theorem sh_222 : shc 222 = 20 := by decide +kernel
theorem sh_223 : shc 223 = 27 := by decide +kernel
theorem sh_224 : shc 224 = 27 := by decide +kernel
theorem sh_225 : shc 225 = 21 := by decide +kernel
theorem sh_226 : shc 226 = 20 := by decide +kernel
theorem sh_311 : shc 311 = 10 := by decide +kernel
theorem sh_312 : shc 312 = 22 := by decide +kernel
theorem sh_313 : shc 313 = 20 := by decide +kernel
theorem sh_314 : shc 314 = 20 := by decide +kernel
theorem sh_315 : shc 315 = 21 := by decide +kernel
theorem sh_316 : shc 316 = 23 := by decide +kernel
theorem sh_317 : shc 317 = 20 := by decide +kernel
theorem sh_318 : shc 318 = 20 := by decide +kernel
theorem sh_319 : shc 319 = 20 := by decide +kernel
theorem sh_320 : shc 320 = 20 := by decide +kernel
theorem sh_321 : shc 321 = 20 := by decide +kernel
theorem sh_322 : shc 322 = 21 := by decide +kernel
theorem sh_323 : shc 323 = 21 := by decide +kernel
theorem sh_324 : shc 324 = 20 := by decide +kernel
theorem sh_325 : shc 325 = 20 := by decide +kernel
theorem sh_326 : shc 326 = 20 := by decide +kernel
theorem sh_327 : shc 327 = 20 := by decide +kernel
theorem sh_328 : shc 328 = 20 := by decide +kernel
theorem sh_329 : shc 329 = 20 := by decide +kernel
theorem sh_330 : shc 330 = 20 := by decide +kernel
theorem sh_331 : shc 331 = 20 := by decide +kernel
theorem sh_332 : shc 332 = 20 := by decide +kernel
theorem sh_333 : shc 333 = 20 := by decide +kernel
theorem sh_334 : shc 334 = 20 := by decide +kernel
theorem sh_335 : shc 335 = 20 := by decide +kernel
theorem sh_336 : shc 336 = 20 := by decide +kernel
theorem sh_337 : shc 337 = 20 := by decide +kernel
theorem sh_338 : shc 338 = 20 := by decide +kernel
theorem sh_339 : shc 339 = 20 := by decide +kernel
theorem sh_340 : shc 340 = 20 := by decide +kernel
theorem sh_341 : shc 341 = 20 := by decide +kernel
theorem sh_342 : shc 342 = 20 := by decide +kernel
theorem sh_343 : shc 343 = 21 := by decide +kernel
theorem sh_344 : shc 344 = 20 := by decide +kernel
theorem sh_345 : shc 345 = 20 := by decide +kernel
theorem sl_65 : shl 65 = 600 := by decide +kernel
theorem sl_209 : shl 209 = 25 := by decide +kernel
theorem sl_210 : shl 210 = 25 := by decide +kernel
theorem sl_211 : shl 211 = 25 := by decide +kernel
theorem sl_218 : shl 218 = 8 := by decide +kernel
theorem sl_219 : shl 219 = 4 := by decide +kernel
theorem sl_220 : shl 220 = 4 := by decide +kernel
theorem sl_221 : shl 221 = 8 := by decide +kernel
theorem sl_222 : shl 222 = 64 := by decide +kernel
theorem sl_223 : shl 223 = 12 := by decide +kernel
theorem sl_224 : shl 224 = 2 := by decide +kernel
theorem sl_225 : shl 225 = 2 := by decide +kernel
theorem sl_226 : shl 226 = 16 := by decide +kernel
theorem sl_312 : shl 312 = 600 := by decide +kernel
theorem sl_313 : shl 313 = 12 := by decide +kernel
theorem sl_314 : shl 314 = 8 := by decide +kernel
theorem sl_315 : shl 315 = 4 := by decide +kernel
theorem sl_316 : shl 316 = 80 := by decide +kernel
theorem sl_317 : shl 317 = 10 := by decide +kernel
theorem sl_318 : shl 318 = 10 := by decide +kernel
theorem sl_319 : shl 319 = 48 := by decide +kernel
theorem sl_320 : shl 320 = 8 := by decide +kernel
theorem sl_321 : shl 321 = 10 := by decide +kernel
theorem sl_322 : shl 322 = 10 := by decide +kernel
theorem sl_323 : shl 323 = 10 := by decide +kernel
theorem sl_324 : shl 324 = 10 := by decide +kernel
theorem sl_325 : shl 325 = 30 := by decide +kernel
theorem sl_326 : shl 326 = 30 := by decide +kernel
theorem sl_327 : shl 327 = 6 := by decide +kernel
theorem sl_328 : shl 328 = 6 := by decide +kernel
theorem sl_329 : shl 329 = 42 := by decide +kernel
theorem sl_330 : shl 330 = 16 := by decide +kernel
theorem sl_331 : shl 331 = 16 := by decide +kernel
theorem sl_332 : shl 332 = 16 := by decide +kernel
theorem sl_333 : shl 333 = 16 := by decide +kernel
theorem sl_334 : shl 334 = 16 := by decide +kernel
theorem sl_335 : shl 335 = 16 := by decide +kernel
theorem sl_336 : shl 336 = 160 := by decide +kernel
theorem sl_337 : shl 337 = 160 := by decide +kernel
theorem sl_338 : shl 338 = 160 := by decide +kernel
theorem sl_339 : shl 339 = 160 := by decide +kernel
theorem sl_340 : shl 340 = 114 := by decide +kernel
theorem sl_341 : shl 341 = 1368 := by decide +kernel
theorem sl_342 : shl 342 = 228 := by decide +kernel
theorem sl_343 : shl 343 = 2 := by decide +kernel
theorem sl_344 : shl 344 = 100 := by decide +kernel
theorem sl_345 : shl 345 = 16 := by decide +kernel
theorem cr_64_0 : cr 64 0 = 65 := by decide +kernel
theorem cr_64_2 : cr 64 2 = 0 := by decide +kernel
theorem cr_64_3 : cr 64 3 = 0 := by decide +kernel
theorem cr_64_4 : cr 64 4 = 208 := by decide +kernel
theorem cr_64_5 : cr 64 5 = 212 := by decide +kernel
theorem cr_64_6 : cr 64 6 = 217 := by decide +kernel
theorem cr_64_7 : cr 64 7 = 223 := by decide +kernel
theorem cr_64_10 : cr 64 10 = 224 := by decide +kernel
theorem cr_64_11 : cr 64 11 = 225 := by decide +kernel
theorem cr_64_12 : cr 64 12 = 226 := by decide +kernel
theorem cr_208_0 : cr 208 0 = 65 := by decide +kernel
theorem cr_208_1 : cr 208 1 = 0 := by decide +kernel
theorem cr_208_4 : cr 208 4 = 0 := by decide +kernel
theorem cr_208_10 : cr 208 10 = 209 := by decide +kernel
theorem cr_208_11 : cr 208 11 = 210 := by decide +kernel
theorem cr_208_12 : cr 208 12 = 211 := by decide +kernel
theorem cr_212_0 : cr 212 0 = 213 := by decide +kernel
theorem cr_212_1 : cr 212 1 = 215 := by decide +kernel
theorem cr_217_4 : cr 217 4 = 218 := by decide +kernel
theorem cr_217_5 : cr 217 5 = 219 := by decide +kernel
theorem cr_217_6 : cr 217 6 = 220 := by decide +kernel
theorem cr_217_7 : cr 217 7 = 221 := by decide +kernel
theorem cr_217_8 : cr 217 8 = 222 := by decide +kernel
theorem cr_311_1 : cr 311 1 = 312 := by decide +kernel
theorem cr_311_11 : cr 311 11 = 313 := by decide +kernel
theorem cr_311_12 : cr 311 12 = 314 := by decide +kernel
theorem cr_311_13 : cr 311 13 = 315 := by decide +kernel
theorem cr_311_14 : cr 311 14 = 316 := by decide +kernel
theorem cr_311_15 : cr 311 15 = 317 := by decide +kernel
theorem cr_311_16 : cr 311 16 = 318 := by decide +kernel
theorem cr_311_17 : cr 311 17 = 319 := by decide +kernel
theorem cr_311_18 : cr 311 18 = 320 := by decide +kernel
theorem cr_311_19 : cr 311 19 = 321 := by decide +kernel
theorem cr_311_20 : cr 311 20 = 322 := by decide +kernel
theorem cr_311_21 : cr 311 21 = 323 := by decide +kernel
theorem cr_311_22 : cr 311 22 = 324 := by decide +kernel
theorem cr_311_23 : cr 311 23 = 325 := by decide +kernel
theorem cr_311_24 : cr 311 24 = 326 := by decide +kernel
theorem cr_311_25 : cr 311 25 = 327 := by decide +kernel
theorem cr_311_26 : cr 311 26 = 328 := by decide +kernel
theorem cr_311_27 : cr 311 27 = 329 := by decide +kernel
theorem cr_311_28 : cr 311 28 = 330 := by decide +kernel
theorem cr_311_29 : cr 311 29 = 331 := by decide +kernel
theorem cr_311_30 : cr 311 30 = 332 := by decide +kernel
theorem cr_311_31 : cr 311 31 = 333 := by decide +kernel
theorem cr_311_32 : cr 311 32 = 334 := by decide +kernel
theorem cr_311_33 : cr 311 33 = 335 := by decide +kernel
theorem cr_311_34 : cr 311 34 = 336 := by decide +kernel
theorem cr_311_35 : cr 311 35 = 337 := by decide +kernel
theorem cr_311_36 : cr 311 36 = 338 := by decide +kernel
theorem cr_311_37 : cr 311 37 = 339 := by decide +kernel
theorem cr_311_38 : cr 311 38 = 340 := by decide +kernel
theorem cr_311_39 : cr 311 39 = 341 := by decide +kernel
theorem cr_311_41 : cr 311 41 = 342 := by decide +kernel
theorem cr_311_42 : cr 311 42 = 343 := by decide +kernel
theorem cr_311_43 : cr 311 43 = 344 := by decide +kernel
theorem cr_311_45 : cr 311 45 = 345 := by decide +kernel
theorem cre_24 {n i : Nat} (h : shc n = 24) (hi : i < shl n) : shc (cr n i) = 5 := sh_all (P := fun n => ∀ i, i < shl n → shc (cr n i) = 5) (by decide) (by decide +kernel) h i hi
theorem cre_25 {n i : Nat} (h : shc n = 25) (hi : i < shl n) : shc (cr n i) = 1 := sh_all (P := fun n => ∀ i, i < shl n → shc (cr n i) = 1) (by decide) (by decide +kernel) h i hi
theorem cre_26 {n i : Nat} (h : shc n = 26) (hi : i < shl n) : shc (cr n i) = 6 := sh_all (P := fun n => ∀ i, i < shl n → shc (cr n i) = 6) (by decide) (by decide +kernel) h i hi
theorem cre_27 {n i : Nat} (h : shc n = 27) (hi : i < shl n) : shc (cr n i) = 3 := sh_all (P := fun n => ∀ i, i < shl n → shc (cr n i) = 3) (by decide) (by decide +kernel) h i hi
theorem crc_1_2 {n : Nat} (h : shc n = 1) : shc (cr n 2) = 20 ∧ shl (cr n 2) = 7 := sh_all (P := fun n => shc (cr n 2) = 20 ∧ shl (cr n 2) = 7) (by decide) (by decide +kernel) h
theorem crc_2_0 {n : Nat} (h : shc n = 2) : shc (cr n 0) = 20 ∧ shl (cr n 0) = 100 := sh_all (P := fun n => shc (cr n 0) = 20 ∧ shl (cr n 0) = 100) (by decide) (by decide +kernel) h
theorem crc_3_4 {n : Nat} (h : shc n = 3) : shc (cr n 4) = 20 ∧ shl (cr n 4) = 8 := sh_all (P := fun n => shc (cr n 4) = 20 ∧ shl (cr n 4) = 8) (by decide) (by decide +kernel) h
theorem crc_3_5 {n : Nat} (h : shc n = 3) : shc (cr n 5) = 20 ∧ shl (cr n 5) = 4 := sh_all (P := fun n => shc (cr n 5) = 20 ∧ shl (cr n 5) = 4) (by decide) (by decide +kernel) h
theorem crc_3_6 {n : Nat} (h : shc n = 3) : shc (cr n 6) = 20 ∧ shl (cr n 6) = 4 := sh_all (P := fun n => shc (cr n 6) = 20 ∧ shl (cr n 6) = 4) (by decide) (by decide +kernel) h
theorem crc_3_7 {n : Nat} (h : shc n = 3) : shc (cr n 7) = 20 ∧ shl (cr n 7) = 8 := sh_all (P := fun n => shc (cr n 7) = 20 ∧ shl (cr n 7) = 8) (by decide) (by decide +kernel) h
theorem crc_3_8 {n : Nat} (h : shc n = 3) : shc (cr n 8) = 20 ∧ shl (cr n 8) = 64 := sh_all (P := fun n => shc (cr n 8) = 20 ∧ shl (cr n 8) = 64) (by decide) (by decide +kernel) h
theorem crc_5_4 {n : Nat} (h : shc n = 5) : shc (cr n 4) = 20 ∧ shl (cr n 4) = 3 := sh_all (P := fun n => shc (cr n 4) = 20 ∧ shl (cr n 4) = 3) (by decide) (by decide +kernel) h
theorem crc_5_5 {n : Nat} (h : shc n = 5) : shc (cr n 5) = 20 ∧ shl (cr n 5) = 3 := sh_all (P := fun n => shc (cr n 5) = 20 ∧ shl (cr n 5) = 3) (by decide) (by decide +kernel) h
theorem crc_6_6 {n : Nat} (h : shc n = 6) : shc (cr n 6) = 20 ∧ shl (cr n 6) = 10 := sh_all (P := fun n => shc (cr n 6) = 20 ∧ shl (cr n 6) = 10) (by decide) (by decide +kernel) h
theorem crc_6_7 {n : Nat} (h : shc n = 6) : shc (cr n 7) = 20 ∧ shl (cr n 7) = 10 := sh_all (P := fun n => shc (cr n 7) = 20 ∧ shl (cr n 7) = 10) (by decide) (by decide +kernel) h
theorem crc_6_8 {n : Nat} (h : shc n = 6) : shc (cr n 8) = 20 ∧ shl (cr n 8) = 10 := sh_all (P := fun n => shc (cr n 8) = 20 ∧ shl (cr n 8) = 10) (by decide) (by decide +kernel) h
theorem crc_6_9 {n : Nat} (h : shc n = 6) : shc (cr n 9) = 20 ∧ shl (cr n 9) = 10 := sh_all (P := fun n => shc (cr n 9) = 20 ∧ shl (cr n 9) = 10) (by decide) (by decide +kernel) h
theorem crc_8_1 {n : Nat} (h : shc n = 8) : shc (cr n 1) = 20 ∧ shl (cr n 1) = 5 := sh_all (P := fun n => shc (cr n 1) = 20 ∧ shl (cr n 1) = 5) (by decide) (by decide +kernel) h
theorem crc_8_10 {n : Nat} (h : shc n = 8) : shc (cr n 10) = 25 ∧ shl (cr n 10) = 3 := sh_all (P := fun n => shc (cr n 10) = 25 ∧ shl (cr n 10) = 3) (by decide) (by decide +kernel) h
theorem crc_8_12 {n : Nat} (h : shc n = 8) : shc (cr n 12) = 26 ∧ shl (cr n 12) = 8 := sh_all (P := fun n => shc (cr n 12) = 26 ∧ shl (cr n 12) = 8) (by decide) (by decide +kernel) h
theorem crc_8_13 {n : Nat} (h : shc n = 8) : shc (cr n 13) = 20 ∧ shl (cr n 13) = 4 := sh_all (P := fun n => shc (cr n 13) = 20 ∧ shl (cr n 13) = 4) (by decide) (by decide +kernel) h
theorem crc_8_2 {n : Nat} (h : shc n = 8) : shc (cr n 2) = 20 ∧ shl (cr n 2) = 5 := sh_all (P := fun n => shc (cr n 2) = 20 ∧ shl (cr n 2) = 5) (by decide) (by decide +kernel) h
theorem crc_8_4 {n : Nat} (h : shc n = 8) : shc (cr n 4) = 2 ∧ shl (cr n 4) = 2 := sh_all (P := fun n => shc (cr n 4) = 2 ∧ shl (cr n 4) = 2) (by decide) (by decide +kernel) h
theorem crc_8_6 {n : Nat} (h : shc n = 8) : shc (cr n 6) = 20 ∧ shl (cr n 6) = 4 := sh_all (P := fun n => shc (cr n 6) = 20 ∧ shl (cr n 6) = 4) (by decide) (by decide +kernel) h
theorem crc_8_8 {n : Nat} (h : shc n = 8) : shc (cr n 8) = 24 ∧ shl (cr n 8) = 5 := sh_all (P := fun n => shc (cr n 8) = 24 ∧ shl (cr n 8) = 5) (by decide) (by decide +kernel) h
theorem cw_X2_16 : CWs RX2 16 RJ7 yJ7_fill_53178 cJ7_fill_53178 4 none 2 := ⟨q_268, q_82, q_270, rfl, by decide +kernel, by decide +kernel⟩
theorem cw_X2_32 : CWs RX2 32 RX2 yX2_tell cX2_tell 9 none 3 := ⟨q_631, q_78, q_634, rfl, by decide +kernel, by decide +kernel⟩
theorem cw_X3_48 : CWs RX3 48 RJ7 yJ7_fill_53178 cJ7_fill_53178 4 none 2 := ⟨q_730, q_82, q_270, rfl, by decide +kernel, by decide +kernel⟩
theorem cw_X4_101 : CWs RX4 101 RX4 yX4_isSure cX4_isSure 1 (some .boolean) 1 := ⟨q_855, q_86, q_857, rfl, by decide +kernel, by decide +kernel⟩
theorem cw_X4_108 : CWs RX4 108 RX4 yX4_searchFewest cX4_searchFewest 7 (some .int) 2 := ⟨q_849, q_86, q_852, rfl, by decide +kernel, by decide +kernel⟩
theorem cw_X4_112 : CWs RX4 112 RJ6 yJ6_bitCount_0f7a4 cJ6_bitCount_0f7a4 1 (some .int) 1 := ⟨q_858, q_100, q_860, rfl, by decide +kernel, by decide +kernel⟩
theorem cw_X4_118 : CWs RX4 118 RX9 yX9_allCameras cX9_allCameras 1 (some .int) 0 := ⟨q_880, q_77, q_822, rfl, by decide +kernel, by decide +kernel⟩
theorem cw_X4_124 : CWs RX4 124 RX6 yX6_framesOf cX6_framesOf 4 (some .int) 1 := ⟨q_881, q_81, q_826, rfl, by decide +kernel, by decide +kernel⟩
theorem cw_X4_130 : CWs RX4 130 RX4 yX4_searchLeftOut cX4_searchLeftOut 6 (some .int) 2 := ⟨q_890, q_86, q_893, rfl, by decide +kernel, by decide +kernel⟩
theorem cw_X4_26 : CWs RX4 26 RX2 yX2_copyFrom cX2_copyFrom 2 none 1 := ⟨q_791, q_78, q_794, rfl, by decide +kernel, by decide +kernel⟩
theorem cw_X4_36 : CWs RX4 36 RX4 yX4_tellFrame cX4_tellFrame 6 none 2 := ⟨q_798, q_86, q_801, rfl, by decide +kernel, by decide +kernel⟩
theorem cw_X4_50 : CWs RX4 50 RX2 yX2_tell cX2_tell 9 none 3 := ⟨q_802, q_78, q_634, rfl, by decide +kernel, by decide +kernel⟩
theorem cw_X4_57 : CWs RX4 57 RX4 yX4_sureOf cX4_sureOf 5 (some (.object "ReplayBooth$Bounds")) 3 := ⟨q_787, q_86, q_790, rfl, by decide +kernel, by decide +kernel⟩
theorem cw_X4_71 : CWs RX4 71 RX4 yX4_mustHold cX4_mustHold 3 (some .boolean) 1 := ⟨q_803, q_86, q_806, rfl, by decide +kernel, by decide +kernel⟩
theorem cw_X4_75 : CWs RX4 75 RX4 yX4_canHold cX4_canHold 3 (some .boolean) 1 := ⟨q_811, q_86, q_814, rfl, by decide +kernel, by decide +kernel⟩
theorem cw_X4_89 : CWs RX4 89 RX2 yX2_markLess cX2_markLess 3 (some .int) 2 := ⟨q_807, q_78, q_810, rfl, by decide +kernel, by decide +kernel⟩
theorem cw_X4_93 : CWs RX4 93 RX6 yX6_allFrames cX6_allFrames 1 (some .int) 0 := ⟨q_853, q_81, q_835, rfl, by decide +kernel, by decide +kernel⟩
theorem cw_X4_97 : CWs RX4 97 RX4 yX4_byFrames cX4_byFrames 5 (some .int) 3 := ⟨q_854, q_86, q_786, rfl, by decide +kernel, by decide +kernel⟩
theorem cw_X7_104 : CWs RX7 104 RX7 yX7_fail cX7_fail 2 (some .boolean) 1 := ⟨q_608, q_83, q_611, rfl, by decide +kernel, by decide +kernel⟩
theorem cw_X7_113 : CWs RX7 113 RX7 yX7_findName cX7_findName 4 (some .int) 2 := ⟨q_643, q_83, q_646, rfl, by decide +kernel, by decide +kernel⟩
theorem cw_X7_117 : CWs RX7 117 RX7 yX7_startLine cX7_startLine 3 (some .boolean) 1 := ⟨q_588, q_83, q_591, rfl, by decide +kernel, by decide +kernel⟩
theorem cw_X7_130 : CWs RX7 130 RX7 yX7_tellCamera cX7_tellCamera 2 (some .boolean) 0 := ⟨q_612, q_83, q_615, rfl, by decide +kernel, by decide +kernel⟩
theorem cw_X7_134 : CWs RX7 134 RX7 yX7_tellFlash cX7_tellFlash 4 (some .boolean) 0 := ⟨q_635, q_83, q_638, rfl, by decide +kernel, by decide +kernel⟩
theorem cw_X7_137 : CWs RX7 137 RX7 yX7_tellSide cX7_tellSide 1 (some .boolean) 0 := ⟨q_651, q_83, q_654, rfl, by decide +kernel, by decide +kernel⟩
theorem cw_X7_140 : CWs RX7 140 RX7 yX7_tellKind cX7_tellKind 3 (some .boolean) 0 := ⟨q_657, q_83, q_660, rfl, by decide +kernel, by decide +kernel⟩
theorem cw_X7_143 : CWs RX7 143 RX7 yX7_tellBoard cX7_tellBoard 3 (some .boolean) 0 := ⟨q_687, q_83, q_690, rfl, by decide +kernel, by decide +kernel⟩
theorem cw_X7_146 : CWs RX7 146 RX7 yX7_tellPlay cX7_tellPlay 4 (some .boolean) 0 := ⟨q_699, q_83, q_702, rfl, by decide +kernel, by decide +kernel⟩
theorem cw_X7_149 : CWs RX7 149 RX7 yX7_tellSetting cX7_tellSetting 3 (some .boolean) 2 := ⟨q_720, q_83, q_723, rfl, by decide +kernel, by decide +kernel⟩
theorem cw_X7_153 : CWs RX7 153 RX7 yX7_roomFor cX7_roomFor 2 (some .int) 1 := ⟨q_592, q_83, q_595, rfl, by decide +kernel, by decide +kernel⟩
theorem cw_X7_175 : CWs RX7 175 RX7 yX7_roomForSetting cX7_roomForSetting 2 (some .int) 1 := ⟨q_604, q_83, q_607, rfl, by decide +kernel, by decide +kernel⟩
theorem cw_X7_179 : CWs RX7 179 RX7 yX7_takeNumber cX7_takeNumber 3 (some .boolean) 2 := ⟨q_623, q_83, q_626, rfl, by decide +kernel, by decide +kernel⟩
theorem cw_X7_188 : CWs RX7 188 RX7 yX7_giveName cX7_giveName 4 (some .boolean) 2 := ⟨q_618, q_83, q_621, rfl, by decide +kernel, by decide +kernel⟩
theorem cw_X7_202 : CWs RX7 202 RX2 yX2_tellLate cX2_tellLate 4 none 3 := ⟨q_627, q_78, q_630, rfl, by decide +kernel, by decide +kernel⟩
theorem cw_X7_208 : CWs RX7 208 RX7 yX7_takeName cX7_takeName 4 (some .int) 2 := ⟨q_639, q_83, q_642, rfl, by decide +kernel, by decide +kernel⟩
theorem cw_X7_211 : CWs RX7 211 RX2 yX2_tellFlash cX2_tellFlash 5 none 4 := ⟨q_647, q_78, q_650, rfl, by decide +kernel, by decide +kernel⟩
theorem cw_X7_235 : CWs RX7 235 RX7 yX7_skip cX7_skip 3 (some .boolean) 1 := ⟨q_665, q_83, q_668, rfl, by decide +kernel, by decide +kernel⟩
theorem cw_X7_251 : CWs RX7 251 RX7 yX7_tellPair cX7_tellPair 3 (some .boolean) 1 := ⟨q_671, q_83, q_674, rfl, by decide +kernel, by decide +kernel⟩
theorem cw_X7_258 : CWs RX7 258 RX7 yX7_takeMark cX7_takeMark 2 (some .boolean) 1 := ⟨q_675, q_83, q_678, rfl, by decide +kernel, by decide +kernel⟩
theorem cw_X7_264 : CWs RX7 264 RX7 yX7_take cX7_take 2 (some .boolean) 1 := ⟨q_681, q_83, q_684, rfl, by decide +kernel, by decide +kernel⟩
theorem cw_X7_291 : CWs RX7 291 RX7 yX7_tellMember cX7_tellMember 5 (some .boolean) 1 := ⟨q_694, q_83, q_697, rfl, by decide +kernel, by decide +kernel⟩
theorem cw_X7_304 : CWs RX7 304 RX6 yX6_clear cX6_clear 1 none 0 := ⟨q_703, q_81, q_706, rfl, by decide +kernel, by decide +kernel⟩
theorem cw_X7_333 : CWs RX7 333 RX7 yX7_tellFrame cX7_tellFrame 6 (some .boolean) 1 := ⟨q_714, q_83, q_717, rfl, by decide +kernel, by decide +kernel⟩
theorem cw_X7_39 : CWs RX7 39 RX9 yX9_clear cX9_clear 1 none 0 := ⟨q_533, q_77, q_262, rfl, by decide +kernel, by decide +kernel⟩
theorem cw_X7_63 : CWs RX7 63 RX7 yX7_advance cX7_advance 1 none 0 := ⟨q_537, q_83, q_540, rfl, by decide +kernel, by decide +kernel⟩
theorem cw_X7_72 : CWs RX7 72 RX7 yX7_isDigit cX7_isDigit 1 (some .boolean) 1 := ⟨q_541, q_83, q_543, rfl, by decide +kernel, by decide +kernel⟩
theorem cw_X7_76 : CWs RX7 76 RX7 yX7_scanNumber cX7_scanNumber 1 none 0 := ⟨q_544, q_83, q_547, rfl, by decide +kernel, by decide +kernel⟩
theorem cw_X7_79 : CWs RX7 79 RX7 yX7_isLetter cX7_isLetter 1 (some .boolean) 1 := ⟨q_552, q_83, q_554, rfl, by decide +kernel, by decide +kernel⟩
theorem cw_X7_82 : CWs RX7 82 RX7 yX7_scanWord cX7_scanWord 1 none 0 := ⟨q_555, q_83, q_558, rfl, by decide +kernel, by decide +kernel⟩
theorem cw_X7_85 : CWs RX7 85 RX8 yX8_ofSign cX8_ofSign 1 (some (.object "ReplayBooth$Token")) 1 := ⟨q_569, q_85, q_571, rfl, by decide +kernel, by decide +kernel⟩
theorem cw_X7_95 : CWs RX7 95 RX8 yX8_withLetter cX8_withLetter 2 (some .int) 2 := ⟨q_559, q_85, q_561, rfl, by decide +kernel, by decide +kernel⟩
theorem cw_X7_98 : CWs RX7 98 RX8 yX8_ofWord cX8_ofWord 2 (some (.object "ReplayBooth$Token")) 1 := ⟨q_562, q_85, q_564, rfl, by decide +kernel, by decide +kernel⟩
theorem cw_X9_62 : CWs RX9 62 RX2 yX2_clear cX2_clear 2 none 0 := ⟨q_263, q_78, q_266, rfl, by decide +kernel, by decide +kernel⟩
theorem cw_X10_124 : CWs RX10 124 RX2 yX2_lateLeast cX2_lateLeast 2 (some .int) 1 := ⟨q_735, q_78, q_738, rfl, by decide +kernel, by decide +kernel⟩
theorem cw_X10_127 : CWs RX10 127 RX2 yX2_lateMost cX2_lateMost 2 (some .int) 1 := ⟨q_739, q_78, q_742, rfl, by decide +kernel, by decide +kernel⟩
theorem cw_X10_150 : CWs RX10 150 RX10 yX10_isSide cX10_isSide 2 (some .boolean) 1 := ⟨q_751, q_76, q_754, rfl, by decide +kernel, by decide +kernel⟩
theorem cw_X10_163 : CWs RX10 163 RX10 yX10_pointsNow cX10_pointsNow 4 (some .int) 1 := ⟨q_755, q_76, q_758, rfl, by decide +kernel, by decide +kernel⟩
theorem cw_X10_178 : CWs RX10 178 RX3 yX3_call cX3_call 2 (some .int) 1 := ⟨q_759, q_87, q_762, rfl, by decide +kernel, by decide +kernel⟩
theorem cw_X10_184 : CWs RX10 184 RX10 yX10_isPlay cX10_isPlay 2 (some .boolean) 1 := ⟨q_767, q_76, q_770, rfl, by decide +kernel, by decide +kernel⟩
theorem cw_X10_197 : CWs RX10 197 RX3 yX3_isReviewed cX3_isReviewed 2 (some .boolean) 1 := ⟨q_771, q_87, q_774, rfl, by decide +kernel, by decide +kernel⟩
theorem cw_X10_200 : CWs RX10 200 RX3 yX3_isBoarded cX3_isBoarded 2 (some .boolean) 1 := ⟨q_775, q_87, q_778, rfl, by decide +kernel, by decide +kernel⟩
theorem cw_X10_228 : CWs RX10 228 RX4 yX4_byFrames cX4_byFrames 5 (some .int) 3 := ⟨q_783, q_86, q_786, rfl, by decide +kernel, by decide +kernel⟩
theorem cw_X10_232 : CWs RX10 232 RX9 yX9_allCameras cX9_allCameras 1 (some .int) 0 := ⟨q_819, q_77, q_822, rfl, by decide +kernel, by decide +kernel⟩
theorem cw_X10_236 : CWs RX10 236 RX6 yX6_framesOf cX6_framesOf 4 (some .int) 1 := ⟨q_823, q_81, q_826, rfl, by decide +kernel, by decide +kernel⟩
theorem cw_X10_240 : CWs RX10 240 RX6 yX6_allFrames cX6_allFrames 1 (some .int) 0 := ⟨q_832, q_81, q_835, rfl, by decide +kernel, by decide +kernel⟩
theorem cw_X10_243 : CWs RX10 243 RX4 yX4_sureOf cX4_sureOf 5 (some (.object "ReplayBooth$Bounds")) 3 := ⟨q_836, q_86, q_790, rfl, by decide +kernel, by decide +kernel⟩
theorem cw_X10_248 : CWs RX10 248 RX2 yX2_markLess cX2_markLess 3 (some .int) 2 := ⟨q_838, q_78, q_810, rfl, by decide +kernel, by decide +kernel⟩
theorem cw_X10_254 : CWs RX10 254 RX4 yX4_fewestFrames cX4_fewestFrames 3 (some .int) 2 := ⟨q_845, q_86, q_848, rfl, by decide +kernel, by decide +kernel⟩
theorem cw_X10_258 : CWs RX10 258 RX4 yX4_keyFrames cX4_keyFrames 6 (some .int) 2 := ⟨q_868, q_86, q_871, rfl, by decide +kernel, by decide +kernel⟩
theorem cw_X10_261 : CWs RX10 261 RX4 yX4_fewestCameras cX4_fewestCameras 7 (some .int) 2 := ⟨q_876, q_86, q_879, rfl, by decide +kernel, by decide +kernel⟩
theorem cw_X10_264 : CWs RX10 264 RX4 yX4_fewestLeftOut cX4_fewestLeftOut 3 (some .int) 2 := ⟨q_886, q_86, q_889, rfl, by decide +kernel, by decide +kernel⟩
theorem cw_X10_267 : CWs RX10 267 RX10 yX10_callNow cX10_callNow 2 (some .int) 1 := ⟨q_898, q_76, q_901, rfl, by decide +kernel, by decide +kernel⟩
theorem cw_X10_270 : CWs RX10 270 RX4 yX4_review cX4_review 7 (some .int) 3 := ⟨q_902, q_86, q_905, rfl, by decide +kernel, by decide +kernel⟩
theorem cw_X10_279 : CWs RX10 279 RX10 yX10_startAct cX10_startAct 1 none 0 := ⟨q_910, q_76, q_913, rfl, by decide +kernel, by decide +kernel⟩
theorem cw_X10_282 : CWs RX10 282 RX3 yX3_happen cX3_happen 3 none 2 := ⟨q_920, q_87, q_923, rfl, by decide +kernel, by decide +kernel⟩
theorem cw_X10_286 : CWs RX10 286 RX9 yX9_isReviewedAtOnce cX9_isReviewedAtOnce 2 (some .boolean) 1 := ⟨q_924, q_77, q_927, rfl, by decide +kernel, by decide +kernel⟩
theorem cw_X10_289 : CWs RX10 289 RX10 yX10_reviewNow cX10_reviewNow 4 (some .int) 2 := ⟨q_928, q_76, q_931, rfl, by decide +kernel, by decide +kernel⟩
theorem cw_X10_292 : CWs RX10 292 RX10 yX10_canChallenge cX10_canChallenge 3 (some .boolean) 2 := ⟨q_949, q_76, q_952, rfl, by decide +kernel, by decide +kernel⟩
theorem cw_X10_296 : CWs RX10 296 RX9 yX9_leftWhenWon cX9_leftWhenWon 5 (some .int) 2 := ⟨q_953, q_77, q_956, rfl, by decide +kernel, by decide +kernel⟩
theorem cw_X10_310 : CWs RX10 310 RX3 yX3_addLog cX3_addLog 6 none 4 := ⟨q_932, q_87, q_935, rfl, by decide +kernel, by decide +kernel⟩
theorem cw_X10_314 : CWs RX10 314 RX3 yX3_turn cX3_turn 2 none 1 := ⟨q_937, q_87, q_940, rfl, by decide +kernel, by decide +kernel⟩
theorem cw_X10_317 : CWs RX10 317 RX3 yX3_restartBehind cX3_restartBehind 3 none 1 := ⟨q_941, q_87, q_944, rfl, by decide +kernel, by decide +kernel⟩
theorem cw_X10_323 : CWs RX10 323 RX3 yX3_copyFrom cX3_copyFrom 2 none 1 := ⟨q_914, q_87, q_917, rfl, by decide +kernel, by decide +kernel⟩
theorem cw_X10_332 : CWs RX10 332 RX10 yX10_isBoard cX10_isBoard 2 (some .boolean) 1 := ⟨q_962, q_76, q_965, rfl, by decide +kernel, by decide +kernel⟩
theorem cw_X10_335 : CWs RX10 335 RX10 yX10_wouldOverturn cX10_wouldOverturn 5 (some .boolean) 2 := ⟨q_966, q_76, q_969, rfl, by decide +kernel, by decide +kernel⟩
theorem cw_X10_341 : CWs RX10 341 RX3 yX3_giveBack cX3_giveBack 3 none 1 := ⟨q_975, q_87, q_978, rfl, by decide +kernel, by decide +kernel⟩
theorem cw_X10_348 : CWs RX10 348 RX4 yX4_membersAgainst cX4_membersAgainst 8 (some .int) 4 := ⟨q_970, q_86, q_973, rfl, by decide +kernel, by decide +kernel⟩
theorem cw_X10_352 : CWs RX10 352 RJ6 yJ6_bitCount_0f7a4 cJ6_bitCount_0f7a4 1 (some .int) 1 := ⟨q_974, q_100, q_860, rfl, by decide +kernel, by decide +kernel⟩
theorem cw_X10_362 : CWs RX10 362 RX10 yX10_pointsInTruth cX10_pointsInTruth 7 (some .int) 2 := ⟨q_995, q_76, q_998, rfl, by decide +kernel, by decide +kernel⟩
theorem cw_X10_365 : CWs RX10 365 RX4 yX4_trueCall cX4_trueCall 5 (some .int) 3 := ⟨q_999, q_86, q_1002, rfl, by decide +kernel, by decide +kernel⟩
theorem cw_X10_368 : CWs RX10 368 RX10 yX10_callUnchallenged cX10_callUnchallenged 4 (some .int) 1 := ⟨q_1015, q_76, q_1018, rfl, by decide +kernel, by decide +kernel⟩
theorem cw_X10_371 : CWs RX10 371 RX10 yX10_isAgainst cX10_isAgainst 2 (some .boolean) 2 := ⟨q_1023, q_76, q_1025, rfl, by decide +kernel, by decide +kernel⟩
theorem cw_X10_375 : CWs RX10 375 RX10 yX10_neverLacks cX10_neverLacks 7 (some .boolean) 3 := ⟨q_1026, q_76, q_1029, rfl, by decide +kernel, by decide +kernel⟩
theorem cw_X10_379 : CWs RX10 379 RX10 yX10_secondsOf cX10_secondsOf 4 (some .int) 1 := ⟨q_1034, q_76, q_1037, rfl, by decide +kernel, by decide +kernel⟩
theorem cw_X10_390 : CWs RX10 390 RX10 yX10_narrowed cX10_narrowed 2 (some .int) 2 := ⟨q_1046, q_76, q_1048, rfl, by decide +kernel, by decide +kernel⟩
theorem cw_X10_65 : CWs RX10 65 RX10 yX10_tapeNumber cX10_tapeNumber 3 none 1 := ⟨q_521, q_76, q_524, rfl, by decide +kernel, by decide +kernel⟩
theorem cw_X10_69 : CWs RX10 69 RX7 yX7_begin cX7_begin 3 none 2 := ⟨q_529, q_83, q_532, rfl, by decide +kernel, by decide +kernel⟩
theorem cw_X10_82 : CWs RX10 82 RX7 yX7_tellLine cX7_tellLine 2 (some .boolean) 0 := ⟨q_584, q_83, q_587, rfl, by decide +kernel, by decide +kernel⟩
theorem cw_X10_89 : CWs RX10 89 RX7 yX7_take cX7_take 2 (some .boolean) 1 := ⟨q_725, q_83, q_684, rfl, by decide +kernel, by decide +kernel⟩
theorem cw_X10_96 : CWs RX10 96 RX3 yX3_begin cX3_begin 3 none 1 := ⟨q_726, q_87, q_729, rfl, by decide +kernel, by decide +kernel⟩
theorem cw_X11_115 : CWs RX11 115 RX11 yX11_usual cX11_usual 3 none 1 := ⟨q_1156, q_88, q_1159, rfl, by decide +kernel, by decide +kernel⟩
theorem cw_X11_126 : CWs RX11 126 RX11 yX11_puts cX11_puts 3 none 1 := ⟨q_1311, q_88, q_1314, rfl, by decide +kernel, by decide +kernel⟩
theorem cw_X11_138 : CWs RX11 138 RX11 yX11_see cX11_see 2 (some .int) 1 := ⟨q_1326, q_88, q_1329, rfl, by decide +kernel, by decide +kernel⟩
theorem cw_X11_156 : CWs RX11 156 RX11 yX11_within cX11_within 6 (some .boolean) 3 := ⟨q_1319, q_88, q_1321, rfl, by decide +kernel, by decide +kernel⟩
theorem cw_X11_172 : CWs RX11 172 RJ0 yJ0_length_8abf5 cJ0_length_8abf5 1 (some .int) 0 := ⟨q_1347, q_91, q_1350, rfl, by decide +kernel, by decide +kernel⟩
theorem cw_X11_178 : CWs RX11 178 RJ0 yJ0_charAt_5068e cJ0_charAt_5068e 2 (some .char) 1 := ⟨q_1357, q_91, q_1360, rfl, by decide +kernel, by decide +kernel⟩
theorem cw_X11_182 : CWs RX11 182 RX11 yX11_spelled cX11_spelled 4 (some .long) 1 := ⟨q_1344, q_88, q_1346, rfl, by decide +kernel, by decide +kernel⟩
theorem cw_X11_188 : CWs RX11 188 RX11 yX11_is cX11_is 2 (some .boolean) 1 := ⟨q_1340, q_88, q_1343, rfl, by decide +kernel, by decide +kernel⟩
theorem cw_X11_220 : CWs RX11 220 RX11 yX11_isOwn cX11_isOwn 2 (some .boolean) 0 := ⟨q_1419, q_88, q_1422, rfl, by decide +kernel, by decide +kernel⟩
theorem cw_X11_224 : CWs RX11 224 RX11 yX11_must cX11_must 3 (some .boolean) 2 := ⟨q_1403, q_88, q_1406, rfl, by decide +kernel, by decide +kernel⟩
theorem cw_X11_228 : CWs RX11 228 RX11 yX11_steps cX11_steps 2 none 0 := ⟨q_1322, q_88, q_1325, rfl, by decide +kernel, by decide +kernel⟩
theorem cw_X11_231 : CWs RX11 231 RX11 yX11_read cX11_read 2 (some .int) 1 := ⟨q_1399, q_88, q_1402, rfl, by decide +kernel, by decide +kernel⟩
theorem cw_X11_234 : CWs RX11 234 RX11 yX11_isName cX11_isName 1 (some .boolean) 0 := ⟨q_1415, q_88, q_1418, rfl, by decide +kernel, by decide +kernel⟩
theorem cw_X11_237 : CWs RX11 237 RX11 yX11_named cX11_named 3 (some .int) 1 := ⟨q_1438, q_88, q_1441, rfl, by decide +kernel, by decide +kernel⟩
theorem cw_X11_240 : CWs RX11 240 RX11 yX11_looksUp cX11_looksUp 2 (some .int) 1 := ⟨q_1454, q_88, q_1457, rfl, by decide +kernel, by decide +kernel⟩
theorem cw_X11_243 : CWs RX11 243 RX11 yX11_newName cX11_newName 4 none 1 := ⟨q_1411, q_88, q_1414, rfl, by decide +kernel, by decide +kernel⟩
theorem cw_X11_246 : CWs RX11 246 RX11 yX11_number cX11_number 4 (some .int) 2 := ⟨q_1442, q_88, q_1445, rfl, by decide +kernel, by decide +kernel⟩
theorem cw_X11_250 : CWs RX11 250 RX11 yX11_known cX11_known 3 (some .int) 1 := ⟨q_1450, q_88, q_1453, rfl, by decide +kernel, by decide +kernel⟩
theorem cw_X11_253 : CWs RX11 253 RX11 yX11_takesWord cX11_takesWord 2 none 1 := ⟨q_1474, q_88, q_1477, rfl, by decide +kernel, by decide +kernel⟩
theorem cw_X11_257 : CWs RX11 257 RX11 yX11_maybe cX11_maybe 3 (some .boolean) 1 := ⟨q_1466, q_88, q_1469, rfl, by decide +kernel, by decide +kernel⟩
theorem cw_X11_260 : CWs RX11 260 RX11 yX11_pair cX11_pair 3 none 1 := ⟨q_1470, q_88, q_1473, rfl, by decide +kernel, by decide +kernel⟩
theorem cw_X11_263 : CWs RX11 263 RX11 yX11_member cX11_member 2 (some .int) 0 := ⟨q_1482, q_88, q_1485, rfl, by decide +kernel, by decide +kernel⟩
theorem cw_X11_266 : CWs RX11 266 RX11 yX11_has cX11_has 2 (some .boolean) 2 := ⟨q_1494, q_88, q_1496, rfl, by decide +kernel, by decide +kernel⟩
theorem cw_X11_270 : CWs RX11 270 RX11 yX11_readFrame cX11_readFrame 5 none 1 := ⟨q_1490, q_88, q_1493, rfl, by decide +kernel, by decide +kernel⟩
theorem cw_X11_273 : CWs RX11 273 RX11 yX11_begins cX11_begins 3 (some .boolean) 2 := ⟨q_1395, q_88, q_1398, rfl, by decide +kernel, by decide +kernel⟩
theorem cw_X11_276 : CWs RX11 276 RX11 yX11_cameraLine cX11_cameraLine 2 none 0 := ⟨q_1407, q_88, q_1410, rfl, by decide +kernel, by decide +kernel⟩
theorem cw_X11_279 : CWs RX11 279 RX11 yX11_flashLine cX11_flashLine 2 none 0 := ⟨q_1446, q_88, q_1449, rfl, by decide +kernel, by decide +kernel⟩
theorem cw_X11_282 : CWs RX11 282 RX11 yX11_sideLine cX11_sideLine 1 none 0 := ⟨q_1458, q_88, q_1461, rfl, by decide +kernel, by decide +kernel⟩
theorem cw_X11_285 : CWs RX11 285 RX11 yX11_kindLine cX11_kindLine 2 none 0 := ⟨q_1462, q_88, q_1465, rfl, by decide +kernel, by decide +kernel⟩
theorem cw_X11_288 : CWs RX11 288 RX11 yX11_boardLine cX11_boardLine 2 none 0 := ⟨q_1478, q_88, q_1481, rfl, by decide +kernel, by decide +kernel⟩
theorem cw_X11_291 : CWs RX11 291 RX11 yX11_playLine cX11_playLine 2 none 0 := ⟨q_1486, q_88, q_1489, rfl, by decide +kernel, by decide +kernel⟩
theorem cw_X11_294 : CWs RX11 294 RX11 yX11_ruleLine cX11_ruleLine 2 none 1 := ⟨q_1497, q_88, q_1500, rfl, by decide +kernel, by decide +kernel⟩
theorem cw_X11_297 : CWs RX11 297 RX11 yX11_takes cX11_takes 2 none 1 := ⟨q_1501, q_88, q_1504, rfl, by decide +kernel, by decide +kernel⟩
theorem cw_X11_300 : CWs RX11 300 RX11 yX11_copies cX11_copies 2 none 1 := ⟨q_1509, q_88, q_1511, rfl, by decide +kernel, by decide +kernel⟩
theorem cw_X11_307 : CWs RX11 307 RX11 yX11_lineHere cX11_lineHere 1 none 0 := ⟨q_1335, q_88, q_1338, rfl, by decide +kernel, by decide +kernel⟩
theorem cw_X11_310 : CWs RX11 310 RX11 yX11_takesOver cX11_takesOver 2 none 0 := ⟨q_1505, q_88, q_1508, rfl, by decide +kernel, by decide +kernel⟩
theorem cw_X11_314 : CWs RX11 314 RX11 yX11_atMost cX11_atMost 4 none 3 := ⟨q_1522, q_88, q_1525, rfl, by decide +kernel, by decide +kernel⟩
theorem cw_X11_318 : CWs RX11 318 RX11 yX11_laysClocks cX11_laysClocks 5 none 0 := ⟨q_1517, q_88, q_1520, rfl, by decide +kernel, by decide +kernel⟩
theorem cw_X11_321 : CWs RX11 321 RX11 yX11_laysFrames cX11_laysFrames 7 none 2 := ⟨q_1566, q_88, q_1569, rfl, by decide +kernel, by decide +kernel⟩
theorem cw_X11_325 : CWs RX11 325 RX11 yX11_closes cX11_closes 4 (some .boolean) 0 := ⟨q_1526, q_88, q_1529, rfl, by decide +kernel, by decide +kernel⟩
theorem cw_X11_328 : CWs RX11 328 RX11 yX11_allFrames cX11_allFrames 2 (some .int) 1 := ⟨q_1583, q_88, q_1586, rfl, by decide +kernel, by decide +kernel⟩
theorem cw_X11_331 : CWs RX11 331 RX11 yX11_verdictOf cX11_verdictOf 6 (some .int) 2 := ⟨q_1562, q_88, q_1565, rfl, by decide +kernel, by decide +kernel⟩
theorem cw_X11_336 : CWs RX11 336 RX11 yX11_isSide cX11_isSide 2 (some .boolean) 1 := ⟨q_1538, q_88, q_1541, rfl, by decide +kernel, by decide +kernel⟩
theorem cw_X11_340 : CWs RX11 340 RX11 yX11_pointsNow cX11_pointsNow 4 (some .int) 1 := ⟨q_1542, q_88, q_1545, rfl, by decide +kernel, by decide +kernel⟩
theorem cw_X11_343 : CWs RX11 343 RX11 yX11_isPlay cX11_isPlay 2 (some .boolean) 1 := ⟨q_1550, q_88, q_1553, rfl, by decide +kernel, by decide +kernel⟩
theorem cw_X11_346 : CWs RX11 346 RX11 yX11_framesOf cX11_framesOf 5 (some .int) 2 := ⟨q_1574, q_88, q_1577, rfl, by decide +kernel, by decide +kernel⟩
theorem cw_X11_352 : CWs RX11 352 RX11 yX11_bits cX11_bits 3 (some .int) 1 := ⟨q_1603, q_88, q_1605, rfl, by decide +kernel, by decide +kernel⟩
theorem cw_X11_355 : CWs RX11 355 RX11 yX11_byAll cX11_byAll 2 (some .int) 1 := ⟨q_1593, q_88, q_1596, rfl, by decide +kernel, by decide +kernel⟩
theorem cw_X11_358 : CWs RX11 358 RX11 yX11_isSure cX11_isSure 1 (some .boolean) 1 := ⟨q_1597, q_88, q_1599, rfl, by decide +kernel, by decide +kernel⟩
theorem cw_X11_361 : CWs RX11 361 RX11 yX11_isFewer cX11_isFewer 2 (some .boolean) 2 := ⟨q_1600, q_88, q_1602, rfl, by decide +kernel, by decide +kernel⟩
theorem cw_X11_369 : CWs RX11 369 RX11 yX11_callOf cX11_callOf 2 (some .int) 1 := ⟨q_1623, q_88, q_1626, rfl, by decide +kernel, by decide +kernel⟩
theorem cw_X11_372 : CWs RX11 372 RX11 yX11_review cX11_review 4 (some .int) 2 := ⟨q_1627, q_88, q_1630, rfl, by decide +kernel, by decide +kernel⟩
theorem cw_X11_375 : CWs RX11 375 RX11 yX11_secondsOf cX11_secondsOf 2 (some .int) 1 := ⟨q_1631, q_88, q_1634, rfl, by decide +kernel, by decide +kernel⟩
theorem cw_X11_378 : CWs RX11 378 RX11 yX11_logs cX11_logs 6 none 4 := ⟨q_1651, q_88, q_1654, rfl, by decide +kernel, by decide +kernel⟩
theorem cw_X11_382 : CWs RX11 382 RX11 yX11_forgets cX11_forgets 3 none 1 := ⟨q_1655, q_88, q_1658, rfl, by decide +kernel, by decide +kernel⟩
theorem cw_X11_385 : CWs RX11 385 RX11 yX11_keeps cX11_keeps 2 none 0 := ⟨q_1639, q_88, q_1642, rfl, by decide +kernel, by decide +kernel⟩
theorem cw_X11_388 : CWs RX11 388 RX11 yX11_isAtOnce cX11_isAtOnce 2 (some .boolean) 1 := ⟨q_1643, q_88, q_1646, rfl, by decide +kernel, by decide +kernel⟩
theorem cw_X11_391 : CWs RX11 391 RX11 yX11_reviewed cX11_reviewed 4 (some .int) 2 := ⟨q_1647, q_88, q_1650, rfl, by decide +kernel, by decide +kernel⟩
theorem cw_X11_394 : CWs RX11 394 RX11 yX11_gains cX11_gains 2 none 1 := ⟨q_1663, q_88, q_1666, rfl, by decide +kernel, by decide +kernel⟩
theorem cw_X11_397 : CWs RX11 397 RX11 yX11_isBoard cX11_isBoard 2 (some .boolean) 1 := ⟨q_1671, q_88, q_1674, rfl, by decide +kernel, by decide +kernel⟩
theorem cw_X11_400 : CWs RX11 400 RX11 yX11_against cX11_against 7 (some .int) 2 := ⟨q_1675, q_88, q_1678, rfl, by decide +kernel, by decide +kernel⟩
theorem cw_X11_403 : CWs RX11 403 RX11 yX11_trueCall cX11_trueCall 4 (some .int) 2 := ⟨q_1695, q_88, q_1698, rfl, by decide +kernel, by decide +kernel⟩
theorem cw_X11_406 : CWs RX11 406 RX11 yX11_isEnough cX11_isEnough 6 (some .boolean) 2 := ⟨q_1715, q_88, q_1718, rfl, by decide +kernel, by decide +kernel⟩
theorem cw_X11_411 : CWs RX11 411 RX11 yX11_timeOf cX11_timeOf 4 (some .int) 1 := ⟨q_1724, q_88, q_1727, rfl, by decide +kernel, by decide +kernel⟩
theorem cw_J0_1059 : CWs RJ0 1059 RJ3 yJ3_checkIndex_8e157 cJ3_checkIndex_8e157 3 (some .int) 3 := ⟨q_1373, q_93, q_1375, rfl, by decide +kernel, by decide +kernel⟩
theorem cw_J0_335 : CWs RJ0 335 RJ0 yJ0_coder_7d493 cJ0_coder_7d493 1 (some .byte) 0 := ⟨q_1351, q_91, q_1354, rfl, by decide +kernel, by decide +kernel⟩
theorem cw_J0_492 : CWs RJ0 492 RJ0 yJ0_isLatin1_aae02 cJ0_isLatin1_aae02 1 (some .boolean) 0 := ⟨q_1361, q_91, q_1364, rfl, by decide +kernel, by decide +kernel⟩
theorem cw_J0_495 : CWs RJ0 495 RJ1 yJ1_charAt_3b067 cJ1_charAt_3b067 2 (some .char) 2 := ⟨q_1365, q_92, q_1367, rfl, by decide +kernel, by decide +kernel⟩
theorem cw_J1_9 : CWs RJ1 9 RJ0 yJ0_checkIndex_df160 cJ0_checkIndex_df160 2 none 2 := ⟨q_1368, q_91, q_1370, rfl, by decide +kernel, by decide +kernel⟩
