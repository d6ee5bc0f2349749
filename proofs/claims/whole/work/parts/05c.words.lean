theorem w_102_11 : (.selects RX2 yX2_placeOf yX2_placeOf : Cond) ∈ UW := um (pv_2 _ (List.mem_of_getElem? (i := 11) (by decide +kernel))) (by decide +kernel)
theorem vl_X2_115 : VL 0 RX2 115 mX2_placeOf 0 1 := ⟨by decide, ⟨_, rfl⟩, ⟨_, _, rfl⟩, md_X2_placeOf, w_4_51, w_4_53, w_102_11⟩
theorem w_4_56 : (.methodLink RX2 119 yX0_isKept : Cond) ∈ UW := um (tb_4 _ (List.mem_of_getElem? (i := 56) (by decide +kernel))) (by decide +kernel)
theorem sl_X2_119 : SL RX2 119 mX0_isKept 4 := ⟨md_X0_isKept, w_4_56, w_4_57⟩
theorem w_4_63 : (.methodLink RX2 125 yX0_behindRun : Cond) ∈ UW := um (tb_4 _ (List.mem_of_getElem? (i := 63) (by decide +kernel))) (by decide +kernel)
theorem sl_X2_125 : SL RX2 125 mX0_behindRun 4 := ⟨md_X0_behindRun, w_4_63, w_4_64⟩
theorem w_4_55 : (.methodLink RX2 129 yX8_has : Cond) ∈ UW := um (tb_4 _ (List.mem_of_getElem? (i := 55) (by decide +kernel))) (by decide +kernel)
theorem vl_X2_129 : VL 0 RX2 129 mX8_has 6 1 := ⟨by decide, ⟨_, rfl⟩, ⟨_, _, rfl⟩, md_X8_has, w_4_55, w_3_169, w_3_170⟩
theorem w_4_88 : (.methodLink RX2 139 yX8_way : Cond) ∈ UW := um (tb_4 _ (List.mem_of_getElem? (i := 88) (by decide +kernel))) (by decide +kernel)
theorem vl_X2_139 : VL 0 RX2 139 mX8_way 6 2 := ⟨by decide, ⟨_, rfl⟩, ⟨_, _, rfl⟩, md_X8_way, w_4_88, w_3_204, w_3_205⟩
theorem w_4_76 : (.methodLink RX2 142 yX0_soonest : Cond) ∈ UW := um (tb_4 _ (List.mem_of_getElem? (i := 76) (by decide +kernel))) (by decide +kernel)
theorem sl_X2_142 : SL RX2 142 mX0_soonest 2 := ⟨md_X0_soonest, w_4_76, w_4_77⟩
theorem w_4_84 : (.methodLink RX2 146 yX2_beatsTo : Cond) ∈ UW := um (tb_4 _ (List.mem_of_getElem? (i := 84) (by decide +kernel))) (by decide +kernel)
theorem w_4_86 : (.instanceMethod yX2_beatsTo : Cond) ∈ UW := um (tb_4 _ (List.mem_of_getElem? (i := 86) (by decide +kernel))) (by decide +kernel)
theorem w_102_14 : (.selects RX2 yX2_beatsTo yX2_beatsTo : Cond) ∈ UW := um (pv_2 _ (List.mem_of_getElem? (i := 14) (by decide +kernel))) (by decide +kernel)
theorem vl_X2_146 : VL 0 RX2 146 mX2_beatsTo 0 2 := ⟨by decide, ⟨_, rfl⟩, ⟨_, _, rfl⟩, md_X2_beatsTo, w_4_84, w_4_86, w_102_14⟩
theorem w_4_89 : (.methodLink RX2 149 Lib.Math.max.name : Cond) ∈ UW := um (tb_4 _ (List.mem_of_getElem? (i := 89) (by decide +kernel))) (by decide +kernel)
theorem w_4_106 : (.methodLink RX2 154 yX2_lastsFrom : Cond) ∈ UW := um (tb_4 _ (List.mem_of_getElem? (i := 106) (by decide +kernel))) (by decide +kernel)
theorem vl_X2_154 : VL 0 RX2 154 mX2_lastsFrom 0 1 := ⟨by decide, ⟨_, rfl⟩, ⟨_, _, rfl⟩, md_X2_lastsFrom, w_4_106, w_4_107, w_4_108⟩
theorem w_4_110 : (.methodLink RX2 157 yX2_rowLength : Cond) ∈ UW := um (tb_4 _ (List.mem_of_getElem? (i := 110) (by decide +kernel))) (by decide +kernel)
theorem w_4_112 : (.instanceMethod yX2_rowLength : Cond) ∈ UW := um (tb_4 _ (List.mem_of_getElem? (i := 112) (by decide +kernel))) (by decide +kernel)
theorem w_103_0 : (.selects RX2 yX2_rowLength yX2_rowLength : Cond) ∈ UW := um (pv_3 _ (List.mem_of_getElem? (i := 0) (by decide +kernel))) (by decide +kernel)
theorem vl_X2_157 : VL 0 RX2 157 mX2_rowLength 0 0 := ⟨by decide, ⟨_, rfl⟩, ⟨_, _, rfl⟩, md_X2_rowLength, w_4_110, w_4_112, w_103_0⟩
theorem w_4_114 : (.methodLink RX2 160 yX2_findRound : Cond) ∈ UW := um (tb_4 _ (List.mem_of_getElem? (i := 114) (by decide +kernel))) (by decide +kernel)
theorem w_4_116 : (.instanceMethod yX2_findRound : Cond) ∈ UW := um (tb_4 _ (List.mem_of_getElem? (i := 116) (by decide +kernel))) (by decide +kernel)
theorem w_103_1 : (.selects RX2 yX2_findRound yX2_findRound : Cond) ∈ UW := um (pv_3 _ (List.mem_of_getElem? (i := 1) (by decide +kernel))) (by decide +kernel)
theorem vl_X2_160 : VL 0 RX2 160 mX2_findRound 0 0 := ⟨by decide, ⟨_, rfl⟩, ⟨_, _, rfl⟩, md_X2_findRound, w_4_114, w_4_116, w_103_1⟩
theorem w_4_98 : (.methodLink RX2 163 yX2_nextRun : Cond) ∈ UW := um (tb_4 _ (List.mem_of_getElem? (i := 98) (by decide +kernel))) (by decide +kernel)
theorem w_4_100 : (.instanceMethod yX2_nextRun : Cond) ∈ UW := um (tb_4 _ (List.mem_of_getElem? (i := 100) (by decide +kernel))) (by decide +kernel)
theorem w_102_15 : (.selects RX2 yX2_nextRun yX2_nextRun : Cond) ∈ UW := um (pv_2 _ (List.mem_of_getElem? (i := 15) (by decide +kernel))) (by decide +kernel)
theorem vl_X2_163 : VL 0 RX2 163 mX2_nextRun 0 1 := ⟨by decide, ⟨_, rfl⟩, ⟨_, _, rfl⟩, md_X2_nextRun, w_4_98, w_4_100, w_102_15⟩
theorem w_3_151 : (.methodLink RX3 28 arraycopyName : Cond) ∈ UW := um (tb_3 _ (List.mem_of_getElem? (i := 151) (by decide +kernel))) (by decide +kernel)
theorem w_3_141 : (.native arraycopyName : Cond) ∈ UW := um (tb_3 _ (List.mem_of_getElem? (i := 141) (by decide +kernel))) (by decide +kernel)
theorem w_3_140 : (.static arraycopyName : Cond) ∈ UW := um (tb_3 _ (List.mem_of_getElem? (i := 140) (by decide +kernel))) (by decide +kernel)
theorem w_1_17 : (.initialized "java/lang/System" : Cond) ∈ UW := um (tb_1 _ (List.mem_of_getElem? (i := 17) (by decide +kernel))) (by decide +kernel)
theorem ac_X3_28 : ACP RX3 28 := ⟨w_3_151, w_3_141, w_3_140, w_1_17⟩
theorem w_3_192 : (.methodLink RX4 56 yX4_begin : Cond) ∈ UW := um (tb_3 _ (List.mem_of_getElem? (i := 192) (by decide +kernel))) (by decide +kernel)
theorem w_3_194 : (.instanceMethod yX4_begin : Cond) ∈ UW := um (tb_3 _ (List.mem_of_getElem? (i := 194) (by decide +kernel))) (by decide +kernel)
theorem w_101_14 : (.selects RX4 yX4_begin yX4_begin : Cond) ∈ UW := um (pv_1 _ (List.mem_of_getElem? (i := 14) (by decide +kernel))) (by decide +kernel)
theorem vl_X4_56 : VL 0 RX4 56 mX4_begin 2 1 := ⟨by decide, ⟨_, rfl⟩, ⟨_, _, rfl⟩, md_X4_begin, w_3_192, w_3_194, w_101_14⟩
theorem w_3_197 : (.methodLink RX4 60 yX7_has : Cond) ∈ UW := um (tb_3 _ (List.mem_of_getElem? (i := 197) (by decide +kernel))) (by decide +kernel)
theorem vl_X4_60 : VL 0 RX4 60 mX7_has 5 1 := ⟨by decide, ⟨_, rfl⟩, ⟨_, _, rfl⟩, md_X7_has, w_3_197, w_3_181, w_3_182⟩
theorem w_3_198 : (.methodLink RX4 72 yX4_may : Cond) ∈ UW := um (tb_3 _ (List.mem_of_getElem? (i := 198) (by decide +kernel))) (by decide +kernel)
theorem w_3_200 : (.instanceMethod yX4_may : Cond) ∈ UW := um (tb_3 _ (List.mem_of_getElem? (i := 200) (by decide +kernel))) (by decide +kernel)
theorem w_101_15 : (.selects RX4 yX4_may yX4_may : Cond) ∈ UW := um (pv_1 _ (List.mem_of_getElem? (i := 15) (by decide +kernel))) (by decide +kernel)
theorem vl_X4_72 : VL 0 RX4 72 mX4_may 2 2 := ⟨by decide, ⟨_, rfl⟩, ⟨_, _, rfl⟩, md_X4_may, w_3_198, w_3_200, w_101_15⟩
theorem w_3_213 : (.methodLink RX4 76 yX4_perform : Cond) ∈ UW := um (tb_3 _ (List.mem_of_getElem? (i := 213) (by decide +kernel))) (by decide +kernel)
theorem w_3_215 : (.instanceMethod yX4_perform : Cond) ∈ UW := um (tb_3 _ (List.mem_of_getElem? (i := 215) (by decide +kernel))) (by decide +kernel)
theorem w_102_0 : (.selects RX4 yX4_perform yX4_perform : Cond) ∈ UW := um (pv_2 _ (List.mem_of_getElem? (i := 0) (by decide +kernel))) (by decide +kernel)
theorem vl_X4_76 : VL 0 RX4 76 mX4_perform 2 2 := ⟨by decide, ⟨_, rfl⟩, ⟨_, _, rfl⟩, md_X4_perform, w_3_213, w_3_215, w_102_0⟩
theorem w_5_72 : (.methodLink RX4 80 yX4_draw : Cond) ∈ UW := um (tb_5 _ (List.mem_of_getElem? (i := 72) (by decide +kernel))) (by decide +kernel)
theorem w_5_74 : (.instanceMethod yX4_draw : Cond) ∈ UW := um (tb_5 _ (List.mem_of_getElem? (i := 74) (by decide +kernel))) (by decide +kernel)
theorem w_103_10 : (.selects RX4 yX4_draw yX4_draw : Cond) ∈ UW := um (pv_3 _ (List.mem_of_getElem? (i := 10) (by decide +kernel))) (by decide +kernel)
theorem vl_X4_80 : VL 0 RX4 80 mX4_draw 2 1 := ⟨by decide, ⟨_, rfl⟩, ⟨_, _, rfl⟩, md_X4_draw, w_5_72, w_5_74, w_103_10⟩
theorem w_5_77 : (.methodLink RX4 84 yX4_kindDrawn : Cond) ∈ UW := um (tb_5 _ (List.mem_of_getElem? (i := 77) (by decide +kernel))) (by decide +kernel)
theorem w_5_78 : (.static yX4_kindDrawn : Cond) ∈ UW := um (tb_5 _ (List.mem_of_getElem? (i := 78) (by decide +kernel))) (by decide +kernel)
theorem sl_X4_84 : SL RX4 84 mX4_kindDrawn 1 := ⟨md_X4_kindDrawn, w_5_77, w_5_78⟩
theorem w_5_76 : (.constant RX4 90 1103515245 : Cond) ∈ UW := um (tb_5 _ (List.mem_of_getElem? (i := 76) (by decide +kernel))) (by decide +kernel)
theorem w_3_221 : (.methodLink RX4 91 Lib.Math.max.name : Cond) ∈ UW := um (tb_3 _ (List.mem_of_getElem? (i := 221) (by decide +kernel))) (by decide +kernel)
theorem w_3_196 : (.methodLink RX4 97 yX8_copyFrom : Cond) ∈ UW := um (tb_3 _ (List.mem_of_getElem? (i := 196) (by decide +kernel))) (by decide +kernel)
theorem vl_X4_97 : VL 0 RX4 97 mX8_copyFrom 6 1 := ⟨by decide, ⟨_, rfl⟩, ⟨_, _, rfl⟩, md_X8_copyFrom, w_3_196, w_3_136, w_3_137⟩
theorem w_3_202 : (.methodLink RX4 103 yX8_has : Cond) ∈ UW := um (tb_3 _ (List.mem_of_getElem? (i := 202) (by decide +kernel))) (by decide +kernel)
theorem vl_X4_103 : VL 0 RX4 103 mX8_has 6 1 := ⟨by decide, ⟨_, rfl⟩, ⟨_, _, rfl⟩, md_X8_has, w_3_202, w_3_169, w_3_170⟩
theorem w_3_203 : (.methodLink RX4 110 yX8_way : Cond) ∈ UW := um (tb_3 _ (List.mem_of_getElem? (i := 203) (by decide +kernel))) (by decide +kernel)
theorem vl_X4_110 : VL 0 RX4 110 mX8_way 6 2 := ⟨by decide, ⟨_, rfl⟩, ⟨_, _, rfl⟩, md_X8_way, w_3_203, w_3_204, w_3_205⟩
theorem w_3_217 : (.methodLink RX4 116 yX4_passBeat : Cond) ∈ UW := um (tb_3 _ (List.mem_of_getElem? (i := 217) (by decide +kernel))) (by decide +kernel)
theorem w_3_219 : (.instanceMethod yX4_passBeat : Cond) ∈ UW := um (tb_3 _ (List.mem_of_getElem? (i := 219) (by decide +kernel))) (by decide +kernel)
theorem w_102_1 : (.selects RX4 yX4_passBeat yX4_passBeat : Cond) ∈ UW := um (pv_2 _ (List.mem_of_getElem? (i := 1) (by decide +kernel))) (by decide +kernel)
theorem vl_X4_116 : VL 0 RX4 116 mX4_passBeat 2 1 := ⟨by decide, ⟨_, rfl⟩, ⟨_, _, rfl⟩, md_X4_passBeat, w_3_217, w_3_219, w_102_1⟩
theorem w_3_222 : (.methodLink RX4 120 yX4_runTo : Cond) ∈ UW := um (tb_3 _ (List.mem_of_getElem? (i := 222) (by decide +kernel))) (by decide +kernel)
theorem w_3_224 : (.instanceMethod yX4_runTo : Cond) ∈ UW := um (tb_3 _ (List.mem_of_getElem? (i := 224) (by decide +kernel))) (by decide +kernel)
theorem w_102_2 : (.selects RX4 yX4_runTo yX4_runTo : Cond) ∈ UW := um (pv_2 _ (List.mem_of_getElem? (i := 2) (by decide +kernel))) (by decide +kernel)
theorem vl_X4_120 : VL 0 RX4 120 mX4_runTo 2 1 := ⟨by decide, ⟨_, rfl⟩, ⟨_, _, rfl⟩, md_X4_runTo, w_3_222, w_3_224, w_102_2⟩
theorem w_3_230 : (.methodLink RX4 123 yX4_setUp : Cond) ∈ UW := um (tb_3 _ (List.mem_of_getElem? (i := 230) (by decide +kernel))) (by decide +kernel)
theorem w_3_232 : (.instanceMethod yX4_setUp : Cond) ∈ UW := um (tb_3 _ (List.mem_of_getElem? (i := 232) (by decide +kernel))) (by decide +kernel)
theorem w_102_4 : (.selects RX4 yX4_setUp yX4_setUp : Cond) ∈ UW := um (pv_2 _ (List.mem_of_getElem? (i := 4) (by decide +kernel))) (by decide +kernel)
theorem vl_X4_123 : VL 0 RX4 123 mX4_setUp 2 1 := ⟨by decide, ⟨_, rfl⟩, ⟨_, _, rfl⟩, md_X4_setUp, w_3_230, w_3_232, w_102_4⟩
theorem w_3_234 : (.methodLink RX4 126 yX4_blowAt : Cond) ∈ UW := um (tb_3 _ (List.mem_of_getElem? (i := 234) (by decide +kernel))) (by decide +kernel)
theorem w_3_236 : (.instanceMethod yX4_blowAt : Cond) ∈ UW := um (tb_3 _ (List.mem_of_getElem? (i := 236) (by decide +kernel))) (by decide +kernel)
theorem w_102_5 : (.selects RX4 yX4_blowAt yX4_blowAt : Cond) ∈ UW := um (pv_2 _ (List.mem_of_getElem? (i := 5) (by decide +kernel))) (by decide +kernel)
theorem vl_X4_126 : VL 0 RX4 126 mX4_blowAt 2 1 := ⟨by decide, ⟨_, rfl⟩, ⟨_, _, rfl⟩, md_X4_blowAt, w_3_234, w_3_236, w_102_5⟩
theorem w_3_226 : (.methodLink RX4 129 yX4_passWay : Cond) ∈ UW := um (tb_3 _ (List.mem_of_getElem? (i := 226) (by decide +kernel))) (by decide +kernel)
theorem w_3_228 : (.instanceMethod yX4_passWay : Cond) ∈ UW := um (tb_3 _ (List.mem_of_getElem? (i := 228) (by decide +kernel))) (by decide +kernel)
theorem w_102_3 : (.selects RX4 yX4_passWay yX4_passWay : Cond) ∈ UW := um (pv_2 _ (List.mem_of_getElem? (i := 3) (by decide +kernel))) (by decide +kernel)
theorem vl_X4_129 : VL 0 RX4 129 mX4_passWay 2 1 := ⟨by decide, ⟨_, rfl⟩, ⟨_, _, rfl⟩, md_X4_passWay, w_3_226, w_3_228, w_102_3⟩
theorem w_4_6 : (.methodLink RX4 132 yX4_standingBits : Cond) ∈ UW := um (tb_4 _ (List.mem_of_getElem? (i := 6) (by decide +kernel))) (by decide +kernel)
theorem w_4_8 : (.instanceMethod yX4_standingBits : Cond) ∈ UW := um (tb_4 _ (List.mem_of_getElem? (i := 8) (by decide +kernel))) (by decide +kernel)
theorem w_102_6 : (.selects RX4 yX4_standingBits yX4_standingBits : Cond) ∈ UW := um (pv_2 _ (List.mem_of_getElem? (i := 6) (by decide +kernel))) (by decide +kernel)
theorem vl_X4_132 : VL 0 RX4 132 mX4_standingBits 2 0 := ⟨by decide, ⟨_, rfl⟩, ⟨_, _, rfl⟩, md_X4_standingBits, w_4_6, w_4_8, w_102_6⟩
theorem w_2_226 : (.methodLink RX5 63 Lib.Math.min.name : Cond) ∈ UW := um (tb_2 _ (List.mem_of_getElem? (i := 226) (by decide +kernel))) (by decide +kernel)
theorem w_2_229 : (.methodLink RX5 69 yX8_clear : Cond) ∈ UW := um (tb_2 _ (List.mem_of_getElem? (i := 229) (by decide +kernel))) (by decide +kernel)
theorem w_2_230 : (.instanceMethod yX8_clear : Cond) ∈ UW := um (tb_2 _ (List.mem_of_getElem? (i := 230) (by decide +kernel))) (by decide +kernel)
theorem w_2_231 : (.selects RX8 yX8_clear yX8_clear : Cond) ∈ UW := um (tb_2 _ (List.mem_of_getElem? (i := 231) (by decide +kernel))) (by decide +kernel)
theorem vl_X5_69 : VL 0 RX5 69 mX8_clear 6 0 := ⟨by decide, ⟨_, rfl⟩, ⟨_, _, rfl⟩, md_X8_clear, w_2_229, w_2_230, w_2_231⟩
theorem w_2_233 : (.methodLink RX5 75 yX3_clear : Cond) ∈ UW := um (tb_2 _ (List.mem_of_getElem? (i := 233) (by decide +kernel))) (by decide +kernel)
theorem w_2_234 : (.instanceMethod yX3_clear : Cond) ∈ UW := um (tb_2 _ (List.mem_of_getElem? (i := 234) (by decide +kernel))) (by decide +kernel)
theorem w_2_235 : (.selects RX3 yX3_clear yX3_clear : Cond) ∈ UW := um (tb_2 _ (List.mem_of_getElem? (i := 235) (by decide +kernel))) (by decide +kernel)
theorem vl_X5_75 : VL 0 RX5 75 mX3_clear 1 0 := ⟨by decide, ⟨_, rfl⟩, ⟨_, _, rfl⟩, md_X3_clear, w_2_233, w_2_234, w_2_235⟩
theorem w_2_237 : (.methodLink RX5 76 yX5_nextToken : Cond) ∈ UW := um (tb_2 _ (List.mem_of_getElem? (i := 237) (by decide +kernel))) (by decide +kernel)
theorem w_2_239 : (.instanceMethod yX5_nextToken : Cond) ∈ UW := um (tb_2 _ (List.mem_of_getElem? (i := 239) (by decide +kernel))) (by decide +kernel)
theorem w_101_1 : (.selects RX5 yX5_nextToken yX5_nextToken : Cond) ∈ UW := um (pv_1 _ (List.mem_of_getElem? (i := 1) (by decide +kernel))) (by decide +kernel)
theorem vl_X5_76 : VL 0 RX5 76 mX5_nextToken 3 0 := ⟨by decide, ⟨_, rfl⟩, ⟨_, _, rfl⟩, md_X5_nextToken, w_2_237, w_2_239, w_101_1⟩
theorem w_3_14 : (.methodLink RX5 79 yX5_readLine : Cond) ∈ UW := um (tb_3 _ (List.mem_of_getElem? (i := 14) (by decide +kernel))) (by decide +kernel)
theorem w_3_16 : (.instanceMethod yX5_readLine : Cond) ∈ UW := um (tb_3 _ (List.mem_of_getElem? (i := 16) (by decide +kernel))) (by decide +kernel)
theorem w_101_3 : (.selects RX5 yX5_readLine yX5_readLine : Cond) ∈ UW := um (pv_1 _ (List.mem_of_getElem? (i := 3) (by decide +kernel))) (by decide +kernel)
theorem vl_X5_79 : VL 0 RX5 79 mX5_readLine 3 1 := ⟨by decide, ⟨_, rfl⟩, ⟨_, _, rfl⟩, md_X5_readLine, w_3_14, w_3_16, w_101_3⟩
theorem w_3_18 : (.methodLink RX5 83 yX5_headOf : Cond) ∈ UW := um (tb_3 _ (List.mem_of_getElem? (i := 18) (by decide +kernel))) (by decide +kernel)
theorem w_3_20 : (.instanceMethod yX5_headOf : Cond) ∈ UW := um (tb_3 _ (List.mem_of_getElem? (i := 20) (by decide +kernel))) (by decide +kernel)
theorem w_101_4 : (.selects RX5 yX5_headOf yX5_headOf : Cond) ∈ UW := um (pv_1 _ (List.mem_of_getElem? (i := 4) (by decide +kernel))) (by decide +kernel)
theorem vl_X5_83 : VL 0 RX5 83 mX5_headOf 3 1 := ⟨by decide, ⟨_, rfl⟩, ⟨_, _, rfl⟩, md_X5_headOf, w_3_18, w_3_20, w_101_4⟩
theorem w_3_88 : (.methodLink RX5 87 yX5_refuse : Cond) ∈ UW := um (tb_3 _ (List.mem_of_getElem? (i := 88) (by decide +kernel))) (by decide +kernel)
theorem w_3_90 : (.instanceMethod yX5_refuse : Cond) ∈ UW := um (tb_3 _ (List.mem_of_getElem? (i := 90) (by decide +kernel))) (by decide +kernel)
theorem w_101_6 : (.selects RX5 yX5_refuse yX5_refuse : Cond) ∈ UW := um (pv_1 _ (List.mem_of_getElem? (i := 6) (by decide +kernel))) (by decide +kernel)
theorem vl_X5_87 : VL 0 RX5 87 mX5_refuse 3 0 := ⟨by decide, ⟨_, rfl⟩, ⟨_, _, rfl⟩, md_X5_refuse, w_3_88, w_3_90, w_101_6⟩
theorem w_3_92 : (.methodLink RX5 91 yX5_isFull : Cond) ∈ UW := um (tb_3 _ (List.mem_of_getElem? (i := 92) (by decide +kernel))) (by decide +kernel)
theorem w_3_94 : (.instanceMethod yX5_isFull : Cond) ∈ UW := um (tb_3 _ (List.mem_of_getElem? (i := 94) (by decide +kernel))) (by decide +kernel)
theorem w_101_7 : (.selects RX5 yX5_isFull yX5_isFull : Cond) ∈ UW := um (pv_1 _ (List.mem_of_getElem? (i := 7) (by decide +kernel))) (by decide +kernel)
theorem vl_X5_91 : VL 0 RX5 91 mX5_isFull 3 1 := ⟨by decide, ⟨_, rfl⟩, ⟨_, _, rfl⟩, md_X5_isFull, w_3_92, w_3_94, w_101_7⟩
theorem w_3_96 : (.methodLink RX5 94 yX5_blame : Cond) ∈ UW := um (tb_3 _ (List.mem_of_getElem? (i := 96) (by decide +kernel))) (by decide +kernel)
theorem w_3_98 : (.instanceMethod yX5_blame : Cond) ∈ UW := um (tb_3 _ (List.mem_of_getElem? (i := 98) (by decide +kernel))) (by decide +kernel)
theorem w_101_8 : (.selects RX5 yX5_blame yX5_blame : Cond) ∈ UW := um (pv_1 _ (List.mem_of_getElem? (i := 8) (by decide +kernel))) (by decide +kernel)
theorem vl_X5_94 : VL 0 RX5 94 mX5_blame 3 1 := ⟨by decide, ⟨_, rfl⟩, ⟨_, _, rfl⟩, md_X5_blame, w_3_96, w_3_98, w_101_8⟩
theorem w_3_100 : (.methodLink RX5 98 yX5_numbersOf : Cond) ∈ UW := um (tb_3 _ (List.mem_of_getElem? (i := 100) (by decide +kernel))) (by decide +kernel)
theorem w_3_101 : (.static yX5_numbersOf : Cond) ∈ UW := um (tb_3 _ (List.mem_of_getElem? (i := 101) (by decide +kernel))) (by decide +kernel)
theorem sl_X5_98 : SL RX5 98 mX5_numbersOf 1 := ⟨md_X5_numbersOf, w_3_100, w_3_101⟩
theorem w_3_103 : (.methodLink RX5 101 yX5_numberRead : Cond) ∈ UW := um (tb_3 _ (List.mem_of_getElem? (i := 103) (by decide +kernel))) (by decide +kernel)
theorem w_3_105 : (.instanceMethod yX5_numberRead : Cond) ∈ UW := um (tb_3 _ (List.mem_of_getElem? (i := 105) (by decide +kernel))) (by decide +kernel)
theorem w_101_9 : (.selects RX5 yX5_numberRead yX5_numberRead : Cond) ∈ UW := um (pv_1 _ (List.mem_of_getElem? (i := 9) (by decide +kernel))) (by decide +kernel)
theorem vl_X5_101 : VL 0 RX5 101 mX5_numberRead 3 0 := ⟨by decide, ⟨_, rfl⟩, ⟨_, _, rfl⟩, md_X5_numberRead, w_3_103, w_3_105, w_101_9⟩
theorem w_3_107 : (.methodLink RX5 105 yX5_canBe : Cond) ∈ UW := um (tb_3 _ (List.mem_of_getElem? (i := 107) (by decide +kernel))) (by decide +kernel)
theorem w_3_109 : (.instanceMethod yX5_canBe : Cond) ∈ UW := um (tb_3 _ (List.mem_of_getElem? (i := 109) (by decide +kernel))) (by decide +kernel)
theorem w_101_10 : (.selects RX5 yX5_canBe yX5_canBe : Cond) ∈ UW := um (pv_1 _ (List.mem_of_getElem? (i := 10) (by decide +kernel))) (by decide +kernel)
theorem vl_X5_105 : VL 0 RX5 105 mX5_canBe 3 2 := ⟨by decide, ⟨_, rfl⟩, ⟨_, _, rfl⟩, md_X5_canBe, w_3_107, w_3_109, w_101_10⟩
theorem w_3_115 : (.methodLink RX5 109 yX5_tell : Cond) ∈ UW := um (tb_3 _ (List.mem_of_getElem? (i := 115) (by decide +kernel))) (by decide +kernel)
theorem w_3_117 : (.instanceMethod yX5_tell : Cond) ∈ UW := um (tb_3 _ (List.mem_of_getElem? (i := 117) (by decide +kernel))) (by decide +kernel)
theorem w_101_12 : (.selects RX5 yX5_tell yX5_tell : Cond) ∈ UW := um (pv_1 _ (List.mem_of_getElem? (i := 12) (by decide +kernel))) (by decide +kernel)
theorem vl_X5_109 : VL 0 RX5 109 mX5_tell 3 1 := ⟨by decide, ⟨_, rfl⟩, ⟨_, _, rfl⟩, md_X5_tell, w_3_115, w_3_117, w_101_12⟩
theorem w_3_1 : (.methodLink RX5 112 yX5_byteAt : Cond) ∈ UW := um (tb_3 _ (List.mem_of_getElem? (i := 1) (by decide +kernel))) (by decide +kernel)
theorem w_3_3 : (.instanceMethod yX5_byteAt : Cond) ∈ UW := um (tb_3 _ (List.mem_of_getElem? (i := 3) (by decide +kernel))) (by decide +kernel)
theorem w_101_2 : (.selects RX5 yX5_byteAt yX5_byteAt : Cond) ∈ UW := um (pv_1 _ (List.mem_of_getElem? (i := 2) (by decide +kernel))) (by decide +kernel)
theorem vl_X5_112 : VL 0 RX5 112 mX5_byteAt 3 1 := ⟨by decide, ⟨_, rfl⟩, ⟨_, _, rfl⟩, md_X5_byteAt, w_3_1, w_3_3, w_101_2⟩
theorem w_3_5 : (.methodLink RX5 115 yX5_isBlank : Cond) ∈ UW := um (tb_3 _ (List.mem_of_getElem? (i := 5) (by decide +kernel))) (by decide +kernel)
theorem w_3_6 : (.static yX5_isBlank : Cond) ∈ UW := um (tb_3 _ (List.mem_of_getElem? (i := 6) (by decide +kernel))) (by decide +kernel)
theorem sl_X5_115 : SL RX5 115 mX5_isBlank 1 := ⟨md_X5_isBlank, w_3_5, w_3_6⟩
theorem w_3_8 : (.methodLink RX5 118 yX5_isLetter : Cond) ∈ UW := um (tb_3 _ (List.mem_of_getElem? (i := 8) (by decide +kernel))) (by decide +kernel)
theorem w_3_9 : (.static yX5_isLetter : Cond) ∈ UW := um (tb_3 _ (List.mem_of_getElem? (i := 9) (by decide +kernel))) (by decide +kernel)
theorem sl_X5_118 : SL RX5 118 mX5_isLetter 1 := ⟨md_X5_isLetter, w_3_8, w_3_9⟩
theorem w_3_11 : (.methodLink RX5 121 yX5_isDigit : Cond) ∈ UW := um (tb_3 _ (List.mem_of_getElem? (i := 11) (by decide +kernel))) (by decide +kernel)
theorem w_3_12 : (.static yX5_isDigit : Cond) ∈ UW := um (tb_3 _ (List.mem_of_getElem? (i := 12) (by decide +kernel))) (by decide +kernel)
theorem sl_X5_121 : SL RX5 121 mX5_isDigit 1 := ⟨md_X5_isDigit, w_3_11, w_3_12⟩
theorem w_3_22 : (.methodLink RX5 124 yX5_wordOf : Cond) ∈ UW := um (tb_3 _ (List.mem_of_getElem? (i := 22) (by decide +kernel))) (by decide +kernel)
theorem w_3_23 : (.static yX5_wordOf : Cond) ∈ UW := um (tb_3 _ (List.mem_of_getElem? (i := 23) (by decide +kernel))) (by decide +kernel)
theorem sl_X5_124 : SL RX5 124 mX5_wordOf 1 := ⟨md_X5_wordOf, w_3_22, w_3_23⟩
theorem w_3_36 : (.methodLink RX5 128 yX5_isWord : Cond) ∈ UW := um (tb_3 _ (List.mem_of_getElem? (i := 36) (by decide +kernel))) (by decide +kernel)
theorem w_3_38 : (.instanceMethod yX5_isWord : Cond) ∈ UW := um (tb_3 _ (List.mem_of_getElem? (i := 38) (by decide +kernel))) (by decide +kernel)
theorem w_101_5 : (.selects RX5 yX5_isWord yX5_isWord : Cond) ∈ UW := um (pv_1 _ (List.mem_of_getElem? (i := 5) (by decide +kernel))) (by decide +kernel)
theorem vl_X5_128 : VL 0 RX5 128 mX5_isWord 3 1 := ⟨by decide, ⟨_, rfl⟩, ⟨_, _, rfl⟩, md_X5_isWord, w_3_36, w_3_38, w_101_5⟩
theorem w_3_40 : (.methodLink RX5 132 yJ0_length_8abf5 : Cond) ∈ UW := um (tb_3 _ (List.mem_of_getElem? (i := 40) (by decide +kernel))) (by decide +kernel)
theorem w_3_41 : (.instanceMethod yJ0_length_8abf5 : Cond) ∈ UW := um (tb_3 _ (List.mem_of_getElem? (i := 41) (by decide +kernel))) (by decide +kernel)
theorem w_3_42 : (.selects RJ0 yJ0_length_8abf5 yJ0_length_8abf5 : Cond) ∈ UW := um (tb_3 _ (List.mem_of_getElem? (i := 42) (by decide +kernel))) (by decide +kernel)
theorem tl_X5_132 : TL RX5 132 mJ0_length_8abf5 0 := ⟨rfl, md_J0_length_8abf5, w_3_40, w_3_41, w_3_42⟩
theorem w_3_50 : (.methodLink RX5 136 yJ0_charAt_5068e : Cond) ∈ UW := um (tb_3 _ (List.mem_of_getElem? (i := 50) (by decide +kernel))) (by decide +kernel)
theorem w_3_51 : (.instanceMethod yJ0_charAt_5068e : Cond) ∈ UW := um (tb_3 _ (List.mem_of_getElem? (i := 51) (by decide +kernel))) (by decide +kernel)
theorem w_3_52 : (.selects RJ0 yJ0_charAt_5068e yJ0_charAt_5068e : Cond) ∈ UW := um (tb_3 _ (List.mem_of_getElem? (i := 52) (by decide +kernel))) (by decide +kernel)
theorem tl_X5_136 : TL RX5 136 mJ0_charAt_5068e 1 := ⟨rfl, md_J0_charAt_5068e, w_3_50, w_3_51, w_3_52⟩
theorem w_3_111 : (.methodLink RX5 168 yX5_canBeOfPlate : Cond) ∈ UW := um (tb_3 _ (List.mem_of_getElem? (i := 111) (by decide +kernel))) (by decide +kernel)
theorem w_3_113 : (.instanceMethod yX5_canBeOfPlate : Cond) ∈ UW := um (tb_3 _ (List.mem_of_getElem? (i := 113) (by decide +kernel))) (by decide +kernel)
theorem w_101_11 : (.selects RX5 yX5_canBeOfPlate yX5_canBeOfPlate : Cond) ∈ UW := um (pv_1 _ (List.mem_of_getElem? (i := 11) (by decide +kernel))) (by decide +kernel)
theorem vl_X5_168 : VL 0 RX5 168 mX5_canBeOfPlate 3 1 := ⟨by decide, ⟨_, rfl⟩, ⟨_, _, rfl⟩, md_X5_canBeOfPlate, w_3_111, w_3_113, w_101_11⟩
theorem w_3_119 : (.methodLink RX5 175 yX8_add : Cond) ∈ UW := um (tb_3 _ (List.mem_of_getElem? (i := 119) (by decide +kernel))) (by decide +kernel)
theorem w_3_120 : (.instanceMethod yX8_add : Cond) ∈ UW := um (tb_3 _ (List.mem_of_getElem? (i := 120) (by decide +kernel))) (by decide +kernel)
theorem w_3_121 : (.selects RX8 yX8_add yX8_add : Cond) ∈ UW := um (tb_3 _ (List.mem_of_getElem? (i := 121) (by decide +kernel))) (by decide +kernel)
theorem vl_X5_175 : VL 0 RX5 175 mX8_add 6 3 := ⟨by decide, ⟨_, rfl⟩, ⟨_, _, rfl⟩, md_X8_add, w_3_119, w_3_120, w_3_121⟩
theorem w_3_123 : (.methodLink RX5 181 yX3_add : Cond) ∈ UW := um (tb_3 _ (List.mem_of_getElem? (i := 123) (by decide +kernel))) (by decide +kernel)
theorem w_3_124 : (.instanceMethod yX3_add : Cond) ∈ UW := um (tb_3 _ (List.mem_of_getElem? (i := 124) (by decide +kernel))) (by decide +kernel)
theorem w_3_125 : (.selects RX3 yX3_add yX3_add : Cond) ∈ UW := um (tb_3 _ (List.mem_of_getElem? (i := 125) (by decide +kernel))) (by decide +kernel)
theorem vl_X5_181 : VL 0 RX5 181 mX3_add 1 3 := ⟨by decide, ⟨_, rfl⟩, ⟨_, _, rfl⟩, md_X3_add, w_3_123, w_3_124, w_3_125⟩
theorem w_3_127 : (.methodLink RX5 182 yX7_add : Cond) ∈ UW := um (tb_3 _ (List.mem_of_getElem? (i := 127) (by decide +kernel))) (by decide +kernel)
theorem w_3_128 : (.instanceMethod yX7_add : Cond) ∈ UW := um (tb_3 _ (List.mem_of_getElem? (i := 128) (by decide +kernel))) (by decide +kernel)
theorem w_3_129 : (.selects RX7 yX7_add yX7_add : Cond) ∈ UW := um (tb_3 _ (List.mem_of_getElem? (i := 129) (by decide +kernel))) (by decide +kernel)
theorem vl_X5_182 : VL 0 RX5 182 mX7_add 5 2 := ⟨by decide, ⟨_, rfl⟩, ⟨_, _, rfl⟩, md_X7_add, w_3_127, w_3_128, w_3_129⟩
theorem w_5_27 : (.methodLink RX6 46 yX6_clear : Cond) ∈ UW := um (tb_5 _ (List.mem_of_getElem? (i := 27) (by decide +kernel))) (by decide +kernel)
theorem w_5_29 : (.instanceMethod yX6_clear : Cond) ∈ UW := um (tb_5 _ (List.mem_of_getElem? (i := 29) (by decide +kernel))) (by decide +kernel)
theorem w_103_4 : (.selects RX6 yX6_clear yX6_clear : Cond) ∈ UW := um (pv_3 _ (List.mem_of_getElem? (i := 4) (by decide +kernel))) (by decide +kernel)
theorem vl_X6_46 : VL 0 RX6 46 mX6_clear 4 0 := ⟨by decide, ⟨_, rfl⟩, ⟨_, _, rfl⟩, md_X6_clear, w_5_27, w_5_29, w_103_4⟩
theorem w_5_31 : (.methodLink RX6 52 Lib.Math.min.name : Cond) ∈ UW := um (tb_5 _ (List.mem_of_getElem? (i := 31) (by decide +kernel))) (by decide +kernel)
theorem nl_X6_63 : NL RX6 63 mX11_power 2 := ⟨md_X11_power, fun s h => h.1, w_5_1⟩
theorem w_5_33 : (.methodLink RX6 66 yX6_spell : Cond) ∈ UW := um (tb_5 _ (List.mem_of_getElem? (i := 33) (by decide +kernel))) (by decide +kernel)
theorem w_5_35 : (.instanceMethod yX6_spell : Cond) ∈ UW := um (tb_5 _ (List.mem_of_getElem? (i := 35) (by decide +kernel))) (by decide +kernel)
theorem w_103_5 : (.selects RX6 yX6_spell yX6_spell : Cond) ∈ UW := um (pv_3 _ (List.mem_of_getElem? (i := 5) (by decide +kernel))) (by decide +kernel)
theorem vl_X6_66 : VL 0 RX6 66 mX6_spell 4 2 := ⟨by decide, ⟨_, rfl⟩, ⟨_, _, rfl⟩, md_X6_spell, w_5_33, w_5_35, w_103_5⟩
theorem w_5_38 : (.methodLink RX6 70 yX6_makeRuns : Cond) ∈ UW := um (tb_5 _ (List.mem_of_getElem? (i := 38) (by decide +kernel))) (by decide +kernel)
theorem w_5_40 : (.instanceMethod yX6_makeRuns : Cond) ∈ UW := um (tb_5 _ (List.mem_of_getElem? (i := 40) (by decide +kernel))) (by decide +kernel)
theorem w_103_6 : (.selects RX6 yX6_makeRuns yX6_makeRuns : Cond) ∈ UW := um (pv_3 _ (List.mem_of_getElem? (i := 6) (by decide +kernel))) (by decide +kernel)
theorem vl_X6_70 : VL 0 RX6 70 mX6_makeRuns 4 1 := ⟨by decide, ⟨_, rfl⟩, ⟨_, _, rfl⟩, md_X6_makeRuns, w_5_38, w_5_40, w_103_6⟩
theorem w_5_44 : (.methodLink RX6 74 yX6_isTrue : Cond) ∈ UW := um (tb_5 _ (List.mem_of_getElem? (i := 44) (by decide +kernel))) (by decide +kernel)
theorem w_5_46 : (.instanceMethod yX6_isTrue : Cond) ∈ UW := um (tb_5 _ (List.mem_of_getElem? (i := 46) (by decide +kernel))) (by decide +kernel)
theorem w_103_7 : (.selects RX6 yX6_isTrue yX6_isTrue : Cond) ∈ UW := um (pv_3 _ (List.mem_of_getElem? (i := 7) (by decide +kernel))) (by decide +kernel)
theorem vl_X6_74 : VL 0 RX6 74 mX6_isTrue 4 2 := ⟨by decide, ⟨_, rfl⟩, ⟨_, _, rfl⟩, md_X6_isTrue, w_5_44, w_5_46, w_103_7⟩
theorem w_5_48 : (.methodLink RX6 78 yX6_numberOfRow : Cond) ∈ UW := um (tb_5 _ (List.mem_of_getElem? (i := 48) (by decide +kernel))) (by decide +kernel)
theorem w_5_50 : (.instanceMethod yX6_numberOfRow : Cond) ∈ UW := um (tb_5 _ (List.mem_of_getElem? (i := 50) (by decide +kernel))) (by decide +kernel)
theorem w_103_8 : (.selects RX6 yX6_numberOfRow yX6_numberOfRow : Cond) ∈ UW := um (pv_3 _ (List.mem_of_getElem? (i := 8) (by decide +kernel))) (by decide +kernel)
theorem vl_X6_78 : VL 0 RX6 78 mX6_numberOfRow 4 0 := ⟨by decide, ⟨_, rfl⟩, ⟨_, _, rfl⟩, md_X6_numberOfRow, w_5_48, w_5_50, w_103_8⟩
theorem w_5_52 : (.methodLink RX6 82 yX6_takeIn : Cond) ∈ UW := um (tb_5 _ (List.mem_of_getElem? (i := 52) (by decide +kernel))) (by decide +kernel)
theorem w_5_54 : (.instanceMethod yX6_takeIn : Cond) ∈ UW := um (tb_5 _ (List.mem_of_getElem? (i := 54) (by decide +kernel))) (by decide +kernel)
theorem w_103_9 : (.selects RX6 yX6_takeIn yX6_takeIn : Cond) ∈ UW := um (pv_3 _ (List.mem_of_getElem? (i := 9) (by decide +kernel))) (by decide +kernel)
theorem vl_X6_82 : VL 0 RX6 82 mX6_takeIn 4 1 := ⟨by decide, ⟨_, rfl⟩, ⟨_, _, rfl⟩, md_X6_takeIn, w_5_52, w_5_54, w_103_9⟩
theorem w_5_37 : (.methodLink RX6 86 Lib.Math.max.name : Cond) ∈ UW := um (tb_5 _ (List.mem_of_getElem? (i := 37) (by decide +kernel))) (by decide +kernel)
theorem w_5_42 : (.methodLink RX6 95 yX8_has : Cond) ∈ UW := um (tb_5 _ (List.mem_of_getElem? (i := 42) (by decide +kernel))) (by decide +kernel)
theorem vl_X6_95 : VL 0 RX6 95 mX8_has 6 1 := ⟨by decide, ⟨_, rfl⟩, ⟨_, _, rfl⟩, md_X8_has, w_5_42, w_3_169, w_3_170⟩
theorem w_5_43 : (.methodLink RX6 102 yX8_way : Cond) ∈ UW := um (tb_5 _ (List.mem_of_getElem? (i := 43) (by decide +kernel))) (by decide +kernel)
theorem vl_X6_102 : VL 0 RX6 102 mX8_way 6 2 := ⟨by decide, ⟨_, rfl⟩, ⟨_, _, rfl⟩, md_X8_way, w_5_43, w_3_204, w_3_205⟩
theorem w_3_146 : (.methodLink RX7 22 arraycopyName : Cond) ∈ UW := um (tb_3 _ (List.mem_of_getElem? (i := 146) (by decide +kernel))) (by decide +kernel)
theorem ac_X7_22 : ACP RX7 22 := ⟨w_3_146, w_3_141, w_3_140, w_1_17⟩
theorem w_3_139 : (.methodLink RX8 31 arraycopyName : Cond) ∈ UW := um (tb_3 _ (List.mem_of_getElem? (i := 139) (by decide +kernel))) (by decide +kernel)
theorem ac_X8_31 : ACP RX8 31 := ⟨w_3_139, w_3_141, w_3_140, w_1_17⟩
theorem w_4_150 : (.methodLink RX8 37 yX8_add : Cond) ∈ UW := um (tb_4 _ (List.mem_of_getElem? (i := 150) (by decide +kernel))) (by decide +kernel)
theorem vl_X8_37 : VL 0 RX8 37 mX8_add 6 3 := ⟨by decide, ⟨_, rfl⟩, ⟨_, _, rfl⟩, md_X8_add, w_4_150, w_3_120, w_3_121⟩
theorem w_3_168 : (.methodLink RX8 41 yX8_has : Cond) ∈ UW := um (tb_3 _ (List.mem_of_getElem? (i := 168) (by decide +kernel))) (by decide +kernel)
theorem vl_X8_41 : VL 0 RX8 41 mX8_has 6 1 := ⟨by decide, ⟨_, rfl⟩, ⟨_, _, rfl⟩, md_X8_has, w_3_168, w_3_169, w_3_170⟩
theorem w_3_207 : (.methodLink RX8 45 Lib.Math.max.name : Cond) ∈ UW := um (tb_3 _ (List.mem_of_getElem? (i := 207) (by decide +kernel))) (by decide +kernel)
theorem w_3_210 : (.methodLink RX8 51 Lib.Math.abs.name : Cond) ∈ UW := um (tb_3 _ (List.mem_of_getElem? (i := 210) (by decide +kernel))) (by decide +kernel)
theorem w_4_40 : (.methodLink RX8 55 yX0_with : Cond) ∈ UW := um (tb_4 _ (List.mem_of_getElem? (i := 40) (by decide +kernel))) (by decide +kernel)
theorem sl_X8_55 : SL RX8 55 mX0_with 3 := ⟨md_X0_with, w_4_40, w_4_41⟩
theorem nl_X8_61 : NL RX8 61 mX11_commonDivisor 2 := ⟨md_X11_commonDivisor, fun s h => h.2, w_5_4⟩
theorem w_5_95 : (.methodLink RX8 64 Lib.Math.min.name : Cond) ∈ UW := um (tb_5 _ (List.mem_of_getElem? (i := 95) (by decide +kernel))) (by decide +kernel)
theorem w_5_112 : (.methodLink RX8 67 yX8_way : Cond) ∈ UW := um (tb_5 _ (List.mem_of_getElem? (i := 112) (by decide +kernel))) (by decide +kernel)
theorem vl_X8_67 : VL 0 RX8 67 mX8_way 6 2 := ⟨by decide, ⟨_, rfl⟩, ⟨_, _, rfl⟩, md_X8_way, w_5_112, w_3_204, w_3_205⟩
theorem w_5_123 : (.methodLink RX8 70 yX8_waysFrom : Cond) ∈ UW := um (tb_5 _ (List.mem_of_getElem? (i := 123) (by decide +kernel))) (by decide +kernel)
theorem vl_X8_70 : VL 0 RX8 70 mX8_waysFrom 6 1 := ⟨by decide, ⟨_, rfl⟩, ⟨_, _, rfl⟩, md_X8_waysFrom, w_5_123, w_5_124, w_5_125⟩
theorem w_5_136 : (.methodLink RX8 73 yX8_fallsBefore : Cond) ∈ UW := um (tb_5 _ (List.mem_of_getElem? (i := 136) (by decide +kernel))) (by decide +kernel)
theorem w_5_138 : (.instanceMethod yX8_fallsBefore : Cond) ∈ UW := um (tb_5 _ (List.mem_of_getElem? (i := 138) (by decide +kernel))) (by decide +kernel)
theorem w_103_11 : (.selects RX8 yX8_fallsBefore yX8_fallsBefore : Cond) ∈ UW := um (pv_3 _ (List.mem_of_getElem? (i := 11) (by decide +kernel))) (by decide +kernel)
theorem vl_X8_73 : VL 0 RX8 73 mX8_fallsBefore 6 1 := ⟨by decide, ⟨_, rfl⟩, ⟨_, _, rfl⟩, md_X8_fallsBefore, w_5_136, w_5_138, w_103_11⟩
theorem w_5_164 : (.methodLink RX9 50 arraycopyName : Cond) ∈ UW := um (tb_5 _ (List.mem_of_getElem? (i := 164) (by decide +kernel))) (by decide +kernel)
theorem ac_X9_50 : ACP RX9 50 := ⟨w_5_164, w_3_141, w_3_140, w_1_17⟩
theorem w_5_165 : (.methodLink RX9 56 yX8_copyFrom : Cond) ∈ UW := um (tb_5 _ (List.mem_of_getElem? (i := 165) (by decide +kernel))) (by decide +kernel)
theorem vl_X9_56 : VL 0 RX9 56 mX8_copyFrom 6 1 := ⟨by decide, ⟨_, rfl⟩, ⟨_, _, rfl⟩, md_X8_copyFrom, w_5_165, w_3_136, w_3_137⟩
theorem w_5_166 : (.methodLink RX9 60 yX7_copyFrom : Cond) ∈ UW := um (tb_5 _ (List.mem_of_getElem? (i := 166) (by decide +kernel))) (by decide +kernel)
theorem vl_X9_60 : VL 0 RX9 60 mX7_copyFrom 5 1 := ⟨by decide, ⟨_, rfl⟩, ⟨_, _, rfl⟩, md_X7_copyFrom, w_5_166, w_3_143, w_3_144⟩
theorem w_5_167 : (.methodLink RX9 63 yX3_copyFrom : Cond) ∈ UW := um (tb_5 _ (List.mem_of_getElem? (i := 167) (by decide +kernel))) (by decide +kernel)
theorem vl_X9_63 : VL 0 RX9 63 mX3_copyFrom 1 1 := ⟨by decide, ⟨_, rfl⟩, ⟨_, _, rfl⟩, md_X3_copyFrom, w_5_167, w_3_148, w_3_149⟩
theorem w_4_146 : (.methodLink RX10 25 yX8_copySome : Cond) ∈ UW := um (tb_4 _ (List.mem_of_getElem? (i := 146) (by decide +kernel))) (by decide +kernel)
theorem w_4_147 : (.instanceMethod yX8_copySome : Cond) ∈ UW := um (tb_4 _ (List.mem_of_getElem? (i := 147) (by decide +kernel))) (by decide +kernel)
theorem w_4_148 : (.selects RX8 yX8_copySome yX8_copySome : Cond) ∈ UW := um (tb_4 _ (List.mem_of_getElem? (i := 148) (by decide +kernel))) (by decide +kernel)
theorem vl_X10_25 : VL 0 RX10 25 mX8_copySome 6 2 := ⟨by decide, ⟨_, rfl⟩, ⟨_, _, rfl⟩, md_X8_copySome, w_4_146, w_4_147, w_4_148⟩
theorem w_4_127 : (.methodLink RX10 29 yX2_explore : Cond) ∈ UW := um (tb_4 _ (List.mem_of_getElem? (i := 127) (by decide +kernel))) (by decide +kernel)
theorem vl_X10_29 : VL 0 RX10 29 mX2_explore 0 2 := ⟨by decide, ⟨_, rfl⟩, ⟨_, _, rfl⟩, md_X2_explore, w_4_127, w_4_23, w_4_24⟩
theorem w_4_126 : (.methodLink RX10 33 yX8_copyFrom : Cond) ∈ UW := um (tb_4 _ (List.mem_of_getElem? (i := 126) (by decide +kernel))) (by decide +kernel)
theorem vl_X10_33 : VL 0 RX10 33 mX8_copyFrom 6 1 := ⟨by decide, ⟨_, rfl⟩, ⟨_, _, rfl⟩, md_X8_copyFrom, w_4_126, w_3_136, w_3_137⟩
theorem w_4_136 : (.methodLink RX10 47 yJ6_bitCount_0f7a4 : Cond) ∈ UW := um (tb_4 _ (List.mem_of_getElem? (i := 136) (by decide +kernel))) (by decide +kernel)
theorem sl_X10_47 : SL RX10 47 mJ6_bitCount_0f7a4 1 := ⟨md_J6_bitCount_0f7a4, w_4_136, w_4_137⟩
theorem w_4_142 : (.methodLink RX10 53 yX10_areKept : Cond) ∈ UW := um (tb_4 _ (List.mem_of_getElem? (i := 142) (by decide +kernel))) (by decide +kernel)
theorem w_4_144 : (.instanceMethod yX10_areKept : Cond) ∈ UW := um (tb_4 _ (List.mem_of_getElem? (i := 144) (by decide +kernel))) (by decide +kernel)
theorem w_103_2 : (.selects RX10 yX10_areKept yX10_areKept : Cond) ∈ UW := um (pv_3 _ (List.mem_of_getElem? (i := 2) (by decide +kernel))) (by decide +kernel)
theorem vl_X10_53 : VL 0 RX10 53 mX10_areKept 8 2 := ⟨by decide, ⟨_, rfl⟩, ⟨_, _, rfl⟩, md_X10_areKept, w_4_142, w_4_144, w_103_2⟩
theorem w_4_173 : (.methodLink RX10 57 yX8_has : Cond) ∈ UW := um (tb_4 _ (List.mem_of_getElem? (i := 173) (by decide +kernel))) (by decide +kernel)
theorem vl_X10_57 : VL 0 RX10 57 mX8_has 6 1 := ⟨by decide, ⟨_, rfl⟩, ⟨_, _, rfl⟩, md_X8_has, w_4_173, w_3_169, w_3_170⟩
theorem w_4_174 : (.methodLink RX10 68 Lib.Math.min.name : Cond) ∈ UW := um (tb_4 _ (List.mem_of_getElem? (i := 174) (by decide +kernel))) (by decide +kernel)
theorem w_2_198 : (.methodLink RL 13 yX11_feed : Cond) ∈ UW := um (tb_2 _ (List.mem_of_getElem? (i := 198) (by decide +kernel))) (by decide +kernel)
theorem w_2_199 : (.instanceMethod yX11_feed : Cond) ∈ UW := um (tb_2 _ (List.mem_of_getElem? (i := 199) (by decide +kernel))) (by decide +kernel)
theorem w_2_200 : (.selects RX11 yX11_feed yX11_feed : Cond) ∈ UW := um (tb_2 _ (List.mem_of_getElem? (i := 200) (by decide +kernel))) (by decide +kernel)
theorem vl_L_13 : VL 0 RL 13 mX11_feed 9 5 := ⟨by decide, ⟨_, rfl⟩, ⟨_, _, rfl⟩, md_X11_feed, w_2_198, w_2_199, w_2_200⟩
theorem w_6_126 : (.methodLink RL 17 yX12_feed : Cond) ∈ UW := um (tb_6 _ (List.mem_of_getElem? (i := 126) (by decide +kernel))) (by decide +kernel)
theorem w_6_127 : (.instanceMethod yX12_feed : Cond) ∈ UW := um (tb_6 _ (List.mem_of_getElem? (i := 127) (by decide +kernel))) (by decide +kernel)
theorem w_6_128 : (.selects RX12 yX12_feed yX12_feed : Cond) ∈ UW := um (tb_6 _ (List.mem_of_getElem? (i := 128) (by decide +kernel))) (by decide +kernel)
theorem vl_L_17 : VL 1 RL 17 mX12_feed 10 5 := ⟨by decide, ⟨_, rfl⟩, ⟨_, _, rfl⟩, md_X12_feed, w_6_126, w_6_127, w_6_128⟩
theorem w_2_206 : (.methodLink RL 18 yX11_end : Cond) ∈ UW := um (tb_2 _ (List.mem_of_getElem? (i := 206) (by decide +kernel))) (by decide +kernel)
theorem w_2_207 : (.instanceMethod yX11_end : Cond) ∈ UW := um (tb_2 _ (List.mem_of_getElem? (i := 207) (by decide +kernel))) (by decide +kernel)
theorem w_2_208 : (.selects RX11 yX11_end yX11_end : Cond) ∈ UW := um (tb_2 _ (List.mem_of_getElem? (i := 208) (by decide +kernel))) (by decide +kernel)
theorem vl_L_18 : VL 0 RL 18 mX11_end 9 1 := ⟨by decide, ⟨_, rfl⟩, ⟨_, _, rfl⟩, md_X11_end, w_2_206, w_2_207, w_2_208⟩
theorem w_6_134 : (.methodLink RL 22 yX12_end : Cond) ∈ UW := um (tb_6 _ (List.mem_of_getElem? (i := 134) (by decide +kernel))) (by decide +kernel)
theorem w_6_135 : (.instanceMethod yX12_end : Cond) ∈ UW := um (tb_6 _ (List.mem_of_getElem? (i := 135) (by decide +kernel))) (by decide +kernel)
theorem w_6_136 : (.selects RX12 yX12_end yX12_end : Cond) ∈ UW := um (tb_6 _ (List.mem_of_getElem? (i := 136) (by decide +kernel))) (by decide +kernel)
theorem vl_L_22 : VL 1 RL 22 mX12_end 10 1 := ⟨by decide, ⟨_, rfl⟩, ⟨_, _, rfl⟩, md_X12_end, w_6_134, w_6_135, w_6_136⟩
theorem w_2_210 : (.methodLink RL 23 yX11_text : Cond) ∈ UW := um (tb_2 _ (List.mem_of_getElem? (i := 210) (by decide +kernel))) (by decide +kernel)
theorem w_2_211 : (.instanceMethod yX11_text : Cond) ∈ UW := um (tb_2 _ (List.mem_of_getElem? (i := 211) (by decide +kernel))) (by decide +kernel)
theorem w_2_212 : (.selects RX11 yX11_text yX11_text : Cond) ∈ UW := um (tb_2 _ (List.mem_of_getElem? (i := 212) (by decide +kernel))) (by decide +kernel)
theorem vl_L_23 : VL 0 RL 23 mX11_text 9 2 := ⟨by decide, ⟨_, rfl⟩, ⟨_, _, rfl⟩, md_X11_text, w_2_210, w_2_211, w_2_212⟩
theorem w_6_141 : (.methodLink RL 27 yX12_text : Cond) ∈ UW := um (tb_6 _ (List.mem_of_getElem? (i := 141) (by decide +kernel))) (by decide +kernel)
theorem w_6_142 : (.instanceMethod yX12_text : Cond) ∈ UW := um (tb_6 _ (List.mem_of_getElem? (i := 142) (by decide +kernel))) (by decide +kernel)
theorem w_6_143 : (.selects RX12 yX12_text yX12_text : Cond) ∈ UW := um (tb_6 _ (List.mem_of_getElem? (i := 143) (by decide +kernel))) (by decide +kernel)
theorem vl_L_27 : VL 1 RL 27 mX12_text 10 2 := ⟨by decide, ⟨_, rfl⟩, ⟨_, _, rfl⟩, md_X12_text, w_6_141, w_6_142, w_6_143⟩
theorem w_3_152 : (.methodLink RL 28 yX11_fault : Cond) ∈ UW := um (tb_3 _ (List.mem_of_getElem? (i := 152) (by decide +kernel))) (by decide +kernel)
theorem w_3_153 : (.instanceMethod yX11_fault : Cond) ∈ UW := um (tb_3 _ (List.mem_of_getElem? (i := 153) (by decide +kernel))) (by decide +kernel)
theorem w_3_154 : (.selects RX11 yX11_fault yX11_fault : Cond) ∈ UW := um (tb_3 _ (List.mem_of_getElem? (i := 154) (by decide +kernel))) (by decide +kernel)
theorem vl_L_28 : VL 0 RL 28 mX11_fault 9 1 := ⟨by decide, ⟨_, rfl⟩, ⟨_, _, rfl⟩, md_X11_fault, w_3_152, w_3_153, w_3_154⟩
theorem w_6_219 : (.methodLink RL 31 yX12_fault : Cond) ∈ UW := um (tb_6 _ (List.mem_of_getElem? (i := 219) (by decide +kernel))) (by decide +kernel)
theorem w_6_220 : (.instanceMethod yX12_fault : Cond) ∈ UW := um (tb_6 _ (List.mem_of_getElem? (i := 220) (by decide +kernel))) (by decide +kernel)
theorem w_6_221 : (.selects RX12 yX12_fault yX12_fault : Cond) ∈ UW := um (tb_6 _ (List.mem_of_getElem? (i := 221) (by decide +kernel))) (by decide +kernel)
theorem vl_L_31 : VL 1 RL 31 mX12_fault 10 1 := ⟨by decide, ⟨_, rfl⟩, ⟨_, _, rfl⟩, md_X12_fault, w_6_219, w_6_220, w_6_221⟩
theorem w_3_156 : (.methodLink RL 32 yX11_stage : Cond) ∈ UW := um (tb_3 _ (List.mem_of_getElem? (i := 156) (by decide +kernel))) (by decide +kernel)
theorem w_3_157 : (.instanceMethod yX11_stage : Cond) ∈ UW := um (tb_3 _ (List.mem_of_getElem? (i := 157) (by decide +kernel))) (by decide +kernel)
theorem w_3_158 : (.selects RX11 yX11_stage yX11_stage : Cond) ∈ UW := um (tb_3 _ (List.mem_of_getElem? (i := 158) (by decide +kernel))) (by decide +kernel)
theorem vl_L_32 : VL 0 RL 32 mX11_stage 9 2 := ⟨by decide, ⟨_, rfl⟩, ⟨_, _, rfl⟩, md_X11_stage, w_3_156, w_3_157, w_3_158⟩
theorem w_6_223 : (.methodLink RL 35 yX12_stage : Cond) ∈ UW := um (tb_6 _ (List.mem_of_getElem? (i := 223) (by decide +kernel))) (by decide +kernel)
theorem w_6_224 : (.instanceMethod yX12_stage : Cond) ∈ UW := um (tb_6 _ (List.mem_of_getElem? (i := 224) (by decide +kernel))) (by decide +kernel)
theorem w_6_225 : (.selects RX12 yX12_stage yX12_stage : Cond) ∈ UW := um (tb_6 _ (List.mem_of_getElem? (i := 225) (by decide +kernel))) (by decide +kernel)
theorem vl_L_35 : VL 1 RL 35 mX12_stage 10 2 := ⟨by decide, ⟨_, rfl⟩, ⟨_, _, rfl⟩, md_X12_stage, w_6_223, w_6_224, w_6_225⟩
theorem w_3_172 : (.methodLink RL 36 yX11_deed : Cond) ∈ UW := um (tb_3 _ (List.mem_of_getElem? (i := 172) (by decide +kernel))) (by decide +kernel)
theorem w_3_173 : (.instanceMethod yX11_deed : Cond) ∈ UW := um (tb_3 _ (List.mem_of_getElem? (i := 173) (by decide +kernel))) (by decide +kernel)
theorem w_3_174 : (.selects RX11 yX11_deed yX11_deed : Cond) ∈ UW := um (tb_3 _ (List.mem_of_getElem? (i := 174) (by decide +kernel))) (by decide +kernel)
theorem vl_L_36 : VL 0 RL 36 mX11_deed 9 3 := ⟨by decide, ⟨_, rfl⟩, ⟨_, _, rfl⟩, md_X11_deed, w_3_172, w_3_173, w_3_174⟩
theorem w_7_3 : (.methodLink RL 40 yX12_deed : Cond) ∈ UW := um (tb_7 _ (List.mem_of_getElem? (i := 3) (by decide +kernel))) (by decide +kernel)
theorem w_7_4 : (.instanceMethod yX12_deed : Cond) ∈ UW := um (tb_7 _ (List.mem_of_getElem? (i := 4) (by decide +kernel))) (by decide +kernel)
theorem w_7_5 : (.selects RX12 yX12_deed yX12_deed : Cond) ∈ UW := um (tb_7 _ (List.mem_of_getElem? (i := 5) (by decide +kernel))) (by decide +kernel)
theorem vl_L_40 : VL 1 RL 40 mX12_deed 10 3 := ⟨by decide, ⟨_, rfl⟩, ⟨_, _, rfl⟩, md_X12_deed, w_7_3, w_7_4, w_7_5⟩
theorem w_3_184 : (.methodLink RL 41 yX11_stop : Cond) ∈ UW := um (tb_3 _ (List.mem_of_getElem? (i := 184) (by decide +kernel))) (by decide +kernel)
theorem w_3_185 : (.instanceMethod yX11_stop : Cond) ∈ UW := um (tb_3 _ (List.mem_of_getElem? (i := 185) (by decide +kernel))) (by decide +kernel)
theorem w_3_186 : (.selects RX11 yX11_stop yX11_stop : Cond) ∈ UW := um (tb_3 _ (List.mem_of_getElem? (i := 186) (by decide +kernel))) (by decide +kernel)
theorem vl_L_41 : VL 0 RL 41 mX11_stop 9 2 := ⟨by decide, ⟨_, rfl⟩, ⟨_, _, rfl⟩, md_X11_stop, w_3_184, w_3_185, w_3_186⟩
theorem w_7_19 : (.methodLink RL 44 yX12_stop : Cond) ∈ UW := um (tb_7 _ (List.mem_of_getElem? (i := 19) (by decide +kernel))) (by decide +kernel)
theorem w_7_20 : (.instanceMethod yX12_stop : Cond) ∈ UW := um (tb_7 _ (List.mem_of_getElem? (i := 20) (by decide +kernel))) (by decide +kernel)
theorem w_7_21 : (.selects RX12 yX12_stop yX12_stop : Cond) ∈ UW := um (tb_7 _ (List.mem_of_getElem? (i := 21) (by decide +kernel))) (by decide +kernel)
theorem vl_L_44 : VL 1 RL 44 mX12_stop 10 2 := ⟨by decide, ⟨_, rfl⟩, ⟨_, _, rfl⟩, md_X12_stop, w_7_19, w_7_20, w_7_21⟩
theorem w_3_238 : (.methodLink RL 45 yX11_state : Cond) ∈ UW := um (tb_3 _ (List.mem_of_getElem? (i := 238) (by decide +kernel))) (by decide +kernel)
theorem w_3_239 : (.instanceMethod yX11_state : Cond) ∈ UW := um (tb_3 _ (List.mem_of_getElem? (i := 239) (by decide +kernel))) (by decide +kernel)
theorem w_4_0 : (.selects RX11 yX11_state yX11_state : Cond) ∈ UW := um (tb_4 _ (List.mem_of_getElem? (i := 0) (by decide +kernel))) (by decide +kernel)
theorem vl_L_45 : VL 0 RL 45 mX11_state 9 4 := ⟨by decide, ⟨_, rfl⟩, ⟨_, _, rfl⟩, md_X11_state, w_3_238, w_3_239, w_4_0⟩
theorem w_7_74 : (.methodLink RL 49 yX12_state : Cond) ∈ UW := um (tb_7 _ (List.mem_of_getElem? (i := 74) (by decide +kernel))) (by decide +kernel)
theorem w_7_75 : (.instanceMethod yX12_state : Cond) ∈ UW := um (tb_7 _ (List.mem_of_getElem? (i := 75) (by decide +kernel))) (by decide +kernel)
theorem w_7_76 : (.selects RX12 yX12_state yX12_state : Cond) ∈ UW := um (tb_7 _ (List.mem_of_getElem? (i := 76) (by decide +kernel))) (by decide +kernel)
theorem vl_L_49 : VL 1 RL 49 mX12_state 10 4 := ⟨by decide, ⟨_, rfl⟩, ⟨_, _, rfl⟩, md_X12_state, w_7_74, w_7_75, w_7_76⟩
theorem w_4_10 : (.methodLink RL 50 yX11_keep : Cond) ∈ UW := um (tb_4 _ (List.mem_of_getElem? (i := 10) (by decide +kernel))) (by decide +kernel)
theorem w_4_11 : (.instanceMethod yX11_keep : Cond) ∈ UW := um (tb_4 _ (List.mem_of_getElem? (i := 11) (by decide +kernel))) (by decide +kernel)
theorem w_4_12 : (.selects RX11 yX11_keep yX11_keep : Cond) ∈ UW := um (tb_4 _ (List.mem_of_getElem? (i := 12) (by decide +kernel))) (by decide +kernel)
theorem vl_L_50 : VL 0 RL 50 mX11_keep 9 2 := ⟨by decide, ⟨_, rfl⟩, ⟨_, _, rfl⟩, md_X11_keep, w_4_10, w_4_11, w_4_12⟩
theorem w_7_82 : (.methodLink RL 53 yX12_keep : Cond) ∈ UW := um (tb_7 _ (List.mem_of_getElem? (i := 82) (by decide +kernel))) (by decide +kernel)
theorem w_7_83 : (.instanceMethod yX12_keep : Cond) ∈ UW := um (tb_7 _ (List.mem_of_getElem? (i := 83) (by decide +kernel))) (by decide +kernel)
theorem w_7_84 : (.selects RX12 yX12_keep yX12_keep : Cond) ∈ UW := um (tb_7 _ (List.mem_of_getElem? (i := 84) (by decide +kernel))) (by decide +kernel)
theorem vl_L_53 : VL 1 RL 53 mX12_keep 10 2 := ⟨by decide, ⟨_, rfl⟩, ⟨_, _, rfl⟩, md_X12_keep, w_7_82, w_7_83, w_7_84⟩
theorem w_4_118 : (.methodLink RL 54 yX11_need : Cond) ∈ UW := um (tb_4 _ (List.mem_of_getElem? (i := 118) (by decide +kernel))) (by decide +kernel)
theorem w_4_119 : (.instanceMethod yX11_need : Cond) ∈ UW := um (tb_4 _ (List.mem_of_getElem? (i := 119) (by decide +kernel))) (by decide +kernel)
theorem w_4_120 : (.selects RX11 yX11_need yX11_need : Cond) ∈ UW := um (tb_4 _ (List.mem_of_getElem? (i := 120) (by decide +kernel))) (by decide +kernel)
theorem vl_L_54 : VL 0 RL 54 mX11_need 9 2 := ⟨by decide, ⟨_, rfl⟩, ⟨_, _, rfl⟩, md_X11_need, w_4_118, w_4_119, w_4_120⟩
theorem w_7_158 : (.methodLink RL 57 yX12_need : Cond) ∈ UW := um (tb_7 _ (List.mem_of_getElem? (i := 158) (by decide +kernel))) (by decide +kernel)
theorem w_7_159 : (.instanceMethod yX12_need : Cond) ∈ UW := um (tb_7 _ (List.mem_of_getElem? (i := 159) (by decide +kernel))) (by decide +kernel)
theorem w_7_160 : (.selects RX12 yX12_need yX12_need : Cond) ∈ UW := um (tb_7 _ (List.mem_of_getElem? (i := 160) (by decide +kernel))) (by decide +kernel)
theorem vl_L_57 : VL 1 RL 57 mX12_need 10 2 := ⟨by decide, ⟨_, rfl⟩, ⟨_, _, rfl⟩, md_X12_need, w_7_158, w_7_159, w_7_160⟩
theorem w_4_179 : (.methodLink RL 58 yX11_behind : Cond) ∈ UW := um (tb_4 _ (List.mem_of_getElem? (i := 179) (by decide +kernel))) (by decide +kernel)
theorem w_4_180 : (.instanceMethod yX11_behind : Cond) ∈ UW := um (tb_4 _ (List.mem_of_getElem? (i := 180) (by decide +kernel))) (by decide +kernel)
theorem w_4_181 : (.selects RX11 yX11_behind yX11_behind : Cond) ∈ UW := um (tb_4 _ (List.mem_of_getElem? (i := 181) (by decide +kernel))) (by decide +kernel)
theorem vl_L_58 : VL 0 RL 58 mX11_behind 9 3 := ⟨by decide, ⟨_, rfl⟩, ⟨_, _, rfl⟩, md_X11_behind, w_4_179, w_4_180, w_4_181⟩
theorem w_7_193 : (.methodLink RL 61 yX12_behind : Cond) ∈ UW := um (tb_7 _ (List.mem_of_getElem? (i := 193) (by decide +kernel))) (by decide +kernel)
theorem w_7_194 : (.instanceMethod yX12_behind : Cond) ∈ UW := um (tb_7 _ (List.mem_of_getElem? (i := 194) (by decide +kernel))) (by decide +kernel)
theorem w_7_195 : (.selects RX12 yX12_behind yX12_behind : Cond) ∈ UW := um (tb_7 _ (List.mem_of_getElem? (i := 195) (by decide +kernel))) (by decide +kernel)
theorem vl_L_61 : VL 1 RL 61 mX12_behind 10 3 := ⟨by decide, ⟨_, rfl⟩, ⟨_, _, rfl⟩, md_X12_behind, w_7_193, w_7_194, w_7_195⟩
theorem w_4_189 : (.methodLink RL 62 yX11_save : Cond) ∈ UW := um (tb_4 _ (List.mem_of_getElem? (i := 189) (by decide +kernel))) (by decide +kernel)
theorem w_4_190 : (.instanceMethod yX11_save : Cond) ∈ UW := um (tb_4 _ (List.mem_of_getElem? (i := 190) (by decide +kernel))) (by decide +kernel)
theorem w_4_191 : (.selects RX11 yX11_save yX11_save : Cond) ∈ UW := um (tb_4 _ (List.mem_of_getElem? (i := 191) (by decide +kernel))) (by decide +kernel)
theorem vl_L_62 : VL 0 RL 62 mX11_save 9 3 := ⟨by decide, ⟨_, rfl⟩, ⟨_, _, rfl⟩, md_X11_save, w_4_189, w_4_190, w_4_191⟩
theorem w_7_197 : (.methodLink RL 66 yX12_save : Cond) ∈ UW := um (tb_7 _ (List.mem_of_getElem? (i := 197) (by decide +kernel))) (by decide +kernel)
theorem w_7_198 : (.instanceMethod yX12_save : Cond) ∈ UW := um (tb_7 _ (List.mem_of_getElem? (i := 198) (by decide +kernel))) (by decide +kernel)
theorem w_7_199 : (.selects RX12 yX12_save yX12_save : Cond) ∈ UW := um (tb_7 _ (List.mem_of_getElem? (i := 199) (by decide +kernel))) (by decide +kernel)
theorem vl_L_66 : VL 1 RL 66 mX12_save 10 3 := ⟨by decide, ⟨_, rfl⟩, ⟨_, _, rfl⟩, md_X12_save, w_7_197, w_7_198, w_7_199⟩
theorem w_4_219 : (.methodLink RL 67 yX11_duel : Cond) ∈ UW := um (tb_4 _ (List.mem_of_getElem? (i := 219) (by decide +kernel))) (by decide +kernel)
theorem w_4_220 : (.instanceMethod yX11_duel : Cond) ∈ UW := um (tb_4 _ (List.mem_of_getElem? (i := 220) (by decide +kernel))) (by decide +kernel)
theorem w_4_221 : (.selects RX11 yX11_duel yX11_duel : Cond) ∈ UW := um (tb_4 _ (List.mem_of_getElem? (i := 221) (by decide +kernel))) (by decide +kernel)
theorem vl_L_67 : VL 0 RL 67 mX11_duel 9 3 := ⟨by decide, ⟨_, rfl⟩, ⟨_, _, rfl⟩, md_X11_duel, w_4_219, w_4_220, w_4_221⟩
theorem w_7_212 : (.methodLink RL 70 yX12_duel : Cond) ∈ UW := um (tb_7 _ (List.mem_of_getElem? (i := 212) (by decide +kernel))) (by decide +kernel)
theorem w_7_213 : (.instanceMethod yX12_duel : Cond) ∈ UW := um (tb_7 _ (List.mem_of_getElem? (i := 213) (by decide +kernel))) (by decide +kernel)
theorem w_7_214 : (.selects RX12 yX12_duel yX12_duel : Cond) ∈ UW := um (tb_7 _ (List.mem_of_getElem? (i := 214) (by decide +kernel))) (by decide +kernel)
theorem vl_L_70 : VL 1 RL 70 mX12_duel 10 3 := ⟨by decide, ⟨_, rfl⟩, ⟨_, _, rfl⟩, md_X12_duel, w_7_212, w_7_213, w_7_214⟩
theorem w_4_233 : (.methodLink RL 71 yX11_odds : Cond) ∈ UW := um (tb_4 _ (List.mem_of_getElem? (i := 233) (by decide +kernel))) (by decide +kernel)
theorem w_4_234 : (.instanceMethod yX11_odds : Cond) ∈ UW := um (tb_4 _ (List.mem_of_getElem? (i := 234) (by decide +kernel))) (by decide +kernel)
theorem w_4_235 : (.selects RX11 yX11_odds yX11_odds : Cond) ∈ UW := um (tb_4 _ (List.mem_of_getElem? (i := 235) (by decide +kernel))) (by decide +kernel)
theorem vl_L_71 : VL 0 RL 71 mX11_odds 9 5 := ⟨by decide, ⟨_, rfl⟩, ⟨_, _, rfl⟩, md_X11_odds, w_4_233, w_4_234, w_4_235⟩
theorem w_7_224 : (.methodLink RL 75 yX12_odds : Cond) ∈ UW := um (tb_7 _ (List.mem_of_getElem? (i := 224) (by decide +kernel))) (by decide +kernel)
theorem w_7_225 : (.instanceMethod yX12_odds : Cond) ∈ UW := um (tb_7 _ (List.mem_of_getElem? (i := 225) (by decide +kernel))) (by decide +kernel)
theorem w_7_226 : (.selects RX12 yX12_odds yX12_odds : Cond) ∈ UW := um (tb_7 _ (List.mem_of_getElem? (i := 226) (by decide +kernel))) (by decide +kernel)
theorem vl_L_75 : VL 1 RL 75 mX12_odds 10 5 := ⟨by decide, ⟨_, rfl⟩, ⟨_, _, rfl⟩, md_X12_odds, w_7_224, w_7_225, w_7_226⟩
theorem w_5_7 : (.methodLink RL 76 yX11_log : Cond) ∈ UW := um (tb_5 _ (List.mem_of_getElem? (i := 7) (by decide +kernel))) (by decide +kernel)
theorem w_5_8 : (.instanceMethod yX11_log : Cond) ∈ UW := um (tb_5 _ (List.mem_of_getElem? (i := 8) (by decide +kernel))) (by decide +kernel)
theorem w_5_9 : (.selects RX11 yX11_log yX11_log : Cond) ∈ UW := um (tb_5 _ (List.mem_of_getElem? (i := 9) (by decide +kernel))) (by decide +kernel)
theorem vl_L_76 : VL 0 RL 76 mX11_log 9 2 := ⟨by decide, ⟨_, rfl⟩, ⟨_, _, rfl⟩, md_X11_log, w_5_7, w_5_8, w_5_9⟩
theorem w_7_237 : (.methodLink RL 79 yX12_log : Cond) ∈ UW := um (tb_7 _ (List.mem_of_getElem? (i := 237) (by decide +kernel))) (by decide +kernel)
theorem w_7_238 : (.instanceMethod yX12_log : Cond) ∈ UW := um (tb_7 _ (List.mem_of_getElem? (i := 238) (by decide +kernel))) (by decide +kernel)
theorem w_7_239 : (.selects RX12 yX12_log yX12_log : Cond) ∈ UW := um (tb_7 _ (List.mem_of_getElem? (i := 239) (by decide +kernel))) (by decide +kernel)
theorem vl_L_79 : VL 1 RL 79 mX12_log 10 2 := ⟨by decide, ⟨_, rfl⟩, ⟨_, _, rfl⟩, md_X12_log, w_7_237, w_7_238, w_7_239⟩
theorem w_5_19 : (.methodLink RL 80 yX11_fits : Cond) ∈ UW := um (tb_5 _ (List.mem_of_getElem? (i := 19) (by decide +kernel))) (by decide +kernel)
theorem w_5_20 : (.instanceMethod yX11_fits : Cond) ∈ UW := um (tb_5 _ (List.mem_of_getElem? (i := 20) (by decide +kernel))) (by decide +kernel)
theorem w_5_21 : (.selects RX11 yX11_fits yX11_fits : Cond) ∈ UW := um (tb_5 _ (List.mem_of_getElem? (i := 21) (by decide +kernel))) (by decide +kernel)
theorem vl_L_80 : VL 0 RL 80 mX11_fits 9 3 := ⟨by decide, ⟨_, rfl⟩, ⟨_, _, rfl⟩, md_X11_fits, w_5_19, w_5_20, w_5_21⟩
theorem w_8_17 : (.methodLink RL 83 yX12_fits : Cond) ∈ UW := um (tb_8 _ (List.mem_of_getElem? (i := 17) (by decide +kernel))) (by decide +kernel)
theorem w_8_18 : (.instanceMethod yX12_fits : Cond) ∈ UW := um (tb_8 _ (List.mem_of_getElem? (i := 18) (by decide +kernel))) (by decide +kernel)
theorem w_8_19 : (.selects RX12 yX12_fits yX12_fits : Cond) ∈ UW := um (tb_8 _ (List.mem_of_getElem? (i := 19) (by decide +kernel))) (by decide +kernel)
theorem vl_L_83 : VL 1 RL 83 mX12_fits 10 3 := ⟨by decide, ⟨_, rfl⟩, ⟨_, _, rfl⟩, md_X12_fits, w_8_17, w_8_18, w_8_19⟩
theorem w_5_64 : (.methodLink RL 84 yX11_drawn : Cond) ∈ UW := um (tb_5 _ (List.mem_of_getElem? (i := 64) (by decide +kernel))) (by decide +kernel)
theorem w_5_65 : (.instanceMethod yX11_drawn : Cond) ∈ UW := um (tb_5 _ (List.mem_of_getElem? (i := 65) (by decide +kernel))) (by decide +kernel)
theorem w_5_66 : (.selects RX11 yX11_drawn yX11_drawn : Cond) ∈ UW := um (tb_5 _ (List.mem_of_getElem? (i := 66) (by decide +kernel))) (by decide +kernel)
theorem vl_L_84 : VL 0 RL 84 mX11_drawn 9 4 := ⟨by decide, ⟨_, rfl⟩, ⟨_, _, rfl⟩, md_X11_drawn, w_5_64, w_5_65, w_5_66⟩
theorem w_8_53 : (.methodLink RL 87 yX12_drawn : Cond) ∈ UW := um (tb_8 _ (List.mem_of_getElem? (i := 53) (by decide +kernel))) (by decide +kernel)
theorem w_8_54 : (.instanceMethod yX12_drawn : Cond) ∈ UW := um (tb_8 _ (List.mem_of_getElem? (i := 54) (by decide +kernel))) (by decide +kernel)
theorem w_8_55 : (.selects RX12 yX12_drawn yX12_drawn : Cond) ∈ UW := um (tb_8 _ (List.mem_of_getElem? (i := 55) (by decide +kernel))) (by decide +kernel)
theorem vl_L_87 : VL 1 RL 87 mX12_drawn 10 4 := ⟨by decide, ⟨_, rfl⟩, ⟨_, _, rfl⟩, md_X12_drawn, w_8_53, w_8_54, w_8_55⟩
theorem w_5_80 : (.methodLink RL 88 yX11_load : Cond) ∈ UW := um (tb_5 _ (List.mem_of_getElem? (i := 80) (by decide +kernel))) (by decide +kernel)
theorem w_5_81 : (.instanceMethod yX11_load : Cond) ∈ UW := um (tb_5 _ (List.mem_of_getElem? (i := 81) (by decide +kernel))) (by decide +kernel)
theorem w_5_82 : (.selects RX11 yX11_load yX11_load : Cond) ∈ UW := um (tb_5 _ (List.mem_of_getElem? (i := 82) (by decide +kernel))) (by decide +kernel)
theorem vl_L_88 : VL 0 RL 88 mX11_load 9 2 := ⟨by decide, ⟨_, rfl⟩, ⟨_, _, rfl⟩, md_X11_load, w_5_80, w_5_81, w_5_82⟩
theorem w_8_66 : (.methodLink RL 91 yX12_load : Cond) ∈ UW := um (tb_8 _ (List.mem_of_getElem? (i := 66) (by decide +kernel))) (by decide +kernel)
theorem w_8_67 : (.instanceMethod yX12_load : Cond) ∈ UW := um (tb_8 _ (List.mem_of_getElem? (i := 67) (by decide +kernel))) (by decide +kernel)
theorem w_8_68 : (.selects RX12 yX12_load yX12_load : Cond) ∈ UW := um (tb_8 _ (List.mem_of_getElem? (i := 68) (by decide +kernel))) (by decide +kernel)
theorem vl_L_91 : VL 1 RL 91 mX12_load 10 2 := ⟨by decide, ⟨_, rfl⟩, ⟨_, _, rfl⟩, md_X12_load, w_8_66, w_8_67, w_8_68⟩
theorem w_5_140 : (.methodLink RL 92 yX11_after : Cond) ∈ UW := um (tb_5 _ (List.mem_of_getElem? (i := 140) (by decide +kernel))) (by decide +kernel)
theorem w_5_141 : (.instanceMethod yX11_after : Cond) ∈ UW := um (tb_5 _ (List.mem_of_getElem? (i := 141) (by decide +kernel))) (by decide +kernel)
theorem w_5_142 : (.selects RX11 yX11_after yX11_after : Cond) ∈ UW := um (tb_5 _ (List.mem_of_getElem? (i := 142) (by decide +kernel))) (by decide +kernel)
theorem vl_L_92 : VL 0 RL 92 mX11_after 9 3 := ⟨by decide, ⟨_, rfl⟩, ⟨_, _, rfl⟩, md_X11_after, w_5_140, w_5_141, w_5_142⟩
theorem w_8_114 : (.methodLink RL 95 yX12_after : Cond) ∈ UW := um (tb_8 _ (List.mem_of_getElem? (i := 114) (by decide +kernel))) (by decide +kernel)
theorem w_8_115 : (.instanceMethod yX12_after : Cond) ∈ UW := um (tb_8 _ (List.mem_of_getElem? (i := 115) (by decide +kernel))) (by decide +kernel)
theorem w_8_116 : (.selects RX12 yX12_after yX12_after : Cond) ∈ UW := um (tb_8 _ (List.mem_of_getElem? (i := 116) (by decide +kernel))) (by decide +kernel)
theorem vl_L_95 : VL 1 RL 95 mX12_after 10 3 := ⟨by decide, ⟨_, rfl⟩, ⟨_, _, rfl⟩, md_X12_after, w_8_114, w_8_115, w_8_116⟩
theorem w_5_148 : (.methodLink RL 96 yX11_least : Cond) ∈ UW := um (tb_5 _ (List.mem_of_getElem? (i := 148) (by decide +kernel))) (by decide +kernel)
theorem w_5_149 : (.instanceMethod yX11_least : Cond) ∈ UW := um (tb_5 _ (List.mem_of_getElem? (i := 149) (by decide +kernel))) (by decide +kernel)
theorem w_5_150 : (.selects RX11 yX11_least yX11_least : Cond) ∈ UW := um (tb_5 _ (List.mem_of_getElem? (i := 150) (by decide +kernel))) (by decide +kernel)
theorem vl_L_96 : VL 0 RL 96 mX11_least 9 3 := ⟨by decide, ⟨_, rfl⟩, ⟨_, _, rfl⟩, md_X11_least, w_5_148, w_5_149, w_5_150⟩
theorem w_8_118 : (.methodLink RL 99 yX12_least : Cond) ∈ UW := um (tb_8 _ (List.mem_of_getElem? (i := 118) (by decide +kernel))) (by decide +kernel)
theorem w_8_119 : (.instanceMethod yX12_least : Cond) ∈ UW := um (tb_8 _ (List.mem_of_getElem? (i := 119) (by decide +kernel))) (by decide +kernel)
theorem w_8_120 : (.selects RX12 yX12_least yX12_least : Cond) ∈ UW := um (tb_8 _ (List.mem_of_getElem? (i := 120) (by decide +kernel))) (by decide +kernel)
theorem vl_L_99 : VL 1 RL 99 mX12_least 10 3 := ⟨by decide, ⟨_, rfl⟩, ⟨_, _, rfl⟩, md_X12_least, w_8_118, w_8_119, w_8_120⟩
theorem w_5_152 : (.methodLink RL 100 yX11_count : Cond) ∈ UW := um (tb_5 _ (List.mem_of_getElem? (i := 152) (by decide +kernel))) (by decide +kernel)
theorem w_5_153 : (.instanceMethod yX11_count : Cond) ∈ UW := um (tb_5 _ (List.mem_of_getElem? (i := 153) (by decide +kernel))) (by decide +kernel)
theorem w_5_154 : (.selects RX11 yX11_count yX11_count : Cond) ∈ UW := um (tb_5 _ (List.mem_of_getElem? (i := 154) (by decide +kernel))) (by decide +kernel)
theorem vl_L_100 : VL 0 RL 100 mX11_count 9 1 := ⟨by decide, ⟨_, rfl⟩, ⟨_, _, rfl⟩, md_X11_count, w_5_152, w_5_153, w_5_154⟩
theorem w_8_122 : (.methodLink RL 103 yX12_count : Cond) ∈ UW := um (tb_8 _ (List.mem_of_getElem? (i := 122) (by decide +kernel))) (by decide +kernel)
theorem w_8_123 : (.instanceMethod yX12_count : Cond) ∈ UW := um (tb_8 _ (List.mem_of_getElem? (i := 123) (by decide +kernel))) (by decide +kernel)
theorem w_8_124 : (.selects RX12 yX12_count yX12_count : Cond) ∈ UW := um (tb_8 _ (List.mem_of_getElem? (i := 124) (by decide +kernel))) (by decide +kernel)
theorem vl_L_103 : VL 1 RL 103 mX12_count 10 1 := ⟨by decide, ⟨_, rfl⟩, ⟨_, _, rfl⟩, md_X12_count, w_8_122, w_8_123, w_8_124⟩
theorem w_5_156 : (.methodLink RL 104 yX11_image : Cond) ∈ UW := um (tb_5 _ (List.mem_of_getElem? (i := 156) (by decide +kernel))) (by decide +kernel)
theorem w_5_157 : (.instanceMethod yX11_image : Cond) ∈ UW := um (tb_5 _ (List.mem_of_getElem? (i := 157) (by decide +kernel))) (by decide +kernel)
theorem w_5_158 : (.selects RX11 yX11_image yX11_image : Cond) ∈ UW := um (tb_5 _ (List.mem_of_getElem? (i := 158) (by decide +kernel))) (by decide +kernel)
theorem vl_L_104 : VL 0 RL 104 mX11_image 9 1 := ⟨by decide, ⟨_, rfl⟩, ⟨_, _, rfl⟩, md_X11_image, w_5_156, w_5_157, w_5_158⟩
theorem w_8_126 : (.methodLink RL 108 yX12_image : Cond) ∈ UW := um (tb_8 _ (List.mem_of_getElem? (i := 126) (by decide +kernel))) (by decide +kernel)
theorem w_8_127 : (.instanceMethod yX12_image : Cond) ∈ UW := um (tb_8 _ (List.mem_of_getElem? (i := 127) (by decide +kernel))) (by decide +kernel)
theorem w_8_128 : (.selects RX12 yX12_image yX12_image : Cond) ∈ UW := um (tb_8 _ (List.mem_of_getElem? (i := 128) (by decide +kernel))) (by decide +kernel)
theorem vl_L_108 : VL 1 RL 108 mX12_image 10 1 := ⟨by decide, ⟨_, rfl⟩, ⟨_, _, rfl⟩, md_X12_image, w_8_126, w_8_127, w_8_128⟩
theorem w_5_168 : (.methodLink RL 109 yX11_again : Cond) ∈ UW := um (tb_5 _ (List.mem_of_getElem? (i := 168) (by decide +kernel))) (by decide +kernel)
theorem w_5_169 : (.instanceMethod yX11_again : Cond) ∈ UW := um (tb_5 _ (List.mem_of_getElem? (i := 169) (by decide +kernel))) (by decide +kernel)
theorem w_5_170 : (.selects RX11 yX11_again yX11_again : Cond) ∈ UW := um (tb_5 _ (List.mem_of_getElem? (i := 170) (by decide +kernel))) (by decide +kernel)
theorem vl_L_109 : VL 0 RL 109 mX11_again 9 1 := ⟨by decide, ⟨_, rfl⟩, ⟨_, _, rfl⟩, md_X11_again, w_5_168, w_5_169, w_5_170⟩
theorem w_8_137 : (.methodLink RL 112 yX12_again : Cond) ∈ UW := um (tb_8 _ (List.mem_of_getElem? (i := 137) (by decide +kernel))) (by decide +kernel)
theorem w_8_138 : (.instanceMethod yX12_again : Cond) ∈ UW := um (tb_8 _ (List.mem_of_getElem? (i := 138) (by decide +kernel))) (by decide +kernel)
theorem w_8_139 : (.selects RX12 yX12_again yX12_again : Cond) ∈ UW := um (tb_8 _ (List.mem_of_getElem? (i := 139) (by decide +kernel))) (by decide +kernel)
theorem vl_L_112 : VL 1 RL 112 mX12_again 10 1 := ⟨by decide, ⟨_, rfl⟩, ⟨_, _, rfl⟩, md_X12_again, w_8_137, w_8_138, w_8_139⟩
theorem w_5_178 : (.constant RX12 56 46656 : Cond) ∈ UW := um (tb_5 _ (List.mem_of_getElem? (i := 178) (by decide +kernel))) (by decide +kernel)
theorem w_7_102 : (.methodLink RX12 92 yX12_has : Cond) ∈ UW := um (tb_7 _ (List.mem_of_getElem? (i := 102) (by decide +kernel))) (by decide +kernel)
theorem w_7_103 : (.static yX12_has : Cond) ∈ UW := um (tb_7 _ (List.mem_of_getElem? (i := 103) (by decide +kernel))) (by decide +kernel)
theorem sl_X12_92 : SL RX12 92 mX12_has 2 := ⟨md_X12_has, w_7_102, w_7_103⟩
theorem w_8_134 : (.methodLink RX12 96 yX12_copyRow : Cond) ∈ UW := um (tb_8 _ (List.mem_of_getElem? (i := 134) (by decide +kernel))) (by decide +kernel)
theorem w_8_135 : (.static yX12_copyRow : Cond) ∈ UW := um (tb_8 _ (List.mem_of_getElem? (i := 135) (by decide +kernel))) (by decide +kernel)
theorem sl_X12_96 : SL RX12 96 mX12_copyRow 4 := ⟨md_X12_copyRow, w_8_134, w_8_135⟩
theorem w_6_138 : (.methodLink RX12 100 yX12_in : Cond) ∈ UW := um (tb_6 _ (List.mem_of_getElem? (i := 138) (by decide +kernel))) (by decide +kernel)
theorem w_6_139 : (.static yX12_in : Cond) ∈ UW := um (tb_6 _ (List.mem_of_getElem? (i := 139) (by decide +kernel))) (by decide +kernel)
theorem sl_X12_100 : SL RX12 100 mX12_in 3 := ⟨md_X12_in, w_6_138, w_6_139⟩
theorem w_6_130 : (.methodLink RX12 104 yX12_four : Cond) ∈ UW := um (tb_6 _ (List.mem_of_getElem? (i := 130) (by decide +kernel))) (by decide +kernel)
theorem w_6_132 : (.instanceMethod yX12_four : Cond) ∈ UW := um (tb_6 _ (List.mem_of_getElem? (i := 132) (by decide +kernel))) (by decide +kernel)
theorem w_103_12 : (.selects RX12 yX12_four yX12_four : Cond) ∈ UW := um (pv_3 _ (List.mem_of_getElem? (i := 12) (by decide +kernel))) (by decide +kernel)
theorem vl_X12_104 : VL 1 RX12 104 mX12_four 10 1 := ⟨by decide, ⟨_, rfl⟩, ⟨_, _, rfl⟩, md_X12_four, w_6_130, w_6_132, w_103_12⟩
theorem w_6_157 : (.methodLink RX12 114 yX12_see : Cond) ∈ UW := um (tb_6 _ (List.mem_of_getElem? (i := 157) (by decide +kernel))) (by decide +kernel)
theorem w_6_159 : (.instanceMethod yX12_see : Cond) ∈ UW := um (tb_6 _ (List.mem_of_getElem? (i := 159) (by decide +kernel))) (by decide +kernel)
theorem w_104_0 : (.selects RX12 yX12_see yX12_see : Cond) ∈ UW := um (pv_4 _ (List.mem_of_getElem? (i := 0) (by decide +kernel))) (by decide +kernel)
theorem vl_X12_114 : VL 1 RX12 114 mX12_see 10 0 := ⟨by decide, ⟨_, rfl⟩, ⟨_, _, rfl⟩, md_X12_see, w_6_157, w_6_159, w_104_0⟩
theorem w_6_186 : (.methodLink RX12 140 yX12_fails : Cond) ∈ UW := um (tb_6 _ (List.mem_of_getElem? (i := 186) (by decide +kernel))) (by decide +kernel)
theorem w_6_188 : (.instanceMethod yX12_fails : Cond) ∈ UW := um (tb_6 _ (List.mem_of_getElem? (i := 188) (by decide +kernel))) (by decide +kernel)
theorem w_104_7 : (.selects RX12 yX12_fails yX12_fails : Cond) ∈ UW := um (pv_4 _ (List.mem_of_getElem? (i := 7) (by decide +kernel))) (by decide +kernel)
theorem vl_X12_140 : VL 1 RX12 140 mX12_fails 10 0 := ⟨by decide, ⟨_, rfl⟩, ⟨_, _, rfl⟩, md_X12_fails, w_6_186, w_6_188, w_104_7⟩
theorem w_6_178 : (.methodLink RX12 144 yX12_addsFault : Cond) ∈ UW := um (tb_6 _ (List.mem_of_getElem? (i := 178) (by decide +kernel))) (by decide +kernel)
theorem w_6_180 : (.instanceMethod yX12_addsFault : Cond) ∈ UW := um (tb_6 _ (List.mem_of_getElem? (i := 180) (by decide +kernel))) (by decide +kernel)
theorem w_104_5 : (.selects RX12 yX12_addsFault yX12_addsFault : Cond) ∈ UW := um (pv_4 _ (List.mem_of_getElem? (i := 5) (by decide +kernel))) (by decide +kernel)
theorem vl_X12_144 : VL 1 RX12 144 mX12_addsFault 10 2 := ⟨by decide, ⟨_, rfl⟩, ⟨_, _, rfl⟩, md_X12_addsFault, w_6_178, w_6_180, w_104_5⟩
theorem w_6_153 : (.methodLink RX12 152 yX12_token : Cond) ∈ UW := um (tb_6 _ (List.mem_of_getElem? (i := 153) (by decide +kernel))) (by decide +kernel)
theorem w_6_155 : (.instanceMethod yX12_token : Cond) ∈ UW := um (tb_6 _ (List.mem_of_getElem? (i := 155) (by decide +kernel))) (by decide +kernel)
theorem w_103_15 : (.selects RX12 yX12_token yX12_token : Cond) ∈ UW := um (pv_3 _ (List.mem_of_getElem? (i := 15) (by decide +kernel))) (by decide +kernel)
theorem vl_X12_152 : VL 1 RX12 152 mX12_token 10 0 := ⟨by decide, ⟨_, rfl⟩, ⟨_, _, rfl⟩, md_X12_token, w_6_153, w_6_155, w_103_15⟩
theorem w_6_174 : (.methodLink RX12 155 yX12_full : Cond) ∈ UW := um (tb_6 _ (List.mem_of_getElem? (i := 174) (by decide +kernel))) (by decide +kernel)
theorem w_6_176 : (.instanceMethod yX12_full : Cond) ∈ UW := um (tb_6 _ (List.mem_of_getElem? (i := 176) (by decide +kernel))) (by decide +kernel)
theorem w_104_4 : (.selects RX12 yX12_full yX12_full : Cond) ∈ UW := um (pv_4 _ (List.mem_of_getElem? (i := 4) (by decide +kernel))) (by decide +kernel)
theorem vl_X12_155 : VL 1 RX12 155 mX12_full 10 3 := ⟨by decide, ⟨_, rfl⟩, ⟨_, _, rfl⟩, md_X12_full, w_6_174, w_6_176, w_104_4⟩
theorem w_6_182 : (.methodLink RX12 159 yX12_take : Cond) ∈ UW := um (tb_6 _ (List.mem_of_getElem? (i := 182) (by decide +kernel))) (by decide +kernel)
theorem w_6_184 : (.instanceMethod yX12_take : Cond) ∈ UW := um (tb_6 _ (List.mem_of_getElem? (i := 184) (by decide +kernel))) (by decide +kernel)
theorem w_104_6 : (.selects RX12 yX12_take yX12_take : Cond) ∈ UW := um (pv_4 _ (List.mem_of_getElem? (i := 6) (by decide +kernel))) (by decide +kernel)
theorem vl_X12_159 : VL 1 RX12 159 mX12_take 10 3 := ⟨by decide, ⟨_, rfl⟩, ⟨_, _, rfl⟩, md_X12_take, w_6_182, w_6_184, w_104_6⟩
theorem w_6_190 : (.methodLink RX12 162 yX12_lesser : Cond) ∈ UW := um (tb_6 _ (List.mem_of_getElem? (i := 190) (by decide +kernel))) (by decide +kernel)
theorem w_6_191 : (.static yX12_lesser : Cond) ∈ UW := um (tb_6 _ (List.mem_of_getElem? (i := 191) (by decide +kernel))) (by decide +kernel)
theorem sl_X12_162 : SL RX12 162 mX12_lesser 2 := ⟨md_X12_lesser, w_6_190, w_6_191⟩
theorem w_6_169 : (.constantLong RX12 166 482854663269 : Cond) ∈ UW := um (tb_6 _ (List.mem_of_getElem? (i := 169) (by decide +kernel))) (by decide +kernel)
theorem w_6_170 : (.methodLink RX12 168 yX12_plateLine : Cond) ∈ UW := um (tb_6 _ (List.mem_of_getElem? (i := 170) (by decide +kernel))) (by decide +kernel)
theorem w_6_172 : (.instanceMethod yX12_plateLine : Cond) ∈ UW := um (tb_6 _ (List.mem_of_getElem? (i := 172) (by decide +kernel))) (by decide +kernel)
theorem w_104_3 : (.selects RX12 yX12_plateLine yX12_plateLine : Cond) ∈ UW := um (pv_4 _ (List.mem_of_getElem? (i := 3) (by decide +kernel))) (by decide +kernel)
theorem vl_X12_168 : VL 1 RX12 168 mX12_plateLine 10 1 := ⟨by decide, ⟨_, rfl⟩, ⟨_, _, rfl⟩, md_X12_plateLine, w_6_170, w_6_172, w_104_3⟩
theorem w_6_193 : (.constantLong RX12 172 495806932324 : Cond) ∈ UW := um (tb_6 _ (List.mem_of_getElem? (i := 193) (by decide +kernel))) (by decide +kernel)
theorem w_6_194 : (.constantLong RX12 174 495873782388 : Cond) ∈ UW := um (tb_6 _ (List.mem_of_getElem? (i := 194) (by decide +kernel))) (by decide +kernel)
theorem w_6_203 : (.constantLong RX12 176 2002872692 : Cond) ∈ UW := um (tb_6 _ (List.mem_of_getElem? (i := 203) (by decide +kernel))) (by decide +kernel)
theorem w_6_204 : (.constantLong RX12 178 7501166 : Cond) ∈ UW := um (tb_6 _ (List.mem_of_getElem? (i := 204) (by decide +kernel))) (by decide +kernel)
theorem w_6_205 : (.constantLong RX12 180 7562612 : Cond) ∈ UW := um (tb_6 _ (List.mem_of_getElem? (i := 205) (by decide +kernel))) (by decide +kernel)
theorem w_6_206 : (.constantLong RX12 182 1735750516 : Cond) ∈ UW := um (tb_6 _ (List.mem_of_getElem? (i := 206) (by decide +kernel))) (by decide +kernel)
theorem w_6_207 : (.constantLong RX12 184 7301484 : Cond) ∈ UW := um (tb_6 _ (List.mem_of_getElem? (i := 207) (by decide +kernel))) (by decide +kernel)
theorem w_6_199 : (.methodLink RX12 186 yX12_deedBy : Cond) ∈ UW := um (tb_6 _ (List.mem_of_getElem? (i := 199) (by decide +kernel))) (by decide +kernel)
theorem w_6_201 : (.instanceMethod yX12_deedBy : Cond) ∈ UW := um (tb_6 _ (List.mem_of_getElem? (i := 201) (by decide +kernel))) (by decide +kernel)
theorem w_104_9 : (.selects RX12 yX12_deedBy yX12_deedBy : Cond) ∈ UW := um (pv_4 _ (List.mem_of_getElem? (i := 9) (by decide +kernel))) (by decide +kernel)
theorem vl_X12_186 : VL 1 RX12 186 mX12_deedBy 10 1 := ⟨by decide, ⟨_, rfl⟩, ⟨_, _, rfl⟩, md_X12_deedBy, w_6_199, w_6_201, w_104_9⟩
theorem w_6_212 : (.constantLong RX12 190 1920298611 : Cond) ∈ UW := um (tb_6 _ (List.mem_of_getElem? (i := 212) (by decide +kernel))) (by decide +kernel)
theorem w_6_213 : (.constantLong RX12 192 495874699108 : Cond) ∈ UW := um (tb_6 _ (List.mem_of_getElem? (i := 213) (by decide +kernel))) (by decide +kernel)
theorem w_6_214 : (.constantLong RX12 194 7102841 : Cond) ∈ UW := um (tb_6 _ (List.mem_of_getElem? (i := 214) (by decide +kernel))) (by decide +kernel)
theorem w_6_165 : (.methodLink RX12 196 yX12_stageLine : Cond) ∈ UW := um (tb_6 _ (List.mem_of_getElem? (i := 165) (by decide +kernel))) (by decide +kernel)
theorem w_6_167 : (.instanceMethod yX12_stageLine : Cond) ∈ UW := um (tb_6 _ (List.mem_of_getElem? (i := 167) (by decide +kernel))) (by decide +kernel)
theorem w_104_2 : (.selects RX12 yX12_stageLine yX12_stageLine : Cond) ∈ UW := um (pv_4 _ (List.mem_of_getElem? (i := 2) (by decide +kernel))) (by decide +kernel)
theorem vl_X12_196 : VL 1 RX12 196 mX12_stageLine 10 2 := ⟨by decide, ⟨_, rfl⟩, ⟨_, _, rfl⟩, md_X12_stageLine, w_6_165, w_6_167, w_104_2⟩
theorem w_6_195 : (.methodLink RX12 200 yX12_showLine : Cond) ∈ UW := um (tb_6 _ (List.mem_of_getElem? (i := 195) (by decide +kernel))) (by decide +kernel)
theorem w_6_197 : (.instanceMethod yX12_showLine : Cond) ∈ UW := um (tb_6 _ (List.mem_of_getElem? (i := 197) (by decide +kernel))) (by decide +kernel)
theorem w_104_8 : (.selects RX12 yX12_showLine yX12_showLine : Cond) ∈ UW := um (pv_4 _ (List.mem_of_getElem? (i := 8) (by decide +kernel))) (by decide +kernel)
theorem vl_X12_200 : VL 1 RX12 200 mX12_showLine 10 2 := ⟨by decide, ⟨_, rfl⟩, ⟨_, _, rfl⟩, md_X12_showLine, w_6_195, w_6_197, w_104_8⟩
theorem w_6_208 : (.methodLink RX12 203 yX12_logLine : Cond) ∈ UW := um (tb_6 _ (List.mem_of_getElem? (i := 208) (by decide +kernel))) (by decide +kernel)
theorem w_6_210 : (.instanceMethod yX12_logLine : Cond) ∈ UW := um (tb_6 _ (List.mem_of_getElem? (i := 210) (by decide +kernel))) (by decide +kernel)
theorem w_104_10 : (.selects RX12 yX12_logLine yX12_logLine : Cond) ∈ UW := um (pv_4 _ (List.mem_of_getElem? (i := 10) (by decide +kernel))) (by decide +kernel)
theorem vl_X12_203 : VL 1 RX12 203 mX12_logLine 10 2 := ⟨by decide, ⟨_, rfl⟩, ⟨_, _, rfl⟩, md_X12_logLine, w_6_208, w_6_210, w_104_10⟩
theorem w_6_161 : (.methodLink RX12 206 yX12_allLines : Cond) ∈ UW := um (tb_6 _ (List.mem_of_getElem? (i := 161) (by decide +kernel))) (by decide +kernel)
theorem w_6_163 : (.instanceMethod yX12_allLines : Cond) ∈ UW := um (tb_6 _ (List.mem_of_getElem? (i := 163) (by decide +kernel))) (by decide +kernel)
theorem w_104_1 : (.selects RX12 yX12_allLines yX12_allLines : Cond) ∈ UW := um (pv_4 _ (List.mem_of_getElem? (i := 1) (by decide +kernel))) (by decide +kernel)
theorem vl_X12_206 : VL 1 RX12 206 mX12_allLines 10 1 := ⟨by decide, ⟨_, rfl⟩, ⟨_, _, rfl⟩, md_X12_allLines, w_6_161, w_6_163, w_104_1⟩
theorem w_6_145 : (.methodLink RX12 209 yX12_is : Cond) ∈ UW := um (tb_6 _ (List.mem_of_getElem? (i := 145) (by decide +kernel))) (by decide +kernel)
theorem w_6_147 : (.instanceMethod yX12_is : Cond) ∈ UW := um (tb_6 _ (List.mem_of_getElem? (i := 147) (by decide +kernel))) (by decide +kernel)
theorem w_103_13 : (.selects RX12 yX12_is yX12_is : Cond) ∈ UW := um (pv_3 _ (List.mem_of_getElem? (i := 13) (by decide +kernel))) (by decide +kernel)
theorem vl_X12_209 : VL 1 RX12 209 mX12_is 10 2 := ⟨by decide, ⟨_, rfl⟩, ⟨_, _, rfl⟩, md_X12_is, w_6_145, w_6_147, w_103_13⟩
theorem w_6_149 : (.methodLink RX12 212 yX12_readText : Cond) ∈ UW := um (tb_6 _ (List.mem_of_getElem? (i := 149) (by decide +kernel))) (by decide +kernel)
theorem w_6_151 : (.instanceMethod yX12_readText : Cond) ∈ UW := um (tb_6 _ (List.mem_of_getElem? (i := 151) (by decide +kernel))) (by decide +kernel)
theorem w_103_14 : (.selects RX12 yX12_readText yX12_readText : Cond) ∈ UW := um (pv_3 _ (List.mem_of_getElem? (i := 14) (by decide +kernel))) (by decide +kernel)
theorem vl_X12_212 : VL 1 RX12 212 mX12_readText 10 1 := ⟨by decide, ⟨_, rfl⟩, ⟨_, _, rfl⟩, md_X12_readText, w_6_149, w_6_151, w_103_14⟩
theorem w_6_215 : (.methodLink RX12 215 yX12_store : Cond) ∈ UW := um (tb_6 _ (List.mem_of_getElem? (i := 215) (by decide +kernel))) (by decide +kernel)
theorem w_6_217 : (.instanceMethod yX12_store : Cond) ∈ UW := um (tb_6 _ (List.mem_of_getElem? (i := 217) (by decide +kernel))) (by decide +kernel)
theorem w_104_11 : (.selects RX12 yX12_store yX12_store : Cond) ∈ UW := um (pv_4 _ (List.mem_of_getElem? (i := 11) (by decide +kernel))) (by decide +kernel)
theorem vl_X12_215 : VL 1 RX12 215 mX12_store 10 3 := ⟨by decide, ⟨_, rfl⟩, ⟨_, _, rfl⟩, md_X12_store, w_6_215, w_6_217, w_104_11⟩
theorem w_6_235 : (.methodLink RX12 222 yX12_of : Cond) ∈ UW := um (tb_6 _ (List.mem_of_getElem? (i := 235) (by decide +kernel))) (by decide +kernel)
theorem w_6_237 : (.instanceMethod yX12_of : Cond) ∈ UW := um (tb_6 _ (List.mem_of_getElem? (i := 237) (by decide +kernel))) (by decide +kernel)
theorem w_104_14 : (.selects RX12 yX12_of yX12_of : Cond) ∈ UW := um (pv_4 _ (List.mem_of_getElem? (i := 14) (by decide +kernel))) (by decide +kernel)
theorem vl_X12_222 : VL 1 RX12 222 mX12_of 10 1 := ⟨by decide, ⟨_, rfl⟩, ⟨_, _, rfl⟩, md_X12_of, w_6_235, w_6_237, w_104_14⟩
theorem w_6_231 : (.methodLink RX12 238 yX12_asTold : Cond) ∈ UW := um (tb_6 _ (List.mem_of_getElem? (i := 231) (by decide +kernel))) (by decide +kernel)
theorem w_6_233 : (.instanceMethod yX12_asTold : Cond) ∈ UW := um (tb_6 _ (List.mem_of_getElem? (i := 233) (by decide +kernel))) (by decide +kernel)
theorem w_104_13 : (.selects RX12 yX12_asTold yX12_asTold : Cond) ∈ UW := um (pv_4 _ (List.mem_of_getElem? (i := 13) (by decide +kernel))) (by decide +kernel)
theorem vl_X12_238 : VL 1 RX12 238 mX12_asTold 10 0 := ⟨by decide, ⟨_, rfl⟩, ⟨_, _, rfl⟩, md_X12_asTold, w_6_231, w_6_233, w_104_13⟩
theorem w_6_227 : (.methodLink RX12 241 yX12_hand : Cond) ∈ UW := um (tb_6 _ (List.mem_of_getElem? (i := 227) (by decide +kernel))) (by decide +kernel)
theorem w_6_229 : (.instanceMethod yX12_hand : Cond) ∈ UW := um (tb_6 _ (List.mem_of_getElem? (i := 229) (by decide +kernel))) (by decide +kernel)
theorem w_104_12 : (.selects RX12 yX12_hand yX12_hand : Cond) ∈ UW := um (pv_4 _ (List.mem_of_getElem? (i := 12) (by decide +kernel))) (by decide +kernel)
theorem vl_X12_241 : VL 1 RX12 241 mX12_hand 10 1 := ⟨by decide, ⟨_, rfl⟩, ⟨_, _, rfl⟩, md_X12_hand, w_6_227, w_6_229, w_104_12⟩
theorem w_6_239 : (.methodLink RX12 244 yX12_isPlate : Cond) ∈ UW := um (tb_6 _ (List.mem_of_getElem? (i := 239) (by decide +kernel))) (by decide +kernel)
theorem w_7_1 : (.instanceMethod yX12_isPlate : Cond) ∈ UW := um (tb_7 _ (List.mem_of_getElem? (i := 1) (by decide +kernel))) (by decide +kernel)
theorem w_104_15 : (.selects RX12 yX12_isPlate yX12_isPlate : Cond) ∈ UW := um (pv_4 _ (List.mem_of_getElem? (i := 15) (by decide +kernel))) (by decide +kernel)
theorem vl_X12_244 : VL 1 RX12 244 mX12_isPlate 10 1 := ⟨by decide, ⟨_, rfl⟩, ⟨_, _, rfl⟩, md_X12_isPlate, w_6_239, w_7_1, w_104_15⟩
theorem w_7_31 : (.methodLink RX12 274 yX12_standNow : Cond) ∈ UW := um (tb_7 _ (List.mem_of_getElem? (i := 31) (by decide +kernel))) (by decide +kernel)
theorem w_7_33 : (.instanceMethod yX12_standNow : Cond) ∈ UW := um (tb_7 _ (List.mem_of_getElem? (i := 33) (by decide +kernel))) (by decide +kernel)
theorem w_105_5 : (.selects RX12 yX12_standNow yX12_standNow : Cond) ∈ UW := um (pv_5 _ (List.mem_of_getElem? (i := 5) (by decide +kernel))) (by decide +kernel)
theorem vl_X12_274 : VL 1 RX12 274 mX12_standNow 10 0 := ⟨by decide, ⟨_, rfl⟩, ⟨_, _, rfl⟩, md_X12_standNow, w_7_31, w_7_33, w_105_5⟩
theorem w_7_55 : (.methodLink RX12 277 yX12_lose : Cond) ∈ UW := um (tb_7 _ (List.mem_of_getElem? (i := 55) (by decide +kernel))) (by decide +kernel)
theorem w_7_57 : (.instanceMethod yX12_lose : Cond) ∈ UW := um (tb_7 _ (List.mem_of_getElem? (i := 57) (by decide +kernel))) (by decide +kernel)
theorem w_105_11 : (.selects RX12 yX12_lose yX12_lose : Cond) ∈ UW := um (pv_5 _ (List.mem_of_getElem? (i := 11) (by decide +kernel))) (by decide +kernel)
theorem vl_X12_277 : VL 1 RX12 277 mX12_lose 10 1 := ⟨by decide, ⟨_, rfl⟩, ⟨_, _, rfl⟩, md_X12_lose, w_7_55, w_7_57, w_105_11⟩
theorem w_7_59 : (.methodLink RX12 280 yX12_greater : Cond) ∈ UW := um (tb_7 _ (List.mem_of_getElem? (i := 59) (by decide +kernel))) (by decide +kernel)
theorem w_7_60 : (.static yX12_greater : Cond) ∈ UW := um (tb_7 _ (List.mem_of_getElem? (i := 60) (by decide +kernel))) (by decide +kernel)
theorem sl_X12_280 : SL RX12 280 mX12_greater 2 := ⟨md_X12_greater, w_7_59, w_7_60⟩
theorem w_7_66 : (.methodLink RX12 283 yX12_way : Cond) ∈ UW := um (tb_7 _ (List.mem_of_getElem? (i := 66) (by decide +kernel))) (by decide +kernel)
theorem w_7_68 : (.instanceMethod yX12_way : Cond) ∈ UW := um (tb_7 _ (List.mem_of_getElem? (i := 68) (by decide +kernel))) (by decide +kernel)
theorem w_105_13 : (.selects RX12 yX12_way yX12_way : Cond) ∈ UW := um (pv_5 _ (List.mem_of_getElem? (i := 13) (by decide +kernel))) (by decide +kernel)
theorem vl_X12_283 : VL 1 RX12 283 mX12_way 10 2 := ⟨by decide, ⟨_, rfl⟩, ⟨_, _, rfl⟩, md_X12_way, w_7_66, w_7_68, w_105_13⟩
theorem w_7_47 : (.methodLink RX12 286 yX12_isLate : Cond) ∈ UW := um (tb_7 _ (List.mem_of_getElem? (i := 47) (by decide +kernel))) (by decide +kernel)
theorem w_7_49 : (.instanceMethod yX12_isLate : Cond) ∈ UW := um (tb_7 _ (List.mem_of_getElem? (i := 49) (by decide +kernel))) (by decide +kernel)
theorem w_105_9 : (.selects RX12 yX12_isLate yX12_isLate : Cond) ∈ UW := um (pv_5 _ (List.mem_of_getElem? (i := 9) (by decide +kernel))) (by decide +kernel)
theorem vl_X12_286 : VL 1 RX12 286 mX12_isLate 10 1 := ⟨by decide, ⟨_, rfl⟩, ⟨_, _, rfl⟩, md_X12_isLate, w_7_47, w_7_49, w_105_9⟩
theorem w_7_51 : (.methodLink RX12 289 yX12_beat : Cond) ∈ UW := um (tb_7 _ (List.mem_of_getElem? (i := 51) (by decide +kernel))) (by decide +kernel)
theorem w_7_53 : (.instanceMethod yX12_beat : Cond) ∈ UW := um (tb_7 _ (List.mem_of_getElem? (i := 53) (by decide +kernel))) (by decide +kernel)
theorem w_105_10 : (.selects RX12 yX12_beat yX12_beat : Cond) ∈ UW := um (pv_5 _ (List.mem_of_getElem? (i := 10) (by decide +kernel))) (by decide +kernel)
theorem vl_X12_289 : VL 1 RX12 289 mX12_beat 10 1 := ⟨by decide, ⟨_, rfl⟩, ⟨_, _, rfl⟩, md_X12_beat, w_7_51, w_7_53, w_105_10⟩
theorem w_7_62 : (.methodLink RX12 292 yX12_run : Cond) ∈ UW := um (tb_7 _ (List.mem_of_getElem? (i := 62) (by decide +kernel))) (by decide +kernel)
theorem w_7_64 : (.instanceMethod yX12_run : Cond) ∈ UW := um (tb_7 _ (List.mem_of_getElem? (i := 64) (by decide +kernel))) (by decide +kernel)
theorem w_105_12 : (.selects RX12 yX12_run yX12_run : Cond) ∈ UW := um (pv_5 _ (List.mem_of_getElem? (i := 12) (by decide +kernel))) (by decide +kernel)
theorem vl_X12_292 : VL 1 RX12 292 mX12_run 10 1 := ⟨by decide, ⟨_, rfl⟩, ⟨_, _, rfl⟩, md_X12_run, w_7_62, w_7_64, w_105_12⟩
theorem w_7_70 : (.methodLink RX12 295 yX12_sets : Cond) ∈ UW := um (tb_7 _ (List.mem_of_getElem? (i := 70) (by decide +kernel))) (by decide +kernel)
theorem w_7_72 : (.instanceMethod yX12_sets : Cond) ∈ UW := um (tb_7 _ (List.mem_of_getElem? (i := 72) (by decide +kernel))) (by decide +kernel)
theorem w_105_14 : (.selects RX12 yX12_sets yX12_sets : Cond) ∈ UW := um (pv_5 _ (List.mem_of_getElem? (i := 14) (by decide +kernel))) (by decide +kernel)
theorem vl_X12_295 : VL 1 RX12 295 mX12_sets 10 1 := ⟨by decide, ⟨_, rfl⟩, ⟨_, _, rfl⟩, md_X12_sets, w_7_70, w_7_72, w_105_14⟩
theorem w_7_7 : (.methodLink RX12 301 yX12_hasShow : Cond) ∈ UW := um (tb_7 _ (List.mem_of_getElem? (i := 7) (by decide +kernel))) (by decide +kernel)
theorem w_7_9 : (.instanceMethod yX12_hasShow : Cond) ∈ UW := um (tb_7 _ (List.mem_of_getElem? (i := 9) (by decide +kernel))) (by decide +kernel)
theorem w_105_0 : (.selects RX12 yX12_hasShow yX12_hasShow : Cond) ∈ UW := um (pv_5 _ (List.mem_of_getElem? (i := 0) (by decide +kernel))) (by decide +kernel)
theorem vl_X12_301 : VL 1 RX12 301 mX12_hasShow 10 1 := ⟨by decide, ⟨_, rfl⟩, ⟨_, _, rfl⟩, md_X12_hasShow, w_7_7, w_7_9, w_105_0⟩
theorem w_7_11 : (.methodLink RX12 304 yX12_deeds : Cond) ∈ UW := um (tb_7 _ (List.mem_of_getElem? (i := 11) (by decide +kernel))) (by decide +kernel)
theorem w_7_13 : (.instanceMethod yX12_deeds : Cond) ∈ UW := um (tb_7 _ (List.mem_of_getElem? (i := 13) (by decide +kernel))) (by decide +kernel)
theorem w_105_1 : (.selects RX12 yX12_deeds yX12_deeds : Cond) ∈ UW := um (pv_5 _ (List.mem_of_getElem? (i := 1) (by decide +kernel))) (by decide +kernel)
theorem vl_X12_304 : VL 1 RX12 304 mX12_deeds 10 0 := ⟨by decide, ⟨_, rfl⟩, ⟨_, _, rfl⟩, md_X12_deeds, w_7_11, w_7_13, w_105_1⟩
theorem w_7_15 : (.methodLink RX12 307 yX12_deedOf : Cond) ∈ UW := um (tb_7 _ (List.mem_of_getElem? (i := 15) (by decide +kernel))) (by decide +kernel)
theorem w_7_17 : (.instanceMethod yX12_deedOf : Cond) ∈ UW := um (tb_7 _ (List.mem_of_getElem? (i := 17) (by decide +kernel))) (by decide +kernel)
theorem w_105_2 : (.selects RX12 yX12_deedOf yX12_deedOf : Cond) ∈ UW := um (pv_5 _ (List.mem_of_getElem? (i := 2) (by decide +kernel))) (by decide +kernel)
theorem vl_X12_307 : VL 1 RX12 307 mX12_deedOf 10 2 := ⟨by decide, ⟨_, rfl⟩, ⟨_, _, rfl⟩, md_X12_deedOf, w_7_15, w_7_17, w_105_2⟩
theorem w_7_43 : (.methodLink RX12 310 yX12_does : Cond) ∈ UW := um (tb_7 _ (List.mem_of_getElem? (i := 43) (by decide +kernel))) (by decide +kernel)
theorem w_7_45 : (.instanceMethod yX12_does : Cond) ∈ UW := um (tb_7 _ (List.mem_of_getElem? (i := 45) (by decide +kernel))) (by decide +kernel)
theorem w_105_8 : (.selects RX12 yX12_does yX12_does : Cond) ∈ UW := um (pv_5 _ (List.mem_of_getElem? (i := 8) (by decide +kernel))) (by decide +kernel)
theorem vl_X12_310 : VL 1 RX12 310 mX12_does 10 2 := ⟨by decide, ⟨_, rfl⟩, ⟨_, _, rfl⟩, md_X12_does, w_7_43, w_7_45, w_105_8⟩
theorem w_7_39 : (.methodLink RX12 313 yX12_doesDeed : Cond) ∈ UW := um (tb_7 _ (List.mem_of_getElem? (i := 39) (by decide +kernel))) (by decide +kernel)
theorem w_7_41 : (.instanceMethod yX12_doesDeed : Cond) ∈ UW := um (tb_7 _ (List.mem_of_getElem? (i := 41) (by decide +kernel))) (by decide +kernel)
theorem w_105_7 : (.selects RX12 yX12_doesDeed yX12_doesDeed : Cond) ∈ UW := um (pv_5 _ (List.mem_of_getElem? (i := 7) (by decide +kernel))) (by decide +kernel)
theorem vl_X12_313 : VL 1 RX12 313 mX12_doesDeed 10 1 := ⟨by decide, ⟨_, rfl⟩, ⟨_, _, rfl⟩, md_X12_doesDeed, w_7_39, w_7_41, w_105_7⟩
theorem w_7_27 : (.methodLink RX12 316 yX12_beginShow : Cond) ∈ UW := um (tb_7 _ (List.mem_of_getElem? (i := 27) (by decide +kernel))) (by decide +kernel)
theorem w_7_29 : (.instanceMethod yX12_beginShow : Cond) ∈ UW := um (tb_7 _ (List.mem_of_getElem? (i := 29) (by decide +kernel))) (by decide +kernel)
theorem w_105_4 : (.selects RX12 yX12_beginShow yX12_beginShow : Cond) ∈ UW := um (pv_5 _ (List.mem_of_getElem? (i := 4) (by decide +kernel))) (by decide +kernel)
theorem vl_X12_316 : VL 1 RX12 316 mX12_beginShow 10 0 := ⟨by decide, ⟨_, rfl⟩, ⟨_, _, rfl⟩, md_X12_beginShow, w_7_27, w_7_29, w_105_4⟩
theorem w_7_23 : (.methodLink RX12 319 yX12_layAll : Cond) ∈ UW := um (tb_7 _ (List.mem_of_getElem? (i := 23) (by decide +kernel))) (by decide +kernel)
theorem w_7_25 : (.instanceMethod yX12_layAll : Cond) ∈ UW := um (tb_7 _ (List.mem_of_getElem? (i := 25) (by decide +kernel))) (by decide +kernel)
theorem w_105_3 : (.selects RX12 yX12_layAll yX12_layAll : Cond) ∈ UW := um (pv_5 _ (List.mem_of_getElem? (i := 3) (by decide +kernel))) (by decide +kernel)
theorem vl_X12_319 : VL 1 RX12 319 mX12_layAll 10 2 := ⟨by decide, ⟨_, rfl⟩, ⟨_, _, rfl⟩, md_X12_layAll, w_7_23, w_7_25, w_105_3⟩
theorem w_7_35 : (.methodLink RX12 322 yX12_play : Cond) ∈ UW := um (tb_7 _ (List.mem_of_getElem? (i := 35) (by decide +kernel))) (by decide +kernel)
theorem w_7_37 : (.instanceMethod yX12_play : Cond) ∈ UW := um (tb_7 _ (List.mem_of_getElem? (i := 37) (by decide +kernel))) (by decide +kernel)
theorem w_105_6 : (.selects RX12 yX12_play yX12_play : Cond) ∈ UW := um (pv_5 _ (List.mem_of_getElem? (i := 6) (by decide +kernel))) (by decide +kernel)
theorem vl_X12_322 : VL 1 RX12 322 mX12_play 10 1 := ⟨by decide, ⟨_, rfl⟩, ⟨_, _, rfl⟩, md_X12_play, w_7_35, w_7_37, w_105_6⟩
theorem w_7_78 : (.methodLink RX12 325 yX12_ofState : Cond) ∈ UW := um (tb_7 _ (List.mem_of_getElem? (i := 78) (by decide +kernel))) (by decide +kernel)
theorem w_7_80 : (.instanceMethod yX12_ofState : Cond) ∈ UW := um (tb_7 _ (List.mem_of_getElem? (i := 80) (by decide +kernel))) (by decide +kernel)
theorem w_105_15 : (.selects RX12 yX12_ofState yX12_ofState : Cond) ∈ UW := um (pv_5 _ (List.mem_of_getElem? (i := 15) (by decide +kernel))) (by decide +kernel)
theorem vl_X12_325 : VL 1 RX12 325 mX12_ofState 10 1 := ⟨by decide, ⟨_, rfl⟩, ⟨_, _, rfl⟩, md_X12_ofState, w_7_78, w_7_80, w_105_15⟩
theorem w_7_121 : (.methodLink RX12 331 yX12_placeNow : Cond) ∈ UW := um (tb_7 _ (List.mem_of_getElem? (i := 121) (by decide +kernel))) (by decide +kernel)
theorem w_7_123 : (.instanceMethod yX12_placeNow : Cond) ∈ UW := um (tb_7 _ (List.mem_of_getElem? (i := 123) (by decide +kernel))) (by decide +kernel)
theorem w_106_8 : (.selects RX12 yX12_placeNow yX12_placeNow : Cond) ∈ UW := um (pv_6 _ (List.mem_of_getElem? (i := 8) (by decide +kernel))) (by decide +kernel)
theorem vl_X12_331 : VL 1 RX12 331 mX12_placeNow 10 0 := ⟨by decide, ⟨_, rfl⟩, ⟨_, _, rfl⟩, md_X12_placeNow, w_7_121, w_7_123, w_106_8⟩
theorem w_7_117 : (.methodLink RX12 334 yX12_beatsTo : Cond) ∈ UW := um (tb_7 _ (List.mem_of_getElem? (i := 117) (by decide +kernel))) (by decide +kernel)
theorem w_7_119 : (.instanceMethod yX12_beatsTo : Cond) ∈ UW := um (tb_7 _ (List.mem_of_getElem? (i := 119) (by decide +kernel))) (by decide +kernel)
theorem w_106_7 : (.selects RX12 yX12_beatsTo yX12_beatsTo : Cond) ∈ UW := um (pv_6 _ (List.mem_of_getElem? (i := 7) (by decide +kernel))) (by decide +kernel)
theorem vl_X12_334 : VL 1 RX12 334 mX12_beatsTo 10 1 := ⟨by decide, ⟨_, rfl⟩, ⟨_, _, rfl⟩, md_X12_beatsTo, w_7_117, w_7_119, w_106_7⟩
theorem w_7_98 : (.methodLink RX12 337 yX12_close : Cond) ∈ UW := um (tb_7 _ (List.mem_of_getElem? (i := 98) (by decide +kernel))) (by decide +kernel)
theorem w_7_100 : (.instanceMethod yX12_close : Cond) ∈ UW := um (tb_7 _ (List.mem_of_getElem? (i := 100) (by decide +kernel))) (by decide +kernel)
theorem w_106_3 : (.selects RX12 yX12_close yX12_close : Cond) ∈ UW := um (pv_6 _ (List.mem_of_getElem? (i := 3) (by decide +kernel))) (by decide +kernel)
theorem vl_X12_337 : VL 1 RX12 337 mX12_close 10 0 := ⟨by decide, ⟨_, rfl⟩, ⟨_, _, rfl⟩, md_X12_close, w_7_98, w_7_100, w_106_3⟩
theorem w_7_94 : (.methodLink RX12 343 yX12_openFirst : Cond) ∈ UW := um (tb_7 _ (List.mem_of_getElem? (i := 94) (by decide +kernel))) (by decide +kernel)
theorem w_7_96 : (.instanceMethod yX12_openFirst : Cond) ∈ UW := um (tb_7 _ (List.mem_of_getElem? (i := 96) (by decide +kernel))) (by decide +kernel)
theorem w_106_2 : (.selects RX12 yX12_openFirst yX12_openFirst : Cond) ∈ UW := um (pv_6 _ (List.mem_of_getElem? (i := 2) (by decide +kernel))) (by decide +kernel)
theorem vl_X12_343 : VL 1 RX12 343 mX12_openFirst 10 0 := ⟨by decide, ⟨_, rfl⟩, ⟨_, _, rfl⟩, md_X12_openFirst, w_7_94, w_7_96, w_106_2⟩
theorem w_7_105 : (.methodLink RX12 346 yX12_addStand : Cond) ∈ UW := um (tb_7 _ (List.mem_of_getElem? (i := 105) (by decide +kernel))) (by decide +kernel)
theorem w_7_107 : (.instanceMethod yX12_addStand : Cond) ∈ UW := um (tb_7 _ (List.mem_of_getElem? (i := 107) (by decide +kernel))) (by decide +kernel)
theorem w_106_4 : (.selects RX12 yX12_addStand yX12_addStand : Cond) ∈ UW := um (pv_6 _ (List.mem_of_getElem? (i := 4) (by decide +kernel))) (by decide +kernel)
theorem vl_X12_346 : VL 1 RX12 346 mX12_addStand 10 1 := ⟨by decide, ⟨_, rfl⟩, ⟨_, _, rfl⟩, md_X12_addStand, w_7_105, w_7_107, w_106_4⟩
theorem w_7_109 : (.methodLink RX12 349 yX12_open : Cond) ∈ UW := um (tb_7 _ (List.mem_of_getElem? (i := 109) (by decide +kernel))) (by decide +kernel)
theorem w_7_111 : (.instanceMethod yX12_open : Cond) ∈ UW := um (tb_7 _ (List.mem_of_getElem? (i := 111) (by decide +kernel))) (by decide +kernel)
theorem w_106_5 : (.selects RX12 yX12_open yX12_open : Cond) ∈ UW := um (pv_6 _ (List.mem_of_getElem? (i := 5) (by decide +kernel))) (by decide +kernel)
theorem vl_X12_349 : VL 1 RX12 349 mX12_open 10 1 := ⟨by decide, ⟨_, rfl⟩, ⟨_, _, rfl⟩, md_X12_open, w_7_109, w_7_111, w_106_5⟩
theorem w_7_113 : (.methodLink RX12 352 yX12_isKept : Cond) ∈ UW := um (tb_7 _ (List.mem_of_getElem? (i := 113) (by decide +kernel))) (by decide +kernel)
theorem w_7_115 : (.instanceMethod yX12_isKept : Cond) ∈ UW := um (tb_7 _ (List.mem_of_getElem? (i := 115) (by decide +kernel))) (by decide +kernel)
theorem w_106_6 : (.selects RX12 yX12_isKept yX12_isKept : Cond) ∈ UW := um (pv_6 _ (List.mem_of_getElem? (i := 6) (by decide +kernel))) (by decide +kernel)
theorem vl_X12_352 : VL 1 RX12 352 mX12_isKept 10 1 := ⟨by decide, ⟨_, rfl⟩, ⟨_, _, rfl⟩, md_X12_isKept, w_7_113, w_7_115, w_106_6⟩
theorem w_7_125 : (.methodLink RX12 355 yX12_behindRun : Cond) ∈ UW := um (tb_7 _ (List.mem_of_getElem? (i := 125) (by decide +kernel))) (by decide +kernel)
theorem w_7_127 : (.instanceMethod yX12_behindRun : Cond) ∈ UW := um (tb_7 _ (List.mem_of_getElem? (i := 127) (by decide +kernel))) (by decide +kernel)
theorem w_106_9 : (.selects RX12 yX12_behindRun yX12_behindRun : Cond) ∈ UW := um (pv_6 _ (List.mem_of_getElem? (i := 9) (by decide +kernel))) (by decide +kernel)
theorem vl_X12_355 : VL 1 RX12 355 mX12_behindRun 10 1 := ⟨by decide, ⟨_, rfl⟩, ⟨_, _, rfl⟩, md_X12_behindRun, w_7_125, w_7_127, w_106_9⟩
theorem w_7_137 : (.constant RX12 358 1000000 : Cond) ∈ UW := um (tb_7 _ (List.mem_of_getElem? (i := 137) (by decide +kernel))) (by decide +kernel)
theorem w_7_133 : (.methodLink RX12 359 yX12_leastLeft : Cond) ∈ UW := um (tb_7 _ (List.mem_of_getElem? (i := 133) (by decide +kernel))) (by decide +kernel)
theorem w_7_135 : (.instanceMethod yX12_leastLeft : Cond) ∈ UW := um (tb_7 _ (List.mem_of_getElem? (i := 135) (by decide +kernel))) (by decide +kernel)
theorem w_106_11 : (.selects RX12 yX12_leastLeft yX12_leastLeft : Cond) ∈ UW := um (pv_6 _ (List.mem_of_getElem? (i := 11) (by decide +kernel))) (by decide +kernel)
theorem vl_X12_359 : VL 1 RX12 359 mX12_leastLeft 10 0 := ⟨by decide, ⟨_, rfl⟩, ⟨_, _, rfl⟩, md_X12_leastLeft, w_7_133, w_7_135, w_106_11⟩
theorem w_7_90 : (.methodLink RX12 362 yX12_layOut : Cond) ∈ UW := um (tb_7 _ (List.mem_of_getElem? (i := 90) (by decide +kernel))) (by decide +kernel)
theorem w_7_92 : (.instanceMethod yX12_layOut : Cond) ∈ UW := um (tb_7 _ (List.mem_of_getElem? (i := 92) (by decide +kernel))) (by decide +kernel)
theorem w_106_1 : (.selects RX12 yX12_layOut yX12_layOut : Cond) ∈ UW := um (pv_6 _ (List.mem_of_getElem? (i := 1) (by decide +kernel))) (by decide +kernel)
theorem vl_X12_362 : VL 1 RX12 362 mX12_layOut 10 0 := ⟨by decide, ⟨_, rfl⟩, ⟨_, _, rfl⟩, md_X12_layOut, w_7_90, w_7_92, w_106_1⟩
theorem w_7_129 : (.methodLink RX12 365 yX12_lastsOf : Cond) ∈ UW := um (tb_7 _ (List.mem_of_getElem? (i := 129) (by decide +kernel))) (by decide +kernel)
theorem w_7_131 : (.instanceMethod yX12_lastsOf : Cond) ∈ UW := um (tb_7 _ (List.mem_of_getElem? (i := 131) (by decide +kernel))) (by decide +kernel)
theorem w_106_10 : (.selects RX12 yX12_lastsOf yX12_lastsOf : Cond) ∈ UW := um (pv_6 _ (List.mem_of_getElem? (i := 10) (by decide +kernel))) (by decide +kernel)
theorem vl_X12_365 : VL 1 RX12 365 mX12_lastsOf 10 1 := ⟨by decide, ⟨_, rfl⟩, ⟨_, _, rfl⟩, md_X12_lastsOf, w_7_129, w_7_131, w_106_10⟩
theorem w_7_142 : (.methodLink RX12 371 yX12_nextRun : Cond) ∈ UW := um (tb_7 _ (List.mem_of_getElem? (i := 142) (by decide +kernel))) (by decide +kernel)
theorem w_7_144 : (.instanceMethod yX12_nextRun : Cond) ∈ UW := um (tb_7 _ (List.mem_of_getElem? (i := 144) (by decide +kernel))) (by decide +kernel)
theorem w_106_13 : (.selects RX12 yX12_nextRun yX12_nextRun : Cond) ∈ UW := um (pv_6 _ (List.mem_of_getElem? (i := 13) (by decide +kernel))) (by decide +kernel)
theorem vl_X12_371 : VL 1 RX12 371 mX12_nextRun 10 1 := ⟨by decide, ⟨_, rfl⟩, ⟨_, _, rfl⟩, md_X12_nextRun, w_7_142, w_7_144, w_106_13⟩
theorem w_7_146 : (.methodLink RX12 374 yX12_standBehind : Cond) ∈ UW := um (tb_7 _ (List.mem_of_getElem? (i := 146) (by decide +kernel))) (by decide +kernel)
theorem w_7_148 : (.instanceMethod yX12_standBehind : Cond) ∈ UW := um (tb_7 _ (List.mem_of_getElem? (i := 148) (by decide +kernel))) (by decide +kernel)
theorem w_106_14 : (.selects RX12 yX12_standBehind yX12_standBehind : Cond) ∈ UW := um (pv_6 _ (List.mem_of_getElem? (i := 14) (by decide +kernel))) (by decide +kernel)
theorem vl_X12_374 : VL 1 RX12 374 mX12_standBehind 10 2 := ⟨by decide, ⟨_, rfl⟩, ⟨_, _, rfl⟩, md_X12_standBehind, w_7_146, w_7_148, w_106_14⟩
theorem w_7_86 : (.methodLink RX12 377 yX12_isForever : Cond) ∈ UW := um (tb_7 _ (List.mem_of_getElem? (i := 86) (by decide +kernel))) (by decide +kernel)
theorem w_7_88 : (.instanceMethod yX12_isForever : Cond) ∈ UW := um (tb_7 _ (List.mem_of_getElem? (i := 88) (by decide +kernel))) (by decide +kernel)
theorem w_106_0 : (.selects RX12 yX12_isForever yX12_isForever : Cond) ∈ UW := um (pv_6 _ (List.mem_of_getElem? (i := 0) (by decide +kernel))) (by decide +kernel)
theorem vl_X12_377 : VL 1 RX12 377 mX12_isForever 10 0 := ⟨by decide, ⟨_, rfl⟩, ⟨_, _, rfl⟩, md_X12_isForever, w_7_86, w_7_88, w_106_0⟩
theorem w_7_138 : (.methodLink RX12 380 yX12_runAt : Cond) ∈ UW := um (tb_7 _ (List.mem_of_getElem? (i := 138) (by decide +kernel))) (by decide +kernel)
theorem w_7_140 : (.instanceMethod yX12_runAt : Cond) ∈ UW := um (tb_7 _ (List.mem_of_getElem? (i := 140) (by decide +kernel))) (by decide +kernel)
theorem w_106_12 : (.selects RX12 yX12_runAt yX12_runAt : Cond) ∈ UW := um (pv_6 _ (List.mem_of_getElem? (i := 12) (by decide +kernel))) (by decide +kernel)
theorem vl_X12_380 : VL 1 RX12 380 mX12_runAt 10 1 := ⟨by decide, ⟨_, rfl⟩, ⟨_, _, rfl⟩, md_X12_runAt, w_7_138, w_7_140, w_106_12⟩
theorem w_7_150 : (.methodLink RX12 383 yX12_roundBy : Cond) ∈ UW := um (tb_7 _ (List.mem_of_getElem? (i := 150) (by decide +kernel))) (by decide +kernel)
theorem w_7_152 : (.instanceMethod yX12_roundBy : Cond) ∈ UW := um (tb_7 _ (List.mem_of_getElem? (i := 152) (by decide +kernel))) (by decide +kernel)
theorem w_106_15 : (.selects RX12 yX12_roundBy yX12_roundBy : Cond) ∈ UW := um (pv_6 _ (List.mem_of_getElem? (i := 15) (by decide +kernel))) (by decide +kernel)
theorem vl_X12_383 : VL 1 RX12 383 mX12_roundBy 10 1 := ⟨by decide, ⟨_, rfl⟩, ⟨_, _, rfl⟩, md_X12_roundBy, w_7_150, w_7_152, w_106_15⟩
theorem w_7_154 : (.methodLink RX12 386 yX12_manyRuns : Cond) ∈ UW := um (tb_7 _ (List.mem_of_getElem? (i := 154) (by decide +kernel))) (by decide +kernel)
theorem w_7_156 : (.instanceMethod yX12_manyRuns : Cond) ∈ UW := um (tb_7 _ (List.mem_of_getElem? (i := 156) (by decide +kernel))) (by decide +kernel)
theorem w_107_0 : (.selects RX12 yX12_manyRuns yX12_manyRuns : Cond) ∈ UW := um (pv_7 _ (List.mem_of_getElem? (i := 0) (by decide +kernel))) (by decide +kernel)
theorem vl_X12_386 : VL 1 RX12 386 mX12_manyRuns 10 0 := ⟨by decide, ⟨_, rfl⟩, ⟨_, _, rfl⟩, md_X12_manyRuns, w_7_154, w_7_156, w_107_0⟩
theorem w_7_182 : (.methodLink RX12 389 yX12_ones : Cond) ∈ UW := um (tb_7 _ (List.mem_of_getElem? (i := 182) (by decide +kernel))) (by decide +kernel)
theorem w_7_183 : (.static yX12_ones : Cond) ∈ UW := um (tb_7 _ (List.mem_of_getElem? (i := 183) (by decide +kernel))) (by decide +kernel)
theorem sl_X12_389 : SL RX12 389 mX12_ones 1 := ⟨md_X12_ones, w_7_182, w_7_183⟩
theorem w_7_162 : (.methodLink RX12 392 yX12_needOf : Cond) ∈ UW := um (tb_7 _ (List.mem_of_getElem? (i := 162) (by decide +kernel))) (by decide +kernel)
theorem w_7_164 : (.instanceMethod yX12_needOf : Cond) ∈ UW := um (tb_7 _ (List.mem_of_getElem? (i := 164) (by decide +kernel))) (by decide +kernel)
theorem w_107_1 : (.selects RX12 yX12_needOf yX12_needOf : Cond) ∈ UW := um (pv_7 _ (List.mem_of_getElem? (i := 1) (by decide +kernel))) (by decide +kernel)
theorem vl_X12_392 : VL 1 RX12 392 mX12_needOf 10 1 := ⟨by decide, ⟨_, rfl⟩, ⟨_, _, rfl⟩, md_X12_needOf, w_7_162, w_7_164, w_107_1⟩
theorem w_7_166 : (.methodLink RX12 395 yX12_movesOf : Cond) ∈ UW := um (tb_7 _ (List.mem_of_getElem? (i := 166) (by decide +kernel))) (by decide +kernel)
theorem w_7_168 : (.instanceMethod yX12_movesOf : Cond) ∈ UW := um (tb_7 _ (List.mem_of_getElem? (i := 168) (by decide +kernel))) (by decide +kernel)
theorem w_107_2 : (.selects RX12 yX12_movesOf yX12_movesOf : Cond) ∈ UW := um (pv_7 _ (List.mem_of_getElem? (i := 2) (by decide +kernel))) (by decide +kernel)
theorem vl_X12_395 : VL 1 RX12 395 mX12_movesOf 10 1 := ⟨by decide, ⟨_, rfl⟩, ⟨_, _, rfl⟩, md_X12_movesOf, w_7_166, w_7_168, w_107_2⟩
theorem w_7_170 : (.methodLink RX12 398 yX12_speeds : Cond) ∈ UW := um (tb_7 _ (List.mem_of_getElem? (i := 170) (by decide +kernel))) (by decide +kernel)
theorem w_7_172 : (.instanceMethod yX12_speeds : Cond) ∈ UW := um (tb_7 _ (List.mem_of_getElem? (i := 172) (by decide +kernel))) (by decide +kernel)
theorem w_107_3 : (.selects RX12 yX12_speeds yX12_speeds : Cond) ∈ UW := um (pv_7 _ (List.mem_of_getElem? (i := 3) (by decide +kernel))) (by decide +kernel)
theorem vl_X12_398 : VL 1 RX12 398 mX12_speeds 10 0 := ⟨by decide, ⟨_, rfl⟩, ⟨_, _, rfl⟩, md_X12_speeds, w_7_170, w_7_172, w_107_3⟩
theorem w_7_174 : (.methodLink RX12 401 yX12_starts : Cond) ∈ UW := um (tb_7 _ (List.mem_of_getElem? (i := 174) (by decide +kernel))) (by decide +kernel)
theorem w_7_176 : (.instanceMethod yX12_starts : Cond) ∈ UW := um (tb_7 _ (List.mem_of_getElem? (i := 176) (by decide +kernel))) (by decide +kernel)
theorem w_107_4 : (.selects RX12 yX12_starts yX12_starts : Cond) ∈ UW := um (pv_7 _ (List.mem_of_getElem? (i := 4) (by decide +kernel))) (by decide +kernel)
theorem vl_X12_401 : VL 1 RX12 401 mX12_starts 10 0 := ⟨by decide, ⟨_, rfl⟩, ⟨_, _, rfl⟩, md_X12_starts, w_7_174, w_7_176, w_107_4⟩
theorem w_7_178 : (.methodLink RX12 404 yX12_leave : Cond) ∈ UW := um (tb_7 _ (List.mem_of_getElem? (i := 178) (by decide +kernel))) (by decide +kernel)
theorem w_7_180 : (.instanceMethod yX12_leave : Cond) ∈ UW := um (tb_7 _ (List.mem_of_getElem? (i := 180) (by decide +kernel))) (by decide +kernel)
theorem w_107_5 : (.selects RX12 yX12_leave yX12_leave : Cond) ∈ UW := um (pv_7 _ (List.mem_of_getElem? (i := 5) (by decide +kernel))) (by decide +kernel)
theorem vl_X12_404 : VL 1 RX12 404 mX12_leave 10 0 := ⟨by decide, ⟨_, rfl⟩, ⟨_, _, rfl⟩, md_X12_leave, w_7_178, w_7_180, w_107_5⟩
theorem w_7_185 : (.methodLink RX12 407 yX12_spare : Cond) ∈ UW := um (tb_7 _ (List.mem_of_getElem? (i := 185) (by decide +kernel))) (by decide +kernel)
theorem w_7_187 : (.instanceMethod yX12_spare : Cond) ∈ UW := um (tb_7 _ (List.mem_of_getElem? (i := 187) (by decide +kernel))) (by decide +kernel)
theorem w_107_6 : (.selects RX12 yX12_spare yX12_spare : Cond) ∈ UW := um (pv_7 _ (List.mem_of_getElem? (i := 6) (by decide +kernel))) (by decide +kernel)
theorem vl_X12_407 : VL 1 RX12 407 mX12_spare 10 0 := ⟨by decide, ⟨_, rfl⟩, ⟨_, _, rfl⟩, md_X12_spare, w_7_185, w_7_187, w_107_6⟩
theorem w_7_189 : (.methodLink RX12 410 yX12_reachedStands : Cond) ∈ UW := um (tb_7 _ (List.mem_of_getElem? (i := 189) (by decide +kernel))) (by decide +kernel)
theorem w_7_191 : (.instanceMethod yX12_reachedStands : Cond) ∈ UW := um (tb_7 _ (List.mem_of_getElem? (i := 191) (by decide +kernel))) (by decide +kernel)
theorem w_107_7 : (.selects RX12 yX12_reachedStands yX12_reachedStands : Cond) ∈ UW := um (pv_7 _ (List.mem_of_getElem? (i := 7) (by decide +kernel))) (by decide +kernel)
theorem vl_X12_410 : VL 1 RX12 410 mX12_reachedStands 10 1 := ⟨by decide, ⟨_, rfl⟩, ⟨_, _, rfl⟩, md_X12_reachedStands, w_7_189, w_7_191, w_107_7⟩
theorem w_7_201 : (.methodLink RX12 414 yX12_sixes : Cond) ∈ UW := um (tb_7 _ (List.mem_of_getElem? (i := 201) (by decide +kernel))) (by decide +kernel)
theorem w_7_202 : (.static yX12_sixes : Cond) ∈ UW := um (tb_7 _ (List.mem_of_getElem? (i := 202) (by decide +kernel))) (by decide +kernel)
theorem sl_X12_414 : SL RX12 414 mX12_sixes 1 := ⟨md_X12_sixes, w_7_201, w_7_202⟩
theorem w_7_208 : (.methodLink RX12 417 yX12_digit : Cond) ∈ UW := um (tb_7 _ (List.mem_of_getElem? (i := 208) (by decide +kernel))) (by decide +kernel)
theorem w_7_210 : (.instanceMethod yX12_digit : Cond) ∈ UW := um (tb_7 _ (List.mem_of_getElem? (i := 210) (by decide +kernel))) (by decide +kernel)
theorem w_107_9 : (.selects RX12 yX12_digit yX12_digit : Cond) ∈ UW := um (pv_7 _ (List.mem_of_getElem? (i := 9) (by decide +kernel))) (by decide +kernel)
theorem vl_X12_417 : VL 1 RX12 417 mX12_digit 10 3 := ⟨by decide, ⟨_, rfl⟩, ⟨_, _, rfl⟩, md_X12_digit, w_7_208, w_7_210, w_107_9⟩
theorem w_7_204 : (.methodLink RX12 421 yX12_saved : Cond) ∈ UW := um (tb_7 _ (List.mem_of_getElem? (i := 204) (by decide +kernel))) (by decide +kernel)
theorem w_7_206 : (.instanceMethod yX12_saved : Cond) ∈ UW := um (tb_7 _ (List.mem_of_getElem? (i := 206) (by decide +kernel))) (by decide +kernel)
theorem w_107_8 : (.selects RX12 yX12_saved yX12_saved : Cond) ∈ UW := um (pv_7 _ (List.mem_of_getElem? (i := 8) (by decide +kernel))) (by decide +kernel)
theorem vl_X12_421 : VL 1 RX12 421 mX12_saved 10 2 := ⟨by decide, ⟨_, rfl⟩, ⟨_, _, rfl⟩, md_X12_saved, w_7_204, w_7_206, w_107_8⟩
theorem w_7_216 : (.methodLink RX12 427 yX12_endOf : Cond) ∈ UW := um (tb_7 _ (List.mem_of_getElem? (i := 216) (by decide +kernel))) (by decide +kernel)
theorem w_7_218 : (.instanceMethod yX12_endOf : Cond) ∈ UW := um (tb_7 _ (List.mem_of_getElem? (i := 218) (by decide +kernel))) (by decide +kernel)
theorem w_107_10 : (.selects RX12 yX12_endOf yX12_endOf : Cond) ∈ UW := um (pv_7 _ (List.mem_of_getElem? (i := 10) (by decide +kernel))) (by decide +kernel)
theorem vl_X12_427 : VL 1 RX12 427 mX12_endOf 10 2 := ⟨by decide, ⟨_, rfl⟩, ⟨_, _, rfl⟩, md_X12_endOf, w_7_216, w_7_218, w_107_10⟩
theorem w_7_220 : (.methodLink RX12 430 yX12_fold : Cond) ∈ UW := um (tb_7 _ (List.mem_of_getElem? (i := 220) (by decide +kernel))) (by decide +kernel)
theorem w_7_222 : (.instanceMethod yX12_fold : Cond) ∈ UW := um (tb_7 _ (List.mem_of_getElem? (i := 222) (by decide +kernel))) (by decide +kernel)
theorem w_107_11 : (.selects RX12 yX12_fold yX12_fold : Cond) ∈ UW := um (pv_7 _ (List.mem_of_getElem? (i := 11) (by decide +kernel))) (by decide +kernel)
theorem vl_X12_430 : VL 1 RX12 430 mX12_fold 10 2 := ⟨by decide, ⟨_, rfl⟩, ⟨_, _, rfl⟩, md_X12_fold, w_7_220, w_7_222, w_107_11⟩
theorem w_7_234 : (.methodLink RX12 434 yX12_common : Cond) ∈ UW := um (tb_7 _ (List.mem_of_getElem? (i := 234) (by decide +kernel))) (by decide +kernel)
theorem w_7_235 : (.static yX12_common : Cond) ∈ UW := um (tb_7 _ (List.mem_of_getElem? (i := 235) (by decide +kernel))) (by decide +kernel)
theorem sl_X12_434 : SL RX12 434 mX12_common 2 := ⟨md_X12_common, w_7_234, w_7_235⟩
theorem w_7_228 : (.methodLink RX12 437 yX12_times : Cond) ∈ UW := um (tb_7 _ (List.mem_of_getElem? (i := 228) (by decide +kernel))) (by decide +kernel)
theorem w_7_229 : (.static yX12_times : Cond) ∈ UW := um (tb_7 _ (List.mem_of_getElem? (i := 229) (by decide +kernel))) (by decide +kernel)
theorem sl_X12_437 : SL RX12 437 mX12_times 2 := ⟨md_X12_times, w_7_228, w_7_229⟩
theorem w_7_231 : (.methodLink RX12 440 yX12_part : Cond) ∈ UW := um (tb_7 _ (List.mem_of_getElem? (i := 231) (by decide +kernel))) (by decide +kernel)
theorem w_7_232 : (.static yX12_part : Cond) ∈ UW := um (tb_7 _ (List.mem_of_getElem? (i := 232) (by decide +kernel))) (by decide +kernel)
theorem sl_X12_440 : SL RX12 440 mX12_part 3 := ⟨md_X12_part, w_7_231, w_7_232⟩
theorem w_8_1 : (.methodLink RX12 447 yX12_hasLog : Cond) ∈ UW := um (tb_8 _ (List.mem_of_getElem? (i := 1) (by decide +kernel))) (by decide +kernel)
theorem w_8_3 : (.instanceMethod yX12_hasLog : Cond) ∈ UW := um (tb_8 _ (List.mem_of_getElem? (i := 3) (by decide +kernel))) (by decide +kernel)
theorem w_107_12 : (.selects RX12 yX12_hasLog yX12_hasLog : Cond) ∈ UW := um (pv_7 _ (List.mem_of_getElem? (i := 12) (by decide +kernel))) (by decide +kernel)
theorem vl_X12_447 : VL 1 RX12 447 mX12_hasLog 10 1 := ⟨by decide, ⟨_, rfl⟩, ⟨_, _, rfl⟩, md_X12_hasLog, w_8_1, w_8_3, w_107_12⟩
theorem w_8_5 : (.methodLink RX12 450 yX12_runs : Cond) ∈ UW := um (tb_8 _ (List.mem_of_getElem? (i := 5) (by decide +kernel))) (by decide +kernel)
theorem w_8_7 : (.instanceMethod yX12_runs : Cond) ∈ UW := um (tb_8 _ (List.mem_of_getElem? (i := 7) (by decide +kernel))) (by decide +kernel)
theorem w_107_13 : (.selects RX12 yX12_runs yX12_runs : Cond) ∈ UW := um (pv_7 _ (List.mem_of_getElem? (i := 13) (by decide +kernel))) (by decide +kernel)
theorem vl_X12_450 : VL 1 RX12 450 mX12_runs 10 0 := ⟨by decide, ⟨_, rfl⟩, ⟨_, _, rfl⟩, md_X12_runs, w_8_5, w_8_7, w_107_13⟩
theorem w_8_9 : (.methodLink RX12 453 yX12_facts : Cond) ∈ UW := um (tb_8 _ (List.mem_of_getElem? (i := 9) (by decide +kernel))) (by decide +kernel)
theorem w_8_11 : (.instanceMethod yX12_facts : Cond) ∈ UW := um (tb_8 _ (List.mem_of_getElem? (i := 11) (by decide +kernel))) (by decide +kernel)
theorem w_107_14 : (.selects RX12 yX12_facts yX12_facts : Cond) ∈ UW := um (pv_7 _ (List.mem_of_getElem? (i := 14) (by decide +kernel))) (by decide +kernel)
theorem vl_X12_453 : VL 1 RX12 453 mX12_facts 10 0 := ⟨by decide, ⟨_, rfl⟩, ⟨_, _, rfl⟩, md_X12_facts, w_8_9, w_8_11, w_107_14⟩
theorem w_8_13 : (.methodLink RX12 456 yX12_factOf : Cond) ∈ UW := um (tb_8 _ (List.mem_of_getElem? (i := 13) (by decide +kernel))) (by decide +kernel)
theorem w_8_15 : (.instanceMethod yX12_factOf : Cond) ∈ UW := um (tb_8 _ (List.mem_of_getElem? (i := 15) (by decide +kernel))) (by decide +kernel)
theorem w_107_15 : (.selects RX12 yX12_factOf yX12_factOf : Cond) ∈ UW := um (pv_7 _ (List.mem_of_getElem? (i := 15) (by decide +kernel))) (by decide +kernel)
theorem vl_X12_456 : VL 1 RX12 456 mX12_factOf 10 2 := ⟨by decide, ⟨_, rfl⟩, ⟨_, _, rfl⟩, md_X12_factOf, w_8_13, w_8_15, w_107_15⟩
theorem w_8_25 : (.methodLink RX12 459 yX12_fives : Cond) ∈ UW := um (tb_8 _ (List.mem_of_getElem? (i := 25) (by decide +kernel))) (by decide +kernel)
theorem w_8_27 : (.instanceMethod yX12_fives : Cond) ∈ UW := um (tb_8 _ (List.mem_of_getElem? (i := 27) (by decide +kernel))) (by decide +kernel)
theorem w_108_1 : (.selects RX12 yX12_fives yX12_fives : Cond) ∈ UW := um (pv_8 _ (List.mem_of_getElem? (i := 1) (by decide +kernel))) (by decide +kernel)
theorem vl_X12_459 : VL 1 RX12 459 mX12_fives 10 1 := ⟨by decide, ⟨_, rfl⟩, ⟨_, _, rfl⟩, md_X12_fives, w_8_25, w_8_27, w_108_1⟩
theorem w_8_41 : (.methodLink RX12 465 yX12_rowCode : Cond) ∈ UW := um (tb_8 _ (List.mem_of_getElem? (i := 41) (by decide +kernel))) (by decide +kernel)
theorem w_8_43 : (.instanceMethod yX12_rowCode : Cond) ∈ UW := um (tb_8 _ (List.mem_of_getElem? (i := 43) (by decide +kernel))) (by decide +kernel)
theorem w_108_5 : (.selects RX12 yX12_rowCode yX12_rowCode : Cond) ∈ UW := um (pv_8 _ (List.mem_of_getElem? (i := 5) (by decide +kernel))) (by decide +kernel)
theorem vl_X12_465 : VL 1 RX12 465 mX12_rowCode 10 1 := ⟨by decide, ⟨_, rfl⟩, ⟨_, _, rfl⟩, md_X12_rowCode, w_8_41, w_8_43, w_108_5⟩
theorem w_8_29 : (.methodLink RX12 480 yX12_runsAll : Cond) ∈ UW := um (tb_8 _ (List.mem_of_getElem? (i := 29) (by decide +kernel))) (by decide +kernel)
theorem w_8_31 : (.instanceMethod yX12_runsAll : Cond) ∈ UW := um (tb_8 _ (List.mem_of_getElem? (i := 31) (by decide +kernel))) (by decide +kernel)
theorem w_108_2 : (.selects RX12 yX12_runsAll yX12_runsAll : Cond) ∈ UW := um (pv_8 _ (List.mem_of_getElem? (i := 2) (by decide +kernel))) (by decide +kernel)
theorem vl_X12_480 : VL 1 RX12 480 mX12_runsAll 10 1 := ⟨by decide, ⟨_, rfl⟩, ⟨_, _, rfl⟩, md_X12_runsAll, w_8_29, w_8_31, w_108_2⟩
theorem w_8_33 : (.methodLink RX12 483 yX12_isSo : Cond) ∈ UW := um (tb_8 _ (List.mem_of_getElem? (i := 33) (by decide +kernel))) (by decide +kernel)
theorem w_8_35 : (.instanceMethod yX12_isSo : Cond) ∈ UW := um (tb_8 _ (List.mem_of_getElem? (i := 35) (by decide +kernel))) (by decide +kernel)
theorem w_108_3 : (.selects RX12 yX12_isSo yX12_isSo : Cond) ∈ UW := um (pv_8 _ (List.mem_of_getElem? (i := 3) (by decide +kernel))) (by decide +kernel)
theorem vl_X12_483 : VL 1 RX12 483 mX12_isSo 10 0 := ⟨by decide, ⟨_, rfl⟩, ⟨_, _, rfl⟩, md_X12_isSo, w_8_33, w_8_35, w_108_3⟩
theorem w_8_37 : (.methodLink RX12 486 yX12_noteFit : Cond) ∈ UW := um (tb_8 _ (List.mem_of_getElem? (i := 37) (by decide +kernel))) (by decide +kernel)
theorem w_8_39 : (.instanceMethod yX12_noteFit : Cond) ∈ UW := um (tb_8 _ (List.mem_of_getElem? (i := 39) (by decide +kernel))) (by decide +kernel)
theorem w_108_4 : (.selects RX12 yX12_noteFit yX12_noteFit : Cond) ∈ UW := um (pv_8 _ (List.mem_of_getElem? (i := 4) (by decide +kernel))) (by decide +kernel)
theorem vl_X12_486 : VL 1 RX12 486 mX12_noteFit 10 4 := ⟨by decide, ⟨_, rfl⟩, ⟨_, _, rfl⟩, md_X12_noteFit, w_8_37, w_8_39, w_108_4⟩
theorem w_8_21 : (.methodLink RX12 490 yX12_findRows : Cond) ∈ UW := um (tb_8 _ (List.mem_of_getElem? (i := 21) (by decide +kernel))) (by decide +kernel)
theorem w_8_23 : (.instanceMethod yX12_findRows : Cond) ∈ UW := um (tb_8 _ (List.mem_of_getElem? (i := 23) (by decide +kernel))) (by decide +kernel)
theorem w_108_0 : (.selects RX12 yX12_findRows yX12_findRows : Cond) ∈ UW := um (pv_8 _ (List.mem_of_getElem? (i := 0) (by decide +kernel))) (by decide +kernel)
theorem vl_X12_490 : VL 1 RX12 490 mX12_findRows 10 1 := ⟨by decide, ⟨_, rfl⟩, ⟨_, _, rfl⟩, md_X12_findRows, w_8_21, w_8_23, w_108_0⟩
theorem w_8_45 : (.methodLink RX12 493 yX12_sure : Cond) ∈ UW := um (tb_8 _ (List.mem_of_getElem? (i := 45) (by decide +kernel))) (by decide +kernel)
theorem w_8_47 : (.instanceMethod yX12_sure : Cond) ∈ UW := um (tb_8 _ (List.mem_of_getElem? (i := 47) (by decide +kernel))) (by decide +kernel)
theorem w_108_6 : (.selects RX12 yX12_sure yX12_sure : Cond) ∈ UW := um (pv_8 _ (List.mem_of_getElem? (i := 6) (by decide +kernel))) (by decide +kernel)
theorem vl_X12_493 : VL 1 RX12 493 mX12_sure 10 1 := ⟨by decide, ⟨_, rfl⟩, ⟨_, _, rfl⟩, md_X12_sure, w_8_45, w_8_47, w_108_6⟩
theorem w_8_49 : (.methodLink RX12 496 yX12_askWhat : Cond) ∈ UW := um (tb_8 _ (List.mem_of_getElem? (i := 49) (by decide +kernel))) (by decide +kernel)
theorem w_8_51 : (.instanceMethod yX12_askWhat : Cond) ∈ UW := um (tb_8 _ (List.mem_of_getElem? (i := 51) (by decide +kernel))) (by decide +kernel)
theorem w_108_7 : (.selects RX12 yX12_askWhat yX12_askWhat : Cond) ∈ UW := um (pv_8 _ (List.mem_of_getElem? (i := 7) (by decide +kernel))) (by decide +kernel)
theorem vl_X12_496 : VL 1 RX12 496 mX12_askWhat 10 0 := ⟨by decide, ⟨_, rfl⟩, ⟨_, _, rfl⟩, md_X12_askWhat, w_8_49, w_8_51, w_108_7⟩
theorem w_8_65 : (.constant RX12 502 1103515245 : Cond) ∈ UW := um (tb_8 _ (List.mem_of_getElem? (i := 65) (by decide +kernel))) (by decide +kernel)
theorem w_8_61 : (.methodLink RX12 503 yX12_draw : Cond) ∈ UW := um (tb_8 _ (List.mem_of_getElem? (i := 61) (by decide +kernel))) (by decide +kernel)
theorem w_8_63 : (.instanceMethod yX12_draw : Cond) ∈ UW := um (tb_8 _ (List.mem_of_getElem? (i := 63) (by decide +kernel))) (by decide +kernel)
theorem w_108_9 : (.selects RX12 yX12_draw yX12_draw : Cond) ∈ UW := um (pv_8 _ (List.mem_of_getElem? (i := 9) (by decide +kernel))) (by decide +kernel)
theorem vl_X12_503 : VL 1 RX12 503 mX12_draw 10 1 := ⟨by decide, ⟨_, rfl⟩, ⟨_, _, rfl⟩, md_X12_draw, w_8_61, w_8_63, w_108_9⟩
theorem w_8_57 : (.methodLink RX12 506 yX12_drawDeed : Cond) ∈ UW := um (tb_8 _ (List.mem_of_getElem? (i := 57) (by decide +kernel))) (by decide +kernel)
theorem w_8_59 : (.instanceMethod yX12_drawDeed : Cond) ∈ UW := um (tb_8 _ (List.mem_of_getElem? (i := 59) (by decide +kernel))) (by decide +kernel)
theorem w_108_8 : (.selects RX12 yX12_drawDeed yX12_drawDeed : Cond) ∈ UW := um (pv_8 _ (List.mem_of_getElem? (i := 8) (by decide +kernel))) (by decide +kernel)
theorem vl_X12_506 : VL 1 RX12 506 mX12_drawDeed 10 0 := ⟨by decide, ⟨_, rfl⟩, ⟨_, _, rfl⟩, md_X12_drawDeed, w_8_57, w_8_59, w_108_8⟩
theorem w_8_106 : (.methodLink RX12 509 yX12_waysFrom : Cond) ∈ UW := um (tb_8 _ (List.mem_of_getElem? (i := 106) (by decide +kernel))) (by decide +kernel)
theorem w_8_108 : (.instanceMethod yX12_waysFrom : Cond) ∈ UW := um (tb_8 _ (List.mem_of_getElem? (i := 108) (by decide +kernel))) (by decide +kernel)
theorem w_109_3 : (.selects RX12 yX12_waysFrom yX12_waysFrom : Cond) ∈ UW := um (pv_9 _ (List.mem_of_getElem? (i := 3) (by decide +kernel))) (by decide +kernel)
theorem vl_X12_509 : VL 1 RX12 509 mX12_waysFrom 10 1 := ⟨by decide, ⟨_, rfl⟩, ⟨_, _, rfl⟩, md_X12_waysFrom, w_8_106, w_8_108, w_109_3⟩
theorem w_8_70 : (.methodLink RX12 512 yX12_fallingOf : Cond) ∈ UW := um (tb_8 _ (List.mem_of_getElem? (i := 70) (by decide +kernel))) (by decide +kernel)
theorem w_8_72 : (.instanceMethod yX12_fallingOf : Cond) ∈ UW := um (tb_8 _ (List.mem_of_getElem? (i := 72) (by decide +kernel))) (by decide +kernel)
theorem w_108_10 : (.selects RX12 yX12_fallingOf yX12_fallingOf : Cond) ∈ UW := um (pv_8 _ (List.mem_of_getElem? (i := 10) (by decide +kernel))) (by decide +kernel)
theorem vl_X12_512 : VL 1 RX12 512 mX12_fallingOf 10 1 := ⟨by decide, ⟨_, rfl⟩, ⟨_, _, rfl⟩, md_X12_fallingOf, w_8_70, w_8_72, w_108_10⟩
theorem w_8_78 : (.methodLink RX12 515 yX12_span : Cond) ∈ UW := um (tb_8 _ (List.mem_of_getElem? (i := 78) (by decide +kernel))) (by decide +kernel)
theorem w_8_80 : (.instanceMethod yX12_span : Cond) ∈ UW := um (tb_8 _ (List.mem_of_getElem? (i := 80) (by decide +kernel))) (by decide +kernel)
theorem w_108_12 : (.selects RX12 yX12_span yX12_span : Cond) ∈ UW := um (pv_8 _ (List.mem_of_getElem? (i := 12) (by decide +kernel))) (by decide +kernel)
theorem vl_X12_515 : VL 1 RX12 515 mX12_span 10 0 := ⟨by decide, ⟨_, rfl⟩, ⟨_, _, rfl⟩, md_X12_span, w_8_78, w_8_80, w_108_12⟩
theorem w_8_82 : (.methodLink RX12 518 yX12_couples : Cond) ∈ UW := um (tb_8 _ (List.mem_of_getElem? (i := 82) (by decide +kernel))) (by decide +kernel)
theorem w_8_84 : (.instanceMethod yX12_couples : Cond) ∈ UW := um (tb_8 _ (List.mem_of_getElem? (i := 84) (by decide +kernel))) (by decide +kernel)
theorem w_108_13 : (.selects RX12 yX12_couples yX12_couples : Cond) ∈ UW := um (pv_8 _ (List.mem_of_getElem? (i := 13) (by decide +kernel))) (by decide +kernel)
theorem vl_X12_518 : VL 1 RX12 518 mX12_couples 10 1 := ⟨by decide, ⟨_, rfl⟩, ⟨_, _, rfl⟩, md_X12_couples, w_8_82, w_8_84, w_108_13⟩
theorem w_8_86 : (.methodLink RX12 521 yX12_aloneOf : Cond) ∈ UW := um (tb_8 _ (List.mem_of_getElem? (i := 86) (by decide +kernel))) (by decide +kernel)
theorem w_8_88 : (.instanceMethod yX12_aloneOf : Cond) ∈ UW := um (tb_8 _ (List.mem_of_getElem? (i := 88) (by decide +kernel))) (by decide +kernel)
theorem w_108_14 : (.selects RX12 yX12_aloneOf yX12_aloneOf : Cond) ∈ UW := um (pv_8 _ (List.mem_of_getElem? (i := 14) (by decide +kernel))) (by decide +kernel)
theorem vl_X12_521 : VL 1 RX12 521 mX12_aloneOf 10 0 := ⟨by decide, ⟨_, rfl⟩, ⟨_, _, rfl⟩, md_X12_aloneOf, w_8_86, w_8_88, w_108_14⟩
theorem w_8_90 : (.methodLink RX12 524 yX12_late : Cond) ∈ UW := um (tb_8 _ (List.mem_of_getElem? (i := 90) (by decide +kernel))) (by decide +kernel)
theorem w_8_92 : (.instanceMethod yX12_late : Cond) ∈ UW := um (tb_8 _ (List.mem_of_getElem? (i := 92) (by decide +kernel))) (by decide +kernel)
theorem w_108_15 : (.selects RX12 yX12_late yX12_late : Cond) ∈ UW := um (pv_8 _ (List.mem_of_getElem? (i := 15) (by decide +kernel))) (by decide +kernel)
theorem vl_X12_524 : VL 1 RX12 524 mX12_late 10 0 := ⟨by decide, ⟨_, rfl⟩, ⟨_, _, rfl⟩, md_X12_late, w_8_90, w_8_92, w_108_15⟩
theorem w_8_74 : (.methodLink RX12 527 yX12_ofLoad : Cond) ∈ UW := um (tb_8 _ (List.mem_of_getElem? (i := 74) (by decide +kernel))) (by decide +kernel)
theorem w_8_76 : (.instanceMethod yX12_ofLoad : Cond) ∈ UW := um (tb_8 _ (List.mem_of_getElem? (i := 76) (by decide +kernel))) (by decide +kernel)
theorem w_108_11 : (.selects RX12 yX12_ofLoad yX12_ofLoad : Cond) ∈ UW := um (pv_8 _ (List.mem_of_getElem? (i := 11) (by decide +kernel))) (by decide +kernel)
theorem vl_X12_527 : VL 1 RX12 527 mX12_ofLoad 10 1 := ⟨by decide, ⟨_, rfl⟩, ⟨_, _, rfl⟩, md_X12_ofLoad, w_8_74, w_8_76, w_108_11⟩
theorem w_8_94 : (.methodLink RX12 530 yX12_loadOf : Cond) ∈ UW := um (tb_8 _ (List.mem_of_getElem? (i := 94) (by decide +kernel))) (by decide +kernel)
theorem w_8_96 : (.instanceMethod yX12_loadOf : Cond) ∈ UW := um (tb_8 _ (List.mem_of_getElem? (i := 96) (by decide +kernel))) (by decide +kernel)
theorem w_109_0 : (.selects RX12 yX12_loadOf yX12_loadOf : Cond) ∈ UW := um (pv_9 _ (List.mem_of_getElem? (i := 0) (by decide +kernel))) (by decide +kernel)
theorem vl_X12_530 : VL 1 RX12 530 mX12_loadOf 10 0 := ⟨by decide, ⟨_, rfl⟩, ⟨_, _, rfl⟩, md_X12_loadOf, w_8_94, w_8_96, w_109_0⟩
theorem w_8_98 : (.methodLink RX12 533 yX12_inRow : Cond) ∈ UW := um (tb_8 _ (List.mem_of_getElem? (i := 98) (by decide +kernel))) (by decide +kernel)
theorem w_8_100 : (.instanceMethod yX12_inRow : Cond) ∈ UW := um (tb_8 _ (List.mem_of_getElem? (i := 100) (by decide +kernel))) (by decide +kernel)
theorem w_109_1 : (.selects RX12 yX12_inRow yX12_inRow : Cond) ∈ UW := um (pv_9 _ (List.mem_of_getElem? (i := 1) (by decide +kernel))) (by decide +kernel)
theorem vl_X12_533 : VL 1 RX12 533 mX12_inRow 10 0 := ⟨by decide, ⟨_, rfl⟩, ⟨_, _, rfl⟩, md_X12_inRow, w_8_98, w_8_100, w_109_1⟩
theorem w_8_102 : (.methodLink RX12 536 yX12_centre : Cond) ∈ UW := um (tb_8 _ (List.mem_of_getElem? (i := 102) (by decide +kernel))) (by decide +kernel)
theorem w_8_104 : (.instanceMethod yX12_centre : Cond) ∈ UW := um (tb_8 _ (List.mem_of_getElem? (i := 104) (by decide +kernel))) (by decide +kernel)
theorem w_109_2 : (.selects RX12 yX12_centre yX12_centre : Cond) ∈ UW := um (pv_9 _ (List.mem_of_getElem? (i := 2) (by decide +kernel))) (by decide +kernel)
theorem vl_X12_536 : VL 1 RX12 536 mX12_centre 10 0 := ⟨by decide, ⟨_, rfl⟩, ⟨_, _, rfl⟩, md_X12_centre, w_8_102, w_8_104, w_109_2⟩
theorem w_8_110 : (.methodLink RX12 539 yX12_swapTwo : Cond) ∈ UW := um (tb_8 _ (List.mem_of_getElem? (i := 110) (by decide +kernel))) (by decide +kernel)
theorem w_8_112 : (.instanceMethod yX12_swapTwo : Cond) ∈ UW := um (tb_8 _ (List.mem_of_getElem? (i := 112) (by decide +kernel))) (by decide +kernel)
theorem w_109_4 : (.selects RX12 yX12_swapTwo yX12_swapTwo : Cond) ∈ UW := um (pv_9 _ (List.mem_of_getElem? (i := 4) (by decide +kernel))) (by decide +kernel)
theorem vl_X12_539 : VL 1 RX12 539 mX12_swapTwo 10 0 := ⟨by decide, ⟨_, rfl⟩, ⟨_, _, rfl⟩, md_X12_swapTwo, w_8_110, w_8_112, w_109_4⟩
theorem w_8_130 : (.methodLink RX12 542 yX12_copyAll : Cond) ∈ UW := um (tb_8 _ (List.mem_of_getElem? (i := 130) (by decide +kernel))) (by decide +kernel)
theorem w_8_132 : (.instanceMethod yX12_copyAll : Cond) ∈ UW := um (tb_8 _ (List.mem_of_getElem? (i := 132) (by decide +kernel))) (by decide +kernel)
theorem w_109_5 : (.selects RX12 yX12_copyAll yX12_copyAll : Cond) ∈ UW := um (pv_9 _ (List.mem_of_getElem? (i := 5) (by decide +kernel))) (by decide +kernel)
theorem vl_X12_542 : VL 1 RX12 542 mX12_copyAll 10 2 := ⟨by decide, ⟨_, rfl⟩, ⟨_, _, rfl⟩, md_X12_copyAll, w_8_130, w_8_132, w_109_5⟩
theorem w_4_139 : (.constant RJ6 265 1431655765 : Cond) ∈ UW := um (tb_4 _ (List.mem_of_getElem? (i := 139) (by decide +kernel))) (by decide +kernel)
theorem w_4_140 : (.constant RJ6 266 858993459 : Cond) ∈ UW := um (tb_4 _ (List.mem_of_getElem? (i := 140) (by decide +kernel))) (by decide +kernel)
theorem w_4_141 : (.constant RJ6 267 252645135 : Cond) ∈ UW := um (tb_4 _ (List.mem_of_getElem? (i := 141) (by decide +kernel))) (by decide +kernel)
theorem w_3_44 : (.methodLink RJ0 335 yJ0_coder_7d493 : Cond) ∈ UW := um (tb_3 _ (List.mem_of_getElem? (i := 44) (by decide +kernel))) (by decide +kernel)
theorem w_3_45 : (.instanceMethod yJ0_coder_7d493 : Cond) ∈ UW := um (tb_3 _ (List.mem_of_getElem? (i := 45) (by decide +kernel))) (by decide +kernel)
theorem w_3_46 : (.selects RJ0 yJ0_coder_7d493 yJ0_coder_7d493 : Cond) ∈ UW := um (tb_3 _ (List.mem_of_getElem? (i := 46) (by decide +kernel))) (by decide +kernel)
theorem tl_J0_335 : TL RJ0 335 mJ0_coder_7d493 0 := ⟨rfl, md_J0_coder_7d493, w_3_44, w_3_45, w_3_46⟩
theorem w_3_54 : (.methodLink RJ0 492 yJ0_isLatin1_aae02 : Cond) ∈ UW := um (tb_3 _ (List.mem_of_getElem? (i := 54) (by decide +kernel))) (by decide +kernel)
theorem w_3_55 : (.instanceMethod yJ0_isLatin1_aae02 : Cond) ∈ UW := um (tb_3 _ (List.mem_of_getElem? (i := 55) (by decide +kernel))) (by decide +kernel)
theorem w_3_56 : (.selects RJ0 yJ0_isLatin1_aae02 yJ0_isLatin1_aae02 : Cond) ∈ UW := um (tb_3 _ (List.mem_of_getElem? (i := 56) (by decide +kernel))) (by decide +kernel)
theorem tl_J0_492 : TL RJ0 492 mJ0_isLatin1_aae02 0 := ⟨rfl, md_J0_isLatin1_aae02, w_3_54, w_3_55, w_3_56⟩
theorem w_3_58 : (.methodLink RJ0 495 yJ1_charAt_3b067 : Cond) ∈ UW := um (tb_3 _ (List.mem_of_getElem? (i := 58) (by decide +kernel))) (by decide +kernel)
theorem w_3_59 : (.static yJ1_charAt_3b067 : Cond) ∈ UW := um (tb_3 _ (List.mem_of_getElem? (i := 59) (by decide +kernel))) (by decide +kernel)
theorem sl_J0_495 : SL RJ0 495 mJ1_charAt_3b067 2 := ⟨md_J1_charAt_3b067, w_3_58, w_3_59⟩
theorem w_3_66 : (.methodLink RJ0 1059 yJ3_checkIndex_8e157 : Cond) ∈ UW := um (tb_3 _ (List.mem_of_getElem? (i := 66) (by decide +kernel))) (by decide +kernel)
theorem w_3_67 : (.static yJ3_checkIndex_8e157 : Cond) ∈ UW := um (tb_3 _ (List.mem_of_getElem? (i := 67) (by decide +kernel))) (by decide +kernel)
theorem sl_J0_1059 : SL RJ0 1059 mJ3_checkIndex_8e157 3 := ⟨md_J3_checkIndex_8e157, w_3_66, w_3_67⟩
theorem w_3_61 : (.methodLink RJ1 9 yJ0_checkIndex_df160 : Cond) ∈ UW := um (tb_3 _ (List.mem_of_getElem? (i := 61) (by decide +kernel))) (by decide +kernel)
theorem w_3_62 : (.static yJ0_checkIndex_df160 : Cond) ∈ UW := um (tb_3 _ (List.mem_of_getElem? (i := 62) (by decide +kernel))) (by decide +kernel)
theorem sl_J1_9 : SL RJ1 9 mJ0_checkIndex_df160 2 := ⟨md_J0_checkIndex_df160, w_3_61, w_3_62⟩
theorem w_3_78 : (.methodLink RJ2 414 yJ0_checkIndex_df160 : Cond) ∈ UW := um (tb_3 _ (List.mem_of_getElem? (i := 78) (by decide +kernel))) (by decide +kernel)
theorem sl_J2_414 : SL RJ2 414 mJ0_checkIndex_df160 2 := ⟨md_J0_checkIndex_df160, w_3_78, w_3_62⟩
theorem w_3_208 : (.static Lib.Math.max.name : Cond) ∈ UW := um (tb_3 _ (List.mem_of_getElem? (i := 208) (by decide +kernel))) (by decide +kernel)
theorem w_1_12 : (.initialized "java/lang/Math" : Cond) ∈ UW := um (tb_1 _ (List.mem_of_getElem? (i := 12) (by decide +kernel))) (by decide +kernel)
theorem w_3_209 : (.code Lib.Math.max.name Lib.Math.max.code 2 (some .int) : Cond) ∈ UW := um (tb_3 _ (List.mem_of_getElem? (i := 209) (by decide +kernel))) (by decide +kernel)
theorem mw_max : (Cond.static Lib.Math.max.name ∈ UW ∧ Cond.initialized "java/lang/Math" ∈ UW) ∧ Cond.code Lib.Math.max.name Lib.Math.max.code 2 (some .int) ∈ UW := ⟨⟨w_3_208, w_1_12⟩, w_3_209⟩
theorem w_2_227 : (.static Lib.Math.min.name : Cond) ∈ UW := um (tb_2 _ (List.mem_of_getElem? (i := 227) (by decide +kernel))) (by decide +kernel)
theorem w_2_228 : (.code Lib.Math.min.name Lib.Math.min.code 2 (some .int) : Cond) ∈ UW := um (tb_2 _ (List.mem_of_getElem? (i := 228) (by decide +kernel))) (by decide +kernel)
theorem mw_min : (Cond.static Lib.Math.min.name ∈ UW ∧ Cond.initialized "java/lang/Math" ∈ UW) ∧ Cond.code Lib.Math.min.name Lib.Math.min.code 2 (some .int) ∈ UW := ⟨⟨w_2_227, w_1_12⟩, w_2_228⟩
theorem w_3_211 : (.static Lib.Math.abs.name : Cond) ∈ UW := um (tb_3 _ (List.mem_of_getElem? (i := 211) (by decide +kernel))) (by decide +kernel)
theorem w_3_212 : (.code Lib.Math.abs.name Lib.Math.abs.code 1 (some .int) : Cond) ∈ UW := um (tb_3 _ (List.mem_of_getElem? (i := 212) (by decide +kernel))) (by decide +kernel)
theorem mw_abs : (Cond.static Lib.Math.abs.name ∈ UW ∧ Cond.initialized "java/lang/Math" ∈ UW) ∧ Cond.code Lib.Math.abs.name Lib.Math.abs.code 1 (some .int) ∈ UW := ⟨⟨w_3_211, w_1_12⟩, w_3_212⟩
