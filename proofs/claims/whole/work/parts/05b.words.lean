theorem md_X12_is : MD mX12_is 2 := ⟨by decide +kernel, by decide +kernel, by decide +kernel, by decide, w_6_148, w_1_11⟩
def mX12_isForever : MI := (yX12_isForever, cX12_isForever, 3, (some .boolean))
theorem w_7_89 : (.code yX12_isForever cX12_isForever 3 (some .boolean) : Cond) ∈ UW := um (tb_7 _ (List.mem_of_getElem? (i := 89) (by decide +kernel))) (by decide +kernel)
theorem md_X12_isForever : MD mX12_isForever 0 := ⟨by decide +kernel, by decide +kernel, by decide +kernel, by decide, w_7_89, w_1_11⟩
def mX12_isKept : MI := (yX12_isKept, cX12_isKept, 5, (some .boolean))
theorem w_7_116 : (.code yX12_isKept cX12_isKept 5 (some .boolean) : Cond) ∈ UW := um (tb_7 _ (List.mem_of_getElem? (i := 116) (by decide +kernel))) (by decide +kernel)
theorem md_X12_isKept : MD mX12_isKept 1 := ⟨by decide +kernel, by decide +kernel, by decide +kernel, by decide, w_7_116, w_1_11⟩
def mX12_isLate : MI := (yX12_isLate, cX12_isLate, 2, (some .boolean))
theorem w_7_50 : (.code yX12_isLate cX12_isLate 2 (some .boolean) : Cond) ∈ UW := um (tb_7 _ (List.mem_of_getElem? (i := 50) (by decide +kernel))) (by decide +kernel)
theorem md_X12_isLate : MD mX12_isLate 1 := ⟨by decide +kernel, by decide +kernel, by decide +kernel, by decide, w_7_50, w_1_11⟩
def mX12_isPlate : MI := (yX12_isPlate, cX12_isPlate, 2, (some .boolean))
theorem w_7_2 : (.code yX12_isPlate cX12_isPlate 2 (some .boolean) : Cond) ∈ UW := um (tb_7 _ (List.mem_of_getElem? (i := 2) (by decide +kernel))) (by decide +kernel)
theorem md_X12_isPlate : MD mX12_isPlate 1 := ⟨by decide +kernel, by decide +kernel, by decide +kernel, by decide, w_7_2, w_1_11⟩
def mX12_isSo : MI := (yX12_isSo, cX12_isSo, 3, (some .boolean))
theorem w_8_36 : (.code yX12_isSo cX12_isSo 3 (some .boolean) : Cond) ∈ UW := um (tb_8 _ (List.mem_of_getElem? (i := 36) (by decide +kernel))) (by decide +kernel)
theorem md_X12_isSo : MD mX12_isSo 0 := ⟨by decide +kernel, by decide +kernel, by decide +kernel, by decide, w_8_36, w_1_11⟩
def mX12_keep : MI := (yX12_keep, cX12_keep, 4, (some .int))
theorem w_7_85 : (.code yX12_keep cX12_keep 4 (some .int) : Cond) ∈ UW := um (tb_7 _ (List.mem_of_getElem? (i := 85) (by decide +kernel))) (by decide +kernel)
theorem md_X12_keep : MD mX12_keep 2 := ⟨by decide +kernel, by decide +kernel, by decide +kernel, by decide, w_7_85, w_1_11⟩
def mX12_lastsOf : MI := (yX12_lastsOf, cX12_lastsOf, 6, (some .int))
theorem w_7_132 : (.code yX12_lastsOf cX12_lastsOf 6 (some .int) : Cond) ∈ UW := um (tb_7 _ (List.mem_of_getElem? (i := 132) (by decide +kernel))) (by decide +kernel)
theorem md_X12_lastsOf : MD mX12_lastsOf 1 := ⟨by decide +kernel, by decide +kernel, by decide +kernel, by decide, w_7_132, w_1_11⟩
def mX12_late : MI := (yX12_late, cX12_late, 3, (some .int))
theorem w_8_93 : (.code yX12_late cX12_late 3 (some .int) : Cond) ∈ UW := um (tb_8 _ (List.mem_of_getElem? (i := 93) (by decide +kernel))) (by decide +kernel)
theorem md_X12_late : MD mX12_late 0 := ⟨by decide +kernel, by decide +kernel, by decide +kernel, by decide, w_8_93, w_1_11⟩
def mX12_layAll : MI := (yX12_layAll, cX12_layAll, 3, (some .boolean))
theorem w_7_26 : (.code yX12_layAll cX12_layAll 3 (some .boolean) : Cond) ∈ UW := um (tb_7 _ (List.mem_of_getElem? (i := 26) (by decide +kernel))) (by decide +kernel)
theorem md_X12_layAll : MD mX12_layAll 2 := ⟨by decide +kernel, by decide +kernel, by decide +kernel, by decide, w_7_26, w_1_11⟩
def mX12_layOut : MI := (yX12_layOut, cX12_layOut, 3, none)
theorem w_7_93 : (.code yX12_layOut cX12_layOut 3 none : Cond) ∈ UW := um (tb_7 _ (List.mem_of_getElem? (i := 93) (by decide +kernel))) (by decide +kernel)
theorem md_X12_layOut : MD mX12_layOut 0 := ⟨by decide +kernel, by decide +kernel, by decide +kernel, by decide, w_7_93, w_1_11⟩
def mX12_least : MI := (yX12_least, cX12_least, 4, (some .int))
theorem w_8_121 : (.code yX12_least cX12_least 4 (some .int) : Cond) ∈ UW := um (tb_8 _ (List.mem_of_getElem? (i := 121) (by decide +kernel))) (by decide +kernel)
theorem md_X12_least : MD mX12_least 3 := ⟨by decide +kernel, by decide +kernel, by decide +kernel, by decide, w_8_121, w_1_11⟩
def mX12_leastLeft : MI := (yX12_leastLeft, cX12_leastLeft, 3, (some .int))
theorem w_7_136 : (.code yX12_leastLeft cX12_leastLeft 3 (some .int) : Cond) ∈ UW := um (tb_7 _ (List.mem_of_getElem? (i := 136) (by decide +kernel))) (by decide +kernel)
theorem md_X12_leastLeft : MD mX12_leastLeft 0 := ⟨by decide +kernel, by decide +kernel, by decide +kernel, by decide, w_7_136, w_1_11⟩
def mX12_leave : MI := (yX12_leave, cX12_leave, 3, (some .int))
theorem w_7_181 : (.code yX12_leave cX12_leave 3 (some .int) : Cond) ∈ UW := um (tb_7 _ (List.mem_of_getElem? (i := 181) (by decide +kernel))) (by decide +kernel)
theorem md_X12_leave : MD mX12_leave 0 := ⟨by decide +kernel, by decide +kernel, by decide +kernel, by decide, w_7_181, w_1_11⟩
def mX12_lesser : MI := (yX12_lesser, cX12_lesser, 2, (some .int))
theorem w_6_192 : (.code yX12_lesser cX12_lesser 2 (some .int) : Cond) ∈ UW := um (tb_6 _ (List.mem_of_getElem? (i := 192) (by decide +kernel))) (by decide +kernel)
theorem md_X12_lesser : MD mX12_lesser 2 := ⟨by decide +kernel, by decide +kernel, by decide +kernel, by decide, w_6_192, w_1_11⟩
def mX12_load : MI := (yX12_load, cX12_load, 3, (some .int))
theorem w_8_69 : (.code yX12_load cX12_load 3 (some .int) : Cond) ∈ UW := um (tb_8 _ (List.mem_of_getElem? (i := 69) (by decide +kernel))) (by decide +kernel)
theorem md_X12_load : MD mX12_load 2 := ⟨by decide +kernel, by decide +kernel, by decide +kernel, by decide, w_8_69, w_1_11⟩
def mX12_loadOf : MI := (yX12_loadOf, cX12_loadOf, 3, (some .int))
theorem w_8_97 : (.code yX12_loadOf cX12_loadOf 3 (some .int) : Cond) ∈ UW := um (tb_8 _ (List.mem_of_getElem? (i := 97) (by decide +kernel))) (by decide +kernel)
theorem md_X12_loadOf : MD mX12_loadOf 0 := ⟨by decide +kernel, by decide +kernel, by decide +kernel, by decide, w_8_97, w_1_11⟩
def mX12_log : MI := (yX12_log, cX12_log, 4, (some .int))
theorem w_8_0 : (.code yX12_log cX12_log 4 (some .int) : Cond) ∈ UW := um (tb_8 _ (List.mem_of_getElem? (i := 0) (by decide +kernel))) (by decide +kernel)
theorem md_X12_log : MD mX12_log 2 := ⟨by decide +kernel, by decide +kernel, by decide +kernel, by decide, w_8_0, w_1_11⟩
def mX12_logLine : MI := (yX12_logLine, cX12_logLine, 6, (some .boolean))
theorem w_6_211 : (.code yX12_logLine cX12_logLine 6 (some .boolean) : Cond) ∈ UW := um (tb_6 _ (List.mem_of_getElem? (i := 211) (by decide +kernel))) (by decide +kernel)
theorem md_X12_logLine : MD mX12_logLine 2 := ⟨by decide +kernel, by decide +kernel, by decide +kernel, by decide, w_6_211, w_1_11⟩
def mX12_lose : MI := (yX12_lose, cX12_lose, 2, none)
theorem w_7_58 : (.code yX12_lose cX12_lose 2 none : Cond) ∈ UW := um (tb_7 _ (List.mem_of_getElem? (i := 58) (by decide +kernel))) (by decide +kernel)
theorem md_X12_lose : MD mX12_lose 1 := ⟨by decide +kernel, by decide +kernel, by decide +kernel, by decide, w_7_58, w_1_11⟩
def mX12_manyRuns : MI := (yX12_manyRuns, cX12_manyRuns, 4, (some .int))
theorem w_7_157 : (.code yX12_manyRuns cX12_manyRuns 4 (some .int) : Cond) ∈ UW := um (tb_7 _ (List.mem_of_getElem? (i := 157) (by decide +kernel))) (by decide +kernel)
theorem md_X12_manyRuns : MD mX12_manyRuns 0 := ⟨by decide +kernel, by decide +kernel, by decide +kernel, by decide, w_7_157, w_1_11⟩
def mX12_movesOf : MI := (yX12_movesOf, cX12_movesOf, 4, (some .int))
theorem w_7_169 : (.code yX12_movesOf cX12_movesOf 4 (some .int) : Cond) ∈ UW := um (tb_7 _ (List.mem_of_getElem? (i := 169) (by decide +kernel))) (by decide +kernel)
theorem md_X12_movesOf : MD mX12_movesOf 1 := ⟨by decide +kernel, by decide +kernel, by decide +kernel, by decide, w_7_169, w_1_11⟩
def mX12_need : MI := (yX12_need, cX12_need, 3, (some .int))
theorem w_7_161 : (.code yX12_need cX12_need 3 (some .int) : Cond) ∈ UW := um (tb_7 _ (List.mem_of_getElem? (i := 161) (by decide +kernel))) (by decide +kernel)
theorem md_X12_need : MD mX12_need 2 := ⟨by decide +kernel, by decide +kernel, by decide +kernel, by decide, w_7_161, w_1_11⟩
def mX12_needOf : MI := (yX12_needOf, cX12_needOf, 3, (some .int))
theorem w_7_165 : (.code yX12_needOf cX12_needOf 3 (some .int) : Cond) ∈ UW := um (tb_7 _ (List.mem_of_getElem? (i := 165) (by decide +kernel))) (by decide +kernel)
theorem md_X12_needOf : MD mX12_needOf 1 := ⟨by decide +kernel, by decide +kernel, by decide +kernel, by decide, w_7_165, w_1_11⟩
def mX12_nextRun : MI := (yX12_nextRun, cX12_nextRun, 5, (some .int))
theorem w_7_145 : (.code yX12_nextRun cX12_nextRun 5 (some .int) : Cond) ∈ UW := um (tb_7 _ (List.mem_of_getElem? (i := 145) (by decide +kernel))) (by decide +kernel)
theorem md_X12_nextRun : MD mX12_nextRun 1 := ⟨by decide +kernel, by decide +kernel, by decide +kernel, by decide, w_7_145, w_1_11⟩
def mX12_noteFit : MI := (yX12_noteFit, cX12_noteFit, 6, none)
theorem w_8_40 : (.code yX12_noteFit cX12_noteFit 6 none : Cond) ∈ UW := um (tb_8 _ (List.mem_of_getElem? (i := 40) (by decide +kernel))) (by decide +kernel)
theorem md_X12_noteFit : MD mX12_noteFit 4 := ⟨by decide +kernel, by decide +kernel, by decide +kernel, by decide, w_8_40, w_1_11⟩
def mX12_odds : MI := (yX12_odds, cX12_odds, 9, (some .int))
theorem w_7_227 : (.code yX12_odds cX12_odds 9 (some .int) : Cond) ∈ UW := um (tb_7 _ (List.mem_of_getElem? (i := 227) (by decide +kernel))) (by decide +kernel)
theorem md_X12_odds : MD mX12_odds 5 := ⟨by decide +kernel, by decide +kernel, by decide +kernel, by decide, w_7_227, w_1_11⟩
def mX12_of : MI := (yX12_of, cX12_of, 2, (some .int))
theorem w_6_238 : (.code yX12_of cX12_of 2 (some .int) : Cond) ∈ UW := um (tb_6 _ (List.mem_of_getElem? (i := 238) (by decide +kernel))) (by decide +kernel)
theorem md_X12_of : MD mX12_of 1 := ⟨by decide +kernel, by decide +kernel, by decide +kernel, by decide, w_6_238, w_1_11⟩
def mX12_ofLoad : MI := (yX12_ofLoad, cX12_ofLoad, 2, (some .int))
theorem w_8_77 : (.code yX12_ofLoad cX12_ofLoad 2 (some .int) : Cond) ∈ UW := um (tb_8 _ (List.mem_of_getElem? (i := 77) (by decide +kernel))) (by decide +kernel)
theorem md_X12_ofLoad : MD mX12_ofLoad 1 := ⟨by decide +kernel, by decide +kernel, by decide +kernel, by decide, w_8_77, w_1_11⟩
def mX12_ofState : MI := (yX12_ofState, cX12_ofState, 3, (some .int))
theorem w_7_81 : (.code yX12_ofState cX12_ofState 3 (some .int) : Cond) ∈ UW := um (tb_7 _ (List.mem_of_getElem? (i := 81) (by decide +kernel))) (by decide +kernel)
theorem md_X12_ofState : MD mX12_ofState 1 := ⟨by decide +kernel, by decide +kernel, by decide +kernel, by decide, w_7_81, w_1_11⟩
def mX12_ones : MI := (yX12_ones, cX12_ones, 3, (some .int))
theorem w_7_184 : (.code yX12_ones cX12_ones 3 (some .int) : Cond) ∈ UW := um (tb_7 _ (List.mem_of_getElem? (i := 184) (by decide +kernel))) (by decide +kernel)
theorem md_X12_ones : MD mX12_ones 1 := ⟨by decide +kernel, by decide +kernel, by decide +kernel, by decide, w_7_184, w_1_11⟩
def mX12_open : MI := (yX12_open, cX12_open, 4, none)
theorem w_7_112 : (.code yX12_open cX12_open 4 none : Cond) ∈ UW := um (tb_7 _ (List.mem_of_getElem? (i := 112) (by decide +kernel))) (by decide +kernel)
theorem md_X12_open : MD mX12_open 1 := ⟨by decide +kernel, by decide +kernel, by decide +kernel, by decide, w_7_112, w_1_11⟩
def mX12_openFirst : MI := (yX12_openFirst, cX12_openFirst, 2, none)
theorem w_7_97 : (.code yX12_openFirst cX12_openFirst 2 none : Cond) ∈ UW := um (tb_7 _ (List.mem_of_getElem? (i := 97) (by decide +kernel))) (by decide +kernel)
theorem md_X12_openFirst : MD mX12_openFirst 0 := ⟨by decide +kernel, by decide +kernel, by decide +kernel, by decide, w_7_97, w_1_11⟩
def mX12_part : MI := (yX12_part, cX12_part, 3, (some .int))
theorem w_7_233 : (.code yX12_part cX12_part 3 (some .int) : Cond) ∈ UW := um (tb_7 _ (List.mem_of_getElem? (i := 233) (by decide +kernel))) (by decide +kernel)
theorem md_X12_part : MD mX12_part 3 := ⟨by decide +kernel, by decide +kernel, by decide +kernel, by decide, w_7_233, w_1_11⟩
def mX12_placeNow : MI := (yX12_placeNow, cX12_placeNow, 1, (some .int))
theorem w_7_124 : (.code yX12_placeNow cX12_placeNow 1 (some .int) : Cond) ∈ UW := um (tb_7 _ (List.mem_of_getElem? (i := 124) (by decide +kernel))) (by decide +kernel)
theorem md_X12_placeNow : MD mX12_placeNow 0 := ⟨by decide +kernel, by decide +kernel, by decide +kernel, by decide, w_7_124, w_1_11⟩
def mX12_plateLine : MI := (yX12_plateLine, cX12_plateLine, 4, (some .boolean))
theorem w_6_173 : (.code yX12_plateLine cX12_plateLine 4 (some .boolean) : Cond) ∈ UW := um (tb_6 _ (List.mem_of_getElem? (i := 173) (by decide +kernel))) (by decide +kernel)
theorem md_X12_plateLine : MD mX12_plateLine 1 := ⟨by decide +kernel, by decide +kernel, by decide +kernel, by decide, w_6_173, w_1_11⟩
def mX12_play : MI := (yX12_play, cX12_play, 3, (some .int))
theorem w_7_38 : (.code yX12_play cX12_play 3 (some .int) : Cond) ∈ UW := um (tb_7 _ (List.mem_of_getElem? (i := 38) (by decide +kernel))) (by decide +kernel)
theorem md_X12_play : MD mX12_play 1 := ⟨by decide +kernel, by decide +kernel, by decide +kernel, by decide, w_7_38, w_1_11⟩
def mX12_reachedStands : MI := (yX12_reachedStands, cX12_reachedStands, 4, (some .int))
theorem w_7_192 : (.code yX12_reachedStands cX12_reachedStands 4 (some .int) : Cond) ∈ UW := um (tb_7 _ (List.mem_of_getElem? (i := 192) (by decide +kernel))) (by decide +kernel)
theorem md_X12_reachedStands : MD mX12_reachedStands 1 := ⟨by decide +kernel, by decide +kernel, by decide +kernel, by decide, w_7_192, w_1_11⟩
def mX12_readText : MI := (yX12_readText, cX12_readText, 3, (some .boolean))
theorem w_6_152 : (.code yX12_readText cX12_readText 3 (some .boolean) : Cond) ∈ UW := um (tb_6 _ (List.mem_of_getElem? (i := 152) (by decide +kernel))) (by decide +kernel)
theorem md_X12_readText : MD mX12_readText 1 := ⟨by decide +kernel, by decide +kernel, by decide +kernel, by decide, w_6_152, w_1_11⟩
def mX12_roundBy : MI := (yX12_roundBy, cX12_roundBy, 4, (some .int))
theorem w_7_153 : (.code yX12_roundBy cX12_roundBy 4 (some .int) : Cond) ∈ UW := um (tb_7 _ (List.mem_of_getElem? (i := 153) (by decide +kernel))) (by decide +kernel)
theorem md_X12_roundBy : MD mX12_roundBy 1 := ⟨by decide +kernel, by decide +kernel, by decide +kernel, by decide, w_7_153, w_1_11⟩
def mX12_rowCode : MI := (yX12_rowCode, cX12_rowCode, 4, (some .int))
theorem w_8_44 : (.code yX12_rowCode cX12_rowCode 4 (some .int) : Cond) ∈ UW := um (tb_8 _ (List.mem_of_getElem? (i := 44) (by decide +kernel))) (by decide +kernel)
theorem md_X12_rowCode : MD mX12_rowCode 1 := ⟨by decide +kernel, by decide +kernel, by decide +kernel, by decide, w_8_44, w_1_11⟩
def mX12_run : MI := (yX12_run, cX12_run, 4, (some .boolean))
theorem w_7_65 : (.code yX12_run cX12_run 4 (some .boolean) : Cond) ∈ UW := um (tb_7 _ (List.mem_of_getElem? (i := 65) (by decide +kernel))) (by decide +kernel)
theorem md_X12_run : MD mX12_run 1 := ⟨by decide +kernel, by decide +kernel, by decide +kernel, by decide, w_7_65, w_1_11⟩
def mX12_runAt : MI := (yX12_runAt, cX12_runAt, 5, (some .int))
theorem w_7_141 : (.code yX12_runAt cX12_runAt 5 (some .int) : Cond) ∈ UW := um (tb_7 _ (List.mem_of_getElem? (i := 141) (by decide +kernel))) (by decide +kernel)
theorem md_X12_runAt : MD mX12_runAt 1 := ⟨by decide +kernel, by decide +kernel, by decide +kernel, by decide, w_7_141, w_1_11⟩
def mX12_runs : MI := (yX12_runs, cX12_runs, 1, (some .int))
theorem w_8_8 : (.code yX12_runs cX12_runs 1 (some .int) : Cond) ∈ UW := um (tb_8 _ (List.mem_of_getElem? (i := 8) (by decide +kernel))) (by decide +kernel)
theorem md_X12_runs : MD mX12_runs 0 := ⟨by decide +kernel, by decide +kernel, by decide +kernel, by decide, w_8_8, w_1_11⟩
def mX12_runsAll : MI := (yX12_runsAll, cX12_runsAll, 4, (some .boolean))
theorem w_8_32 : (.code yX12_runsAll cX12_runsAll 4 (some .boolean) : Cond) ∈ UW := um (tb_8 _ (List.mem_of_getElem? (i := 32) (by decide +kernel))) (by decide +kernel)
theorem md_X12_runsAll : MD mX12_runsAll 1 := ⟨by decide +kernel, by decide +kernel, by decide +kernel, by decide, w_8_32, w_1_11⟩
def mX12_save : MI := (yX12_save, cX12_save, 8, (some .int))
theorem w_7_200 : (.code yX12_save cX12_save 8 (some .int) : Cond) ∈ UW := um (tb_7 _ (List.mem_of_getElem? (i := 200) (by decide +kernel))) (by decide +kernel)
theorem md_X12_save : MD mX12_save 3 := ⟨by decide +kernel, by decide +kernel, by decide +kernel, by decide, w_7_200, w_1_11⟩
def mX12_saved : MI := (yX12_saved, cX12_saved, 6, (some .int))
theorem w_7_207 : (.code yX12_saved cX12_saved 6 (some .int) : Cond) ∈ UW := um (tb_7 _ (List.mem_of_getElem? (i := 207) (by decide +kernel))) (by decide +kernel)
theorem md_X12_saved : MD mX12_saved 2 := ⟨by decide +kernel, by decide +kernel, by decide +kernel, by decide, w_7_207, w_1_11⟩
def mX12_see : MI := (yX12_see, cX12_see, 1, (some .int))
theorem w_6_160 : (.code yX12_see cX12_see 1 (some .int) : Cond) ∈ UW := um (tb_6 _ (List.mem_of_getElem? (i := 160) (by decide +kernel))) (by decide +kernel)
theorem md_X12_see : MD mX12_see 0 := ⟨by decide +kernel, by decide +kernel, by decide +kernel, by decide, w_6_160, w_1_11⟩
def mX12_sets : MI := (yX12_sets, cX12_sets, 4, (some .boolean))
theorem w_7_73 : (.code yX12_sets cX12_sets 4 (some .boolean) : Cond) ∈ UW := um (tb_7 _ (List.mem_of_getElem? (i := 73) (by decide +kernel))) (by decide +kernel)
theorem md_X12_sets : MD mX12_sets 1 := ⟨by decide +kernel, by decide +kernel, by decide +kernel, by decide, w_7_73, w_1_11⟩
def mX12_showLine : MI := (yX12_showLine, cX12_showLine, 6, (some .boolean))
theorem w_6_198 : (.code yX12_showLine cX12_showLine 6 (some .boolean) : Cond) ∈ UW := um (tb_6 _ (List.mem_of_getElem? (i := 198) (by decide +kernel))) (by decide +kernel)
theorem md_X12_showLine : MD mX12_showLine 2 := ⟨by decide +kernel, by decide +kernel, by decide +kernel, by decide, w_6_198, w_1_11⟩
def mX12_sixes : MI := (yX12_sixes, cX12_sixes, 3, (some .int))
theorem w_7_203 : (.code yX12_sixes cX12_sixes 3 (some .int) : Cond) ∈ UW := um (tb_7 _ (List.mem_of_getElem? (i := 203) (by decide +kernel))) (by decide +kernel)
theorem md_X12_sixes : MD mX12_sixes 1 := ⟨by decide +kernel, by decide +kernel, by decide +kernel, by decide, w_7_203, w_1_11⟩
def mX12_span : MI := (yX12_span, cX12_span, 4, (some .int))
theorem w_8_81 : (.code yX12_span cX12_span 4 (some .int) : Cond) ∈ UW := um (tb_8 _ (List.mem_of_getElem? (i := 81) (by decide +kernel))) (by decide +kernel)
theorem md_X12_span : MD mX12_span 0 := ⟨by decide +kernel, by decide +kernel, by decide +kernel, by decide, w_8_81, w_1_11⟩
def mX12_spare : MI := (yX12_spare, cX12_spare, 3, (some .int))
theorem w_7_188 : (.code yX12_spare cX12_spare 3 (some .int) : Cond) ∈ UW := um (tb_7 _ (List.mem_of_getElem? (i := 188) (by decide +kernel))) (by decide +kernel)
theorem md_X12_spare : MD mX12_spare 0 := ⟨by decide +kernel, by decide +kernel, by decide +kernel, by decide, w_7_188, w_1_11⟩
def mX12_speeds : MI := (yX12_speeds, cX12_speeds, 2, (some .int))
theorem w_7_173 : (.code yX12_speeds cX12_speeds 2 (some .int) : Cond) ∈ UW := um (tb_7 _ (List.mem_of_getElem? (i := 173) (by decide +kernel))) (by decide +kernel)
theorem md_X12_speeds : MD mX12_speeds 0 := ⟨by decide +kernel, by decide +kernel, by decide +kernel, by decide, w_7_173, w_1_11⟩
def mX12_stage : MI := (yX12_stage, cX12_stage, 4, (some .int))
theorem w_6_226 : (.code yX12_stage cX12_stage 4 (some .int) : Cond) ∈ UW := um (tb_6 _ (List.mem_of_getElem? (i := 226) (by decide +kernel))) (by decide +kernel)
theorem md_X12_stage : MD mX12_stage 2 := ⟨by decide +kernel, by decide +kernel, by decide +kernel, by decide, w_6_226, w_1_11⟩
def mX12_stageLine : MI := (yX12_stageLine, cX12_stageLine, 5, (some .boolean))
theorem w_6_168 : (.code yX12_stageLine cX12_stageLine 5 (some .boolean) : Cond) ∈ UW := um (tb_6 _ (List.mem_of_getElem? (i := 168) (by decide +kernel))) (by decide +kernel)
theorem md_X12_stageLine : MD mX12_stageLine 2 := ⟨by decide +kernel, by decide +kernel, by decide +kernel, by decide, w_6_168, w_1_11⟩
def mX12_standBehind : MI := (yX12_standBehind, cX12_standBehind, 3, (some .int))
theorem w_7_149 : (.code yX12_standBehind cX12_standBehind 3 (some .int) : Cond) ∈ UW := um (tb_7 _ (List.mem_of_getElem? (i := 149) (by decide +kernel))) (by decide +kernel)
theorem md_X12_standBehind : MD mX12_standBehind 2 := ⟨by decide +kernel, by decide +kernel, by decide +kernel, by decide, w_7_149, w_1_11⟩
def mX12_standNow : MI := (yX12_standNow, cX12_standNow, 3, (some .int))
theorem w_7_34 : (.code yX12_standNow cX12_standNow 3 (some .int) : Cond) ∈ UW := um (tb_7 _ (List.mem_of_getElem? (i := 34) (by decide +kernel))) (by decide +kernel)
theorem md_X12_standNow : MD mX12_standNow 0 := ⟨by decide +kernel, by decide +kernel, by decide +kernel, by decide, w_7_34, w_1_11⟩
def mX12_starts : MI := (yX12_starts, cX12_starts, 3, (some .int))
theorem w_7_177 : (.code yX12_starts cX12_starts 3 (some .int) : Cond) ∈ UW := um (tb_7 _ (List.mem_of_getElem? (i := 177) (by decide +kernel))) (by decide +kernel)
theorem md_X12_starts : MD mX12_starts 0 := ⟨by decide +kernel, by decide +kernel, by decide +kernel, by decide, w_7_177, w_1_11⟩
def mX12_state : MI := (yX12_state, cX12_state, 5, (some .int))
theorem w_7_77 : (.code yX12_state cX12_state 5 (some .int) : Cond) ∈ UW := um (tb_7 _ (List.mem_of_getElem? (i := 77) (by decide +kernel))) (by decide +kernel)
theorem md_X12_state : MD mX12_state 4 := ⟨by decide +kernel, by decide +kernel, by decide +kernel, by decide, w_7_77, w_1_11⟩
def mX12_stop : MI := (yX12_stop, cX12_stop, 3, (some .int))
theorem w_7_22 : (.code yX12_stop cX12_stop 3 (some .int) : Cond) ∈ UW := um (tb_7 _ (List.mem_of_getElem? (i := 22) (by decide +kernel))) (by decide +kernel)
theorem md_X12_stop : MD mX12_stop 2 := ⟨by decide +kernel, by decide +kernel, by decide +kernel, by decide, w_7_22, w_1_11⟩
def mX12_store : MI := (yX12_store, cX12_store, 5, none)
theorem w_6_218 : (.code yX12_store cX12_store 5 none : Cond) ∈ UW := um (tb_6 _ (List.mem_of_getElem? (i := 218) (by decide +kernel))) (by decide +kernel)
theorem md_X12_store : MD mX12_store 3 := ⟨by decide +kernel, by decide +kernel, by decide +kernel, by decide, w_6_218, w_1_11⟩
def mX12_sure : MI := (yX12_sure, cX12_sure, 3, (some .int))
theorem w_8_48 : (.code yX12_sure cX12_sure 3 (some .int) : Cond) ∈ UW := um (tb_8 _ (List.mem_of_getElem? (i := 48) (by decide +kernel))) (by decide +kernel)
theorem md_X12_sure : MD mX12_sure 1 := ⟨by decide +kernel, by decide +kernel, by decide +kernel, by decide, w_8_48, w_1_11⟩
def mX12_swapTwo : MI := (yX12_swapTwo, cX12_swapTwo, 3, (some .int))
theorem w_8_113 : (.code yX12_swapTwo cX12_swapTwo 3 (some .int) : Cond) ∈ UW := um (tb_8 _ (List.mem_of_getElem? (i := 113) (by decide +kernel))) (by decide +kernel)
theorem md_X12_swapTwo : MD mX12_swapTwo 0 := ⟨by decide +kernel, by decide +kernel, by decide +kernel, by decide, w_8_113, w_1_11⟩
def mX12_take : MI := (yX12_take, cX12_take, 4, (some .boolean))
theorem w_6_185 : (.code yX12_take cX12_take 4 (some .boolean) : Cond) ∈ UW := um (tb_6 _ (List.mem_of_getElem? (i := 185) (by decide +kernel))) (by decide +kernel)
theorem md_X12_take : MD mX12_take 3 := ⟨by decide +kernel, by decide +kernel, by decide +kernel, by decide, w_6_185, w_1_11⟩
def mX12_text : MI := (yX12_text, cX12_text, 4, (some .int))
theorem w_6_144 : (.code yX12_text cX12_text 4 (some .int) : Cond) ∈ UW := um (tb_6 _ (List.mem_of_getElem? (i := 144) (by decide +kernel))) (by decide +kernel)
theorem md_X12_text : MD mX12_text 2 := ⟨by decide +kernel, by decide +kernel, by decide +kernel, by decide, w_6_144, w_1_11⟩
def mX12_times : MI := (yX12_times, cX12_times, 4, (some .int))
theorem w_7_230 : (.code yX12_times cX12_times 4 (some .int) : Cond) ∈ UW := um (tb_7 _ (List.mem_of_getElem? (i := 230) (by decide +kernel))) (by decide +kernel)
theorem md_X12_times : MD mX12_times 2 := ⟨by decide +kernel, by decide +kernel, by decide +kernel, by decide, w_7_230, w_1_11⟩
def mX12_token : MI := (yX12_token, cX12_token, 3, none)
theorem w_6_156 : (.code yX12_token cX12_token 3 none : Cond) ∈ UW := um (tb_6 _ (List.mem_of_getElem? (i := 156) (by decide +kernel))) (by decide +kernel)
theorem md_X12_token : MD mX12_token 0 := ⟨by decide +kernel, by decide +kernel, by decide +kernel, by decide, w_6_156, w_1_11⟩
def mX12_way : MI := (yX12_way, cX12_way, 4, (some .int))
theorem w_7_69 : (.code yX12_way cX12_way 4 (some .int) : Cond) ∈ UW := um (tb_7 _ (List.mem_of_getElem? (i := 69) (by decide +kernel))) (by decide +kernel)
theorem md_X12_way : MD mX12_way 2 := ⟨by decide +kernel, by decide +kernel, by decide +kernel, by decide, w_7_69, w_1_11⟩
def mX12_waysFrom : MI := (yX12_waysFrom, cX12_waysFrom, 4, (some .int))
theorem w_8_109 : (.code yX12_waysFrom cX12_waysFrom 4 (some .int) : Cond) ∈ UW := um (tb_8 _ (List.mem_of_getElem? (i := 109) (by decide +kernel))) (by decide +kernel)
theorem md_X12_waysFrom : MD mX12_waysFrom 1 := ⟨by decide +kernel, by decide +kernel, by decide +kernel, by decide, w_8_109, w_1_11⟩
def mX1_bestAgainst : MI := (yX1_bestAgainst, cX1_bestAgainst, 8, (some .int))
theorem w_4_228 : (.code yX1_bestAgainst cX1_bestAgainst 8 (some .int) : Cond) ∈ UW := um (tb_4 _ (List.mem_of_getElem? (i := 228) (by decide +kernel))) (by decide +kernel)
theorem w_1_20 : (.initialized RX1 : Cond) ∈ UW := um (tb_1 _ (List.mem_of_getElem? (i := 20) (by decide +kernel))) (by decide +kernel)
theorem md_X1_bestAgainst : MD mX1_bestAgainst 4 := ⟨by decide +kernel, by decide +kernel, by decide +kernel, by decide, w_4_228, w_1_20⟩
def mX1_bestSaving : MI := (yX1_bestSaving, cX1_bestSaving, 10, (some .int))
theorem w_4_200 : (.code yX1_bestSaving cX1_bestSaving 10 (some .int) : Cond) ∈ UW := um (tb_4 _ (List.mem_of_getElem? (i := 200) (by decide +kernel))) (by decide +kernel)
theorem md_X1_bestSaving : MD mX1_bestSaving 4 := ⟨by decide +kernel, by decide +kernel, by decide +kernel, by decide, w_4_200, w_1_20⟩
def mX1_choiceOf : MI := (yX1_choiceOf, cX1_choiceOf, 1, (some .int))
theorem w_4_217 : (.code yX1_choiceOf cX1_choiceOf 1 (some .int) : Cond) ∈ UW := um (tb_4 _ (List.mem_of_getElem? (i := 217) (by decide +kernel))) (by decide +kernel)
theorem md_X1_choiceOf : MD mX1_choiceOf 1 := ⟨by decide +kernel, by decide +kernel, by decide +kernel, by decide, w_4_217, w_1_20⟩
def mX1_duelling : MI := (yX1_duelling, cX1_duelling, 2, (some .int))
theorem w_4_225 : (.code yX1_duelling cX1_duelling 2 (some .int) : Cond) ∈ UW := um (tb_4 _ (List.mem_of_getElem? (i := 225) (by decide +kernel))) (by decide +kernel)
theorem md_X1_duelling : MD mX1_duelling 2 := ⟨by decide +kernel, by decide +kernel, by decide +kernel, by decide, w_4_225, w_1_20⟩
def mX1_rated : MI := (yX1_rated, cX1_rated, 2, (some .int))
theorem w_4_206 : (.code yX1_rated cX1_rated 2 (some .int) : Cond) ∈ UW := um (tb_4 _ (List.mem_of_getElem? (i := 206) (by decide +kernel))) (by decide +kernel)
theorem md_X1_rated : MD mX1_rated 2 := ⟨by decide +kernel, by decide +kernel, by decide +kernel, by decide, w_4_206, w_1_20⟩
def mX1_saving : MI := (yX1_saving, cX1_saving, 2, (some .int))
theorem w_4_195 : (.code yX1_saving cX1_saving 2 (some .int) : Cond) ∈ UW := um (tb_4 _ (List.mem_of_getElem? (i := 195) (by decide +kernel))) (by decide +kernel)
theorem md_X1_saving : MD mX1_saving 2 := ⟨by decide +kernel, by decide +kernel, by decide +kernel, by decide, w_4_195, w_1_20⟩
def mX1_valueOf : MI := (yX1_valueOf, cX1_valueOf, 1, (some .int))
theorem w_4_209 : (.code yX1_valueOf cX1_valueOf 1 (some .int) : Cond) ∈ UW := um (tb_4 _ (List.mem_of_getElem? (i := 209) (by decide +kernel))) (by decide +kernel)
theorem md_X1_valueOf : MD mX1_valueOf 1 := ⟨by decide +kernel, by decide +kernel, by decide +kernel, by decide, w_4_209, w_1_20⟩
def mX1_worstOf : MI := (yX1_worstOf, cX1_worstOf, 8, (some .int))
theorem w_4_231 : (.code yX1_worstOf cX1_worstOf 8 (some .int) : Cond) ∈ UW := um (tb_4 _ (List.mem_of_getElem? (i := 231) (by decide +kernel))) (by decide +kernel)
theorem md_X1_worstOf : MD mX1_worstOf 4 := ⟨by decide +kernel, by decide +kernel, by decide +kernel, by decide, w_4_231, w_1_20⟩
def mX2_answer : MI := (yX2_answer, cX2_answer, 3, (some .int))
theorem w_4_105 : (.code yX2_answer cX2_answer 3 (some .int) : Cond) ∈ UW := um (tb_4 _ (List.mem_of_getElem? (i := 105) (by decide +kernel))) (by decide +kernel)
theorem w_1_9 : (.initialized RX2 : Cond) ∈ UW := um (tb_1 _ (List.mem_of_getElem? (i := 9) (by decide +kernel))) (by decide +kernel)
theorem md_X2_answer : MD mX2_answer 1 := ⟨by decide +kernel, by decide +kernel, by decide +kernel, by decide, w_4_105, w_1_9⟩
def mX2_beatsTo : MI := (yX2_beatsTo, cX2_beatsTo, 3, (some .int))
theorem w_4_87 : (.code yX2_beatsTo cX2_beatsTo 3 (some .int) : Cond) ∈ UW := um (tb_4 _ (List.mem_of_getElem? (i := 87) (by decide +kernel))) (by decide +kernel)
theorem md_X2_beatsTo : MD mX2_beatsTo 2 := ⟨by decide +kernel, by decide +kernel, by decide +kernel, by decide, w_4_87, w_1_9⟩
def mX2_behindFirst : MI := (yX2_behindFirst, cX2_behindFirst, 2, (some .int))
theorem w_4_186 : (.code yX2_behindFirst cX2_behindFirst 2 (some .int) : Cond) ∈ UW := um (tb_4 _ (List.mem_of_getElem? (i := 186) (by decide +kernel))) (by decide +kernel)
theorem md_X2_behindFirst : MD mX2_behindFirst 1 := ⟨by decide +kernel, by decide +kernel, by decide +kernel, by decide, w_4_186, w_1_9⟩
def mX2_enter : MI := (yX2_enter, cX2_enter, 5, none)
theorem w_4_50 : (.code yX2_enter cX2_enter 5 none : Cond) ∈ UW := um (tb_4 _ (List.mem_of_getElem? (i := 50) (by decide +kernel))) (by decide +kernel)
theorem md_X2_enter : MD mX2_enter 1 := ⟨by decide +kernel, by decide +kernel, by decide +kernel, by decide, w_4_50, w_1_9⟩
def mX2_explore : MI := (yX2_explore, cX2_explore, 7, (some .boolean))
theorem w_4_25 : (.code yX2_explore cX2_explore 7 (some .boolean) : Cond) ∈ UW := um (tb_4 _ (List.mem_of_getElem? (i := 25) (by decide +kernel))) (by decide +kernel)
theorem md_X2_explore : MD mX2_explore 2 := ⟨by decide +kernel, by decide +kernel, by decide +kernel, by decide, w_4_25, w_1_9⟩
def mX2_exploreAll : MI := (yX2_exploreAll, cX2_exploreAll, 2, none)
theorem w_4_17 : (.code yX2_exploreAll cX2_exploreAll 2 none : Cond) ∈ UW := um (tb_4 _ (List.mem_of_getElem? (i := 17) (by decide +kernel))) (by decide +kernel)
theorem md_X2_exploreAll : MD mX2_exploreAll 1 := ⟨by decide +kernel, by decide +kernel, by decide +kernel, by decide, w_4_17, w_1_9⟩
def mX2_findRound : MI := (yX2_findRound, cX2_findRound, 5, none)
theorem w_4_117 : (.code yX2_findRound cX2_findRound 5 none : Cond) ∈ UW := um (tb_4 _ (List.mem_of_getElem? (i := 117) (by decide +kernel))) (by decide +kernel)
theorem md_X2_findRound : MD mX2_findRound 0 := ⟨by decide +kernel, by decide +kernel, by decide +kernel, by decide, w_4_117, w_1_9⟩
def mX2_finish : MI := (yX2_finish, cX2_finish, 6, none)
theorem w_4_75 : (.code yX2_finish cX2_finish 6 none : Cond) ∈ UW := um (tb_4 _ (List.mem_of_getElem? (i := 75) (by decide +kernel))) (by decide +kernel)
theorem md_X2_finish : MD mX2_finish 1 := ⟨by decide +kernel, by decide +kernel, by decide +kernel, by decide, w_4_75, w_1_9⟩
def mX2_followerOf : MI := (yX2_followerOf, cX2_followerOf, 4, (some .int))
theorem w_4_83 : (.code yX2_followerOf cX2_followerOf 4 (some .int) : Cond) ∈ UW := um (tb_4 _ (List.mem_of_getElem? (i := 83) (by decide +kernel))) (by decide +kernel)
theorem md_X2_followerOf : MD mX2_followerOf 2 := ⟨by decide +kernel, by decide +kernel, by decide +kernel, by decide, w_4_83, w_1_9⟩
def mX2_forget : MI := (yX2_forget, cX2_forget, 2, none)
theorem w_4_29 : (.code yX2_forget cX2_forget 2 none : Cond) ∈ UW := um (tb_4 _ (List.mem_of_getElem? (i := 29) (by decide +kernel))) (by decide +kernel)
theorem md_X2_forget : MD mX2_forget 0 := ⟨by decide +kernel, by decide +kernel, by decide +kernel, by decide, w_4_29, w_1_9⟩
def mX2_init : MI := (yX2_init, cX2_init, 1, none)
theorem w_2_61 : (.code yX2_init cX2_init 1 none : Cond) ∈ UW := um (tb_2 _ (List.mem_of_getElem? (i := 61) (by decide +kernel))) (by decide +kernel)
theorem md_X2_init : MD mX2_init 0 := ⟨by decide +kernel, by decide +kernel, by decide +kernel, by decide, w_2_61, w_1_9⟩
def mX2_isForever : MI := (yX2_isForever, cX2_isForever, 2, (some .boolean))
theorem w_4_93 : (.code yX2_isForever cX2_isForever 2 (some .boolean) : Cond) ∈ UW := um (tb_4 _ (List.mem_of_getElem? (i := 93) (by decide +kernel))) (by decide +kernel)
theorem md_X2_isForever : MD mX2_isForever 1 := ⟨by decide +kernel, by decide +kernel, by decide +kernel, by decide, w_4_93, w_1_9⟩
def mX2_lastsFrom : MI := (yX2_lastsFrom, cX2_lastsFrom, 2, (some .int))
theorem w_4_109 : (.code yX2_lastsFrom cX2_lastsFrom 2 (some .int) : Cond) ∈ UW := um (tb_4 _ (List.mem_of_getElem? (i := 109) (by decide +kernel))) (by decide +kernel)
theorem md_X2_lastsFrom : MD mX2_lastsFrom 1 := ⟨by decide +kernel, by decide +kernel, by decide +kernel, by decide, w_4_109, w_1_9⟩
def mX2_nextRun : MI := (yX2_nextRun, cX2_nextRun, 5, (some .int))
theorem w_4_101 : (.code yX2_nextRun cX2_nextRun 5 (some .int) : Cond) ∈ UW := um (tb_4 _ (List.mem_of_getElem? (i := 101) (by decide +kernel))) (by decide +kernel)
theorem md_X2_nextRun : MD mX2_nextRun 1 := ⟨by decide +kernel, by decide +kernel, by decide +kernel, by decide, w_4_101, w_1_9⟩
def mX2_numberFor : MI := (yX2_numberFor, cX2_numberFor, 4, (some .int))
theorem w_4_46 : (.code yX2_numberFor cX2_numberFor 4 (some .int) : Cond) ∈ UW := um (tb_4 _ (List.mem_of_getElem? (i := 46) (by decide +kernel))) (by decide +kernel)
theorem md_X2_numberFor : MD mX2_numberFor 2 := ⟨by decide +kernel, by decide +kernel, by decide +kernel, by decide, w_4_46, w_1_9⟩
def mX2_placeOf : MI := (yX2_placeOf, cX2_placeOf, 3, (some .int))
theorem w_4_54 : (.code yX2_placeOf cX2_placeOf 3 (some .int) : Cond) ∈ UW := um (tb_4 _ (List.mem_of_getElem? (i := 54) (by decide +kernel))) (by decide +kernel)
theorem md_X2_placeOf : MD mX2_placeOf 1 := ⟨by decide +kernel, by decide +kernel, by decide +kernel, by decide, w_4_54, w_1_9⟩
def mX2_reached : MI := (yX2_reached, cX2_reached, 1, (some .int))
theorem w_4_159 : (.code yX2_reached cX2_reached 1 (some .int) : Cond) ∈ UW := um (tb_4 _ (List.mem_of_getElem? (i := 159) (by decide +kernel))) (by decide +kernel)
theorem md_X2_reached : MD mX2_reached 0 := ⟨by decide +kernel, by decide +kernel, by decide +kernel, by decide, w_4_159, w_1_9⟩
def mX2_rowLength : MI := (yX2_rowLength, cX2_rowLength, 4, (some .int))
theorem w_4_113 : (.code yX2_rowLength cX2_rowLength 4 (some .int) : Cond) ∈ UW := um (tb_4 _ (List.mem_of_getElem? (i := 113) (by decide +kernel))) (by decide +kernel)
theorem md_X2_rowLength : MD mX2_rowLength 0 := ⟨by decide +kernel, by decide +kernel, by decide +kernel, by decide, w_4_113, w_1_9⟩
def mX2_rowPlate : MI := (yX2_rowPlate, cX2_rowPlate, 5, (some .int))
theorem w_4_97 : (.code yX2_rowPlate cX2_rowPlate 5 (some .int) : Cond) ∈ UW := um (tb_4 _ (List.mem_of_getElem? (i := 97) (by decide +kernel))) (by decide +kernel)
theorem md_X2_rowPlate : MD mX2_rowPlate 1 := ⟨by decide +kernel, by decide +kernel, by decide +kernel, by decide, w_4_97, w_1_9⟩
def mX2_safe : MI := (yX2_safe, cX2_safe, 3, (some .int))
theorem w_4_163 : (.code yX2_safe cX2_safe 3 (some .int) : Cond) ∈ UW := um (tb_4 _ (List.mem_of_getElem? (i := 163) (by decide +kernel))) (by decide +kernel)
theorem md_X2_safe : MD mX2_safe 0 := ⟨by decide +kernel, by decide +kernel, by decide +kernel, by decide, w_4_163, w_1_9⟩
def mX2_slotOf : MI := (yX2_slotOf, cX2_slotOf, 6, (some .int))
theorem w_4_33 : (.code yX2_slotOf cX2_slotOf 6 (some .int) : Cond) ∈ UW := um (tb_4 _ (List.mem_of_getElem? (i := 33) (by decide +kernel))) (by decide +kernel)
theorem md_X2_slotOf : MD mX2_slotOf 2 := ⟨by decide +kernel, by decide +kernel, by decide +kernel, by decide, w_4_33, w_1_9⟩
def mX3_add : MI := (yX3_add, cX3_add, 4, none)
theorem w_3_126 : (.code yX3_add cX3_add 4 none : Cond) ∈ UW := um (tb_3 _ (List.mem_of_getElem? (i := 126) (by decide +kernel))) (by decide +kernel)
theorem w_1_5 : (.initialized RX3 : Cond) ∈ UW := um (tb_1 _ (List.mem_of_getElem? (i := 5) (by decide +kernel))) (by decide +kernel)
theorem md_X3_add : MD mX3_add 3 := ⟨by decide +kernel, by decide +kernel, by decide +kernel, by decide, w_3_126, w_1_5⟩
def mX3_clear : MI := (yX3_clear, cX3_clear, 1, none)
theorem w_2_236 : (.code yX3_clear cX3_clear 1 none : Cond) ∈ UW := um (tb_2 _ (List.mem_of_getElem? (i := 236) (by decide +kernel))) (by decide +kernel)
theorem md_X3_clear : MD mX3_clear 0 := ⟨by decide +kernel, by decide +kernel, by decide +kernel, by decide, w_2_236, w_1_5⟩
def mX3_copyFrom : MI := (yX3_copyFrom, cX3_copyFrom, 2, none)
theorem w_3_150 : (.code yX3_copyFrom cX3_copyFrom 2 none : Cond) ∈ UW := um (tb_3 _ (List.mem_of_getElem? (i := 150) (by decide +kernel))) (by decide +kernel)
theorem md_X3_copyFrom : MD mX3_copyFrom 1 := ⟨by decide +kernel, by decide +kernel, by decide +kernel, by decide, w_3_150, w_1_5⟩
def mX3_factPart : MI := (yX3_factPart, cX3_factPart, 3, (some .int))
theorem w_5_18 : (.code yX3_factPart cX3_factPart 3 (some .int) : Cond) ∈ UW := um (tb_5 _ (List.mem_of_getElem? (i := 18) (by decide +kernel))) (by decide +kernel)
theorem md_X3_factPart : MD mX3_factPart 1 := ⟨by decide +kernel, by decide +kernel, by decide +kernel, by decide, w_5_18, w_1_5⟩
def mX3_init : MI := (yX3_init, cX3_init, 1, none)
theorem w_1_124 : (.code yX3_init cX3_init 1 none : Cond) ∈ UW := um (tb_1 _ (List.mem_of_getElem? (i := 124) (by decide +kernel))) (by decide +kernel)
theorem md_X3_init : MD mX3_init 0 := ⟨by decide +kernel, by decide +kernel, by decide +kernel, by decide, w_1_124, w_1_5⟩
def mX4_begin : MI := (yX4_begin, cX4_begin, 3, none)
theorem w_3_195 : (.code yX4_begin cX4_begin 3 none : Cond) ∈ UW := um (tb_3 _ (List.mem_of_getElem? (i := 195) (by decide +kernel))) (by decide +kernel)
theorem w_1_7 : (.initialized RX4 : Cond) ∈ UW := um (tb_1 _ (List.mem_of_getElem? (i := 7) (by decide +kernel))) (by decide +kernel)
theorem md_X4_begin : MD mX4_begin 1 := ⟨by decide +kernel, by decide +kernel, by decide +kernel, by decide, w_3_195, w_1_7⟩
def mX4_blowAt : MI := (yX4_blowAt, cX4_blowAt, 2, none)
theorem w_3_237 : (.code yX4_blowAt cX4_blowAt 2 none : Cond) ∈ UW := um (tb_3 _ (List.mem_of_getElem? (i := 237) (by decide +kernel))) (by decide +kernel)
theorem md_X4_blowAt : MD mX4_blowAt 1 := ⟨by decide +kernel, by decide +kernel, by decide +kernel, by decide, w_3_237, w_1_7⟩
def mX4_draw : MI := (yX4_draw, cX4_draw, 2, (some .int))
theorem w_5_75 : (.code yX4_draw cX4_draw 2 (some .int) : Cond) ∈ UW := um (tb_5 _ (List.mem_of_getElem? (i := 75) (by decide +kernel))) (by decide +kernel)
theorem md_X4_draw : MD mX4_draw 1 := ⟨by decide +kernel, by decide +kernel, by decide +kernel, by decide, w_5_75, w_1_7⟩
def mX4_init : MI := (yX4_init, cX4_init, 1, none)
theorem w_2_2 : (.code yX4_init cX4_init 1 none : Cond) ∈ UW := um (tb_2 _ (List.mem_of_getElem? (i := 2) (by decide +kernel))) (by decide +kernel)
theorem md_X4_init : MD mX4_init 0 := ⟨by decide +kernel, by decide +kernel, by decide +kernel, by decide, w_2_2, w_1_7⟩
def mX4_kindDrawn : MI := (yX4_kindDrawn, cX4_kindDrawn, 1, (some .int))
theorem w_5_79 : (.code yX4_kindDrawn cX4_kindDrawn 1 (some .int) : Cond) ∈ UW := um (tb_5 _ (List.mem_of_getElem? (i := 79) (by decide +kernel))) (by decide +kernel)
theorem md_X4_kindDrawn : MD mX4_kindDrawn 1 := ⟨by decide +kernel, by decide +kernel, by decide +kernel, by decide, w_5_79, w_1_7⟩
def mX4_may : MI := (yX4_may, cX4_may, 5, (some .boolean))
theorem w_3_201 : (.code yX4_may cX4_may 5 (some .boolean) : Cond) ∈ UW := um (tb_3 _ (List.mem_of_getElem? (i := 201) (by decide +kernel))) (by decide +kernel)
theorem md_X4_may : MD mX4_may 2 := ⟨by decide +kernel, by decide +kernel, by decide +kernel, by decide, w_3_201, w_1_7⟩
def mX4_mostSpun : MI := (yX4_mostSpun, cX4_mostSpun, 3, (some .int))
theorem w_5_147 : (.code yX4_mostSpun cX4_mostSpun 3 (some .int) : Cond) ∈ UW := um (tb_5 _ (List.mem_of_getElem? (i := 147) (by decide +kernel))) (by decide +kernel)
theorem md_X4_mostSpun : MD mX4_mostSpun 0 := ⟨by decide +kernel, by decide +kernel, by decide +kernel, by decide, w_5_147, w_1_7⟩
def mX4_passBeat : MI := (yX4_passBeat, cX4_passBeat, 4, none)
theorem w_3_220 : (.code yX4_passBeat cX4_passBeat 4 none : Cond) ∈ UW := um (tb_3 _ (List.mem_of_getElem? (i := 220) (by decide +kernel))) (by decide +kernel)
theorem md_X4_passBeat : MD mX4_passBeat 1 := ⟨by decide +kernel, by decide +kernel, by decide +kernel, by decide, w_3_220, w_1_7⟩
def mX4_passWay : MI := (yX4_passWay, cX4_passWay, 4, none)
theorem w_3_229 : (.code yX4_passWay cX4_passWay 4 none : Cond) ∈ UW := um (tb_3 _ (List.mem_of_getElem? (i := 229) (by decide +kernel))) (by decide +kernel)
theorem md_X4_passWay : MD mX4_passWay 1 := ⟨by decide +kernel, by decide +kernel, by decide +kernel, by decide, w_3_229, w_1_7⟩
def mX4_perform : MI := (yX4_perform, cX4_perform, 3, none)
theorem w_3_216 : (.code yX4_perform cX4_perform 3 none : Cond) ∈ UW := um (tb_3 _ (List.mem_of_getElem? (i := 216) (by decide +kernel))) (by decide +kernel)
theorem md_X4_perform : MD mX4_perform 2 := ⟨by decide +kernel, by decide +kernel, by decide +kernel, by decide, w_3_216, w_1_7⟩
def mX4_play : MI := (yX4_play, cX4_play, 5, (some .int))
theorem w_3_191 : (.code yX4_play cX4_play 5 (some .int) : Cond) ∈ UW := um (tb_3 _ (List.mem_of_getElem? (i := 191) (by decide +kernel))) (by decide +kernel)
theorem md_X4_play : MD mX4_play 3 := ⟨by decide +kernel, by decide +kernel, by decide +kernel, by decide, w_3_191, w_1_7⟩
def mX4_playDrawn : MI := (yX4_playDrawn, cX4_playDrawn, 7, none)
theorem w_5_71 : (.code yX4_playDrawn cX4_playDrawn 7 none : Cond) ∈ UW := um (tb_5 _ (List.mem_of_getElem? (i := 71) (by decide +kernel))) (by decide +kernel)
theorem md_X4_playDrawn : MD mX4_playDrawn 3 := ⟨by decide +kernel, by decide +kernel, by decide +kernel, by decide, w_5_71, w_1_7⟩
def mX4_runTo : MI := (yX4_runTo, cX4_runTo, 2, none)
theorem w_3_225 : (.code yX4_runTo cX4_runTo 2 none : Cond) ∈ UW := um (tb_3 _ (List.mem_of_getElem? (i := 225) (by decide +kernel))) (by decide +kernel)
theorem md_X4_runTo : MD mX4_runTo 1 := ⟨by decide +kernel, by decide +kernel, by decide +kernel, by decide, w_3_225, w_1_7⟩
def mX4_setUp : MI := (yX4_setUp, cX4_setUp, 2, none)
theorem w_3_233 : (.code yX4_setUp cX4_setUp 2 none : Cond) ∈ UW := um (tb_3 _ (List.mem_of_getElem? (i := 233) (by decide +kernel))) (by decide +kernel)
theorem md_X4_setUp : MD mX4_setUp 1 := ⟨by decide +kernel, by decide +kernel, by decide +kernel, by decide, w_3_233, w_1_7⟩
def mX4_standingBits : MI := (yX4_standingBits, cX4_standingBits, 3, (some .int))
theorem w_4_9 : (.code yX4_standingBits cX4_standingBits 3 (some .int) : Cond) ∈ UW := um (tb_4 _ (List.mem_of_getElem? (i := 9) (by decide +kernel))) (by decide +kernel)
theorem md_X4_standingBits : MD mX4_standingBits 0 := ⟨by decide +kernel, by decide +kernel, by decide +kernel, by decide, w_4_9, w_1_7⟩
def mX4_view : MI := (yX4_view, cX4_view, 2, (some .int))
theorem w_4_5 : (.code yX4_view cX4_view 2 (some .int) : Cond) ∈ UW := um (tb_4 _ (List.mem_of_getElem? (i := 5) (by decide +kernel))) (by decide +kernel)
theorem md_X4_view : MD mX4_view 1 := ⟨by decide +kernel, by decide +kernel, by decide +kernel, by decide, w_4_5, w_1_7⟩
def mX5_blame : MI := (yX5_blame, cX5_blame, 2, none)
theorem w_3_99 : (.code yX5_blame cX5_blame 2 none : Cond) ∈ UW := um (tb_3 _ (List.mem_of_getElem? (i := 99) (by decide +kernel))) (by decide +kernel)
theorem w_1_6 : (.initialized RX5 : Cond) ∈ UW := um (tb_1 _ (List.mem_of_getElem? (i := 6) (by decide +kernel))) (by decide +kernel)
theorem md_X5_blame : MD mX5_blame 1 := ⟨by decide +kernel, by decide +kernel, by decide +kernel, by decide, w_3_99, w_1_6⟩
def mX5_byteAt : MI := (yX5_byteAt, cX5_byteAt, 2, (some .int))
theorem w_3_4 : (.code yX5_byteAt cX5_byteAt 2 (some .int) : Cond) ∈ UW := um (tb_3 _ (List.mem_of_getElem? (i := 4) (by decide +kernel))) (by decide +kernel)
theorem md_X5_byteAt : MD mX5_byteAt 1 := ⟨by decide +kernel, by decide +kernel, by decide +kernel, by decide, w_3_4, w_1_6⟩
def mX5_canBe : MI := (yX5_canBe, cX5_canBe, 4, (some .boolean))
theorem w_3_110 : (.code yX5_canBe cX5_canBe 4 (some .boolean) : Cond) ∈ UW := um (tb_3 _ (List.mem_of_getElem? (i := 110) (by decide +kernel))) (by decide +kernel)
theorem md_X5_canBe : MD mX5_canBe 2 := ⟨by decide +kernel, by decide +kernel, by decide +kernel, by decide, w_3_110, w_1_6⟩
def mX5_canBeOfPlate : MI := (yX5_canBeOfPlate, cX5_canBeOfPlate, 2, (some .boolean))
theorem w_3_114 : (.code yX5_canBeOfPlate cX5_canBeOfPlate 2 (some .boolean) : Cond) ∈ UW := um (tb_3 _ (List.mem_of_getElem? (i := 114) (by decide +kernel))) (by decide +kernel)
theorem md_X5_canBeOfPlate : MD mX5_canBeOfPlate 1 := ⟨by decide +kernel, by decide +kernel, by decide +kernel, by decide, w_3_114, w_1_6⟩
def mX5_headOf : MI := (yX5_headOf, cX5_headOf, 5, (some .int))
theorem w_3_21 : (.code yX5_headOf cX5_headOf 5 (some .int) : Cond) ∈ UW := um (tb_3 _ (List.mem_of_getElem? (i := 21) (by decide +kernel))) (by decide +kernel)
theorem md_X5_headOf : MD mX5_headOf 1 := ⟨by decide +kernel, by decide +kernel, by decide +kernel, by decide, w_3_21, w_1_6⟩
def mX5_init : MI := (yX5_init, cX5_init, 1, none)
theorem w_1_190 : (.code yX5_init cX5_init 1 none : Cond) ∈ UW := um (tb_1 _ (List.mem_of_getElem? (i := 190) (by decide +kernel))) (by decide +kernel)
theorem md_X5_init : MD mX5_init 0 := ⟨by decide +kernel, by decide +kernel, by decide +kernel, by decide, w_1_190, w_1_6⟩
def mX5_isBlank : MI := (yX5_isBlank, cX5_isBlank, 1, (some .boolean))
theorem w_3_7 : (.code yX5_isBlank cX5_isBlank 1 (some .boolean) : Cond) ∈ UW := um (tb_3 _ (List.mem_of_getElem? (i := 7) (by decide +kernel))) (by decide +kernel)
theorem md_X5_isBlank : MD mX5_isBlank 1 := ⟨by decide +kernel, by decide +kernel, by decide +kernel, by decide, w_3_7, w_1_6⟩
def mX5_isDigit : MI := (yX5_isDigit, cX5_isDigit, 1, (some .boolean))
theorem w_3_13 : (.code yX5_isDigit cX5_isDigit 1 (some .boolean) : Cond) ∈ UW := um (tb_3 _ (List.mem_of_getElem? (i := 13) (by decide +kernel))) (by decide +kernel)
theorem md_X5_isDigit : MD mX5_isDigit 1 := ⟨by decide +kernel, by decide +kernel, by decide +kernel, by decide, w_3_13, w_1_6⟩
def mX5_isFull : MI := (yX5_isFull, cX5_isFull, 2, (some .boolean))
theorem w_3_95 : (.code yX5_isFull cX5_isFull 2 (some .boolean) : Cond) ∈ UW := um (tb_3 _ (List.mem_of_getElem? (i := 95) (by decide +kernel))) (by decide +kernel)
theorem md_X5_isFull : MD mX5_isFull 1 := ⟨by decide +kernel, by decide +kernel, by decide +kernel, by decide, w_3_95, w_1_6⟩
def mX5_isLetter : MI := (yX5_isLetter, cX5_isLetter, 1, (some .boolean))
theorem w_3_10 : (.code yX5_isLetter cX5_isLetter 1 (some .boolean) : Cond) ∈ UW := um (tb_3 _ (List.mem_of_getElem? (i := 10) (by decide +kernel))) (by decide +kernel)
theorem md_X5_isLetter : MD mX5_isLetter 1 := ⟨by decide +kernel, by decide +kernel, by decide +kernel, by decide, w_3_10, w_1_6⟩
def mX5_isWord : MI := (yX5_isWord, cX5_isWord, 3, (some .boolean))
theorem w_3_39 : (.code yX5_isWord cX5_isWord 3 (some .boolean) : Cond) ∈ UW := um (tb_3 _ (List.mem_of_getElem? (i := 39) (by decide +kernel))) (by decide +kernel)
theorem md_X5_isWord : MD mX5_isWord 1 := ⟨by decide +kernel, by decide +kernel, by decide +kernel, by decide, w_3_39, w_1_6⟩
def mX5_nextToken : MI := (yX5_nextToken, cX5_nextToken, 2, none)
theorem w_3_0 : (.code yX5_nextToken cX5_nextToken 2 none : Cond) ∈ UW := um (tb_3 _ (List.mem_of_getElem? (i := 0) (by decide +kernel))) (by decide +kernel)
theorem md_X5_nextToken : MD mX5_nextToken 0 := ⟨by decide +kernel, by decide +kernel, by decide +kernel, by decide, w_3_0, w_1_6⟩
def mX5_numberRead : MI := (yX5_numberRead, cX5_numberRead, 3, (some .int))
theorem w_3_106 : (.code yX5_numberRead cX5_numberRead 3 (some .int) : Cond) ∈ UW := um (tb_3 _ (List.mem_of_getElem? (i := 106) (by decide +kernel))) (by decide +kernel)
theorem md_X5_numberRead : MD mX5_numberRead 0 := ⟨by decide +kernel, by decide +kernel, by decide +kernel, by decide, w_3_106, w_1_6⟩
def mX5_numbersOf : MI := (yX5_numbersOf, cX5_numbersOf, 1, (some .int))
theorem w_3_102 : (.code yX5_numbersOf cX5_numbersOf 1 (some .int) : Cond) ∈ UW := um (tb_3 _ (List.mem_of_getElem? (i := 102) (by decide +kernel))) (by decide +kernel)
theorem md_X5_numbersOf : MD mX5_numbersOf 1 := ⟨by decide +kernel, by decide +kernel, by decide +kernel, by decide, w_3_102, w_1_6⟩
def mX5_readLine : MI := (yX5_readLine, cX5_readLine, 4, (some .boolean))
theorem w_3_17 : (.code yX5_readLine cX5_readLine 4 (some .boolean) : Cond) ∈ UW := um (tb_3 _ (List.mem_of_getElem? (i := 17) (by decide +kernel))) (by decide +kernel)
theorem md_X5_readLine : MD mX5_readLine 1 := ⟨by decide +kernel, by decide +kernel, by decide +kernel, by decide, w_3_17, w_1_6⟩
def mX5_readTape : MI := (yX5_readTape, cX5_readTape, 4, none)
theorem w_2_225 : (.code yX5_readTape cX5_readTape 4 none : Cond) ∈ UW := um (tb_2 _ (List.mem_of_getElem? (i := 225) (by decide +kernel))) (by decide +kernel)
theorem md_X5_readTape : MD mX5_readTape 2 := ⟨by decide +kernel, by decide +kernel, by decide +kernel, by decide, w_2_225, w_1_6⟩
def mX5_refuse : MI := (yX5_refuse, cX5_refuse, 1, (some .boolean))
theorem w_3_91 : (.code yX5_refuse cX5_refuse 1 (some .boolean) : Cond) ∈ UW := um (tb_3 _ (List.mem_of_getElem? (i := 91) (by decide +kernel))) (by decide +kernel)
theorem md_X5_refuse : MD mX5_refuse 0 := ⟨by decide +kernel, by decide +kernel, by decide +kernel, by decide, w_3_91, w_1_6⟩
def mX5_tell : MI := (yX5_tell, cX5_tell, 2, none)
theorem w_3_118 : (.code yX5_tell cX5_tell 2 none : Cond) ∈ UW := um (tb_3 _ (List.mem_of_getElem? (i := 118) (by decide +kernel))) (by decide +kernel)
theorem md_X5_tell : MD mX5_tell 1 := ⟨by decide +kernel, by decide +kernel, by decide +kernel, by decide, w_3_118, w_1_6⟩
def mX5_wordOf : MI := (yX5_wordOf, cX5_wordOf, 1, (some (.object "java/lang/String")))
theorem w_3_24 : (.code yX5_wordOf cX5_wordOf 1 (some (.object "java/lang/String")) : Cond) ∈ UW := um (tb_3 _ (List.mem_of_getElem? (i := 24) (by decide +kernel))) (by decide +kernel)
theorem md_X5_wordOf : MD mX5_wordOf 1 := ⟨by decide +kernel, by decide +kernel, by decide +kernel, by decide, w_3_24, w_1_6⟩
def mX6_bestQuestion : MI := (yX6_bestQuestion, cX6_bestQuestion, 8, (some .int))
theorem w_5_59 : (.code yX6_bestQuestion cX6_bestQuestion 8 (some .int) : Cond) ∈ UW := um (tb_5 _ (List.mem_of_getElem? (i := 59) (by decide +kernel))) (by decide +kernel)
theorem w_1_10 : (.initialized RX6 : Cond) ∈ UW := um (tb_1 _ (List.mem_of_getElem? (i := 10) (by decide +kernel))) (by decide +kernel)
theorem md_X6_bestQuestion : MD mX6_bestQuestion 1 := ⟨by decide +kernel, by decide +kernel, by decide +kernel, by decide, w_5_59, w_1_10⟩
def mX6_clear : MI := (yX6_clear, cX6_clear, 2, none)
theorem w_5_30 : (.code yX6_clear cX6_clear 2 none : Cond) ∈ UW := um (tb_5 _ (List.mem_of_getElem? (i := 30) (by decide +kernel))) (by decide +kernel)
theorem md_X6_clear : MD mX6_clear 0 := ⟨by decide +kernel, by decide +kernel, by decide +kernel, by decide, w_5_30, w_1_10⟩
def mX6_init : MI := (yX6_init, cX6_init, 1, none)
theorem w_2_132 : (.code yX6_init cX6_init 1 none : Cond) ∈ UW := um (tb_2 _ (List.mem_of_getElem? (i := 132) (by decide +kernel))) (by decide +kernel)
theorem md_X6_init : MD mX6_init 0 := ⟨by decide +kernel, by decide +kernel, by decide +kernel, by decide, w_2_132, w_1_10⟩
def mX6_isTrue : MI := (yX6_isTrue, cX6_isTrue, 6, (some .boolean))
theorem w_5_47 : (.code yX6_isTrue cX6_isTrue 6 (some .boolean) : Cond) ∈ UW := um (tb_5 _ (List.mem_of_getElem? (i := 47) (by decide +kernel))) (by decide +kernel)
theorem md_X6_isTrue : MD mX6_isTrue 2 := ⟨by decide +kernel, by decide +kernel, by decide +kernel, by decide, w_5_47, w_1_10⟩
def mX6_makeRuns : MI := (yX6_makeRuns, cX6_makeRuns, 6, (some .boolean))
theorem w_5_41 : (.code yX6_makeRuns cX6_makeRuns 6 (some .boolean) : Cond) ∈ UW := um (tb_5 _ (List.mem_of_getElem? (i := 41) (by decide +kernel))) (by decide +kernel)
theorem md_X6_makeRuns : MD mX6_makeRuns 1 := ⟨by decide +kernel, by decide +kernel, by decide +kernel, by decide, w_5_41, w_1_10⟩
def mX6_numberOfRow : MI := (yX6_numberOfRow, cX6_numberOfRow, 3, (some .int))
theorem w_5_51 : (.code yX6_numberOfRow cX6_numberOfRow 3 (some .int) : Cond) ∈ UW := um (tb_5 _ (List.mem_of_getElem? (i := 51) (by decide +kernel))) (by decide +kernel)
theorem md_X6_numberOfRow : MD mX6_numberOfRow 0 := ⟨by decide +kernel, by decide +kernel, by decide +kernel, by decide, w_5_51, w_1_10⟩
def mX6_spell : MI := (yX6_spell, cX6_spell, 6, none)
theorem w_5_36 : (.code yX6_spell cX6_spell 6 none : Cond) ∈ UW := um (tb_5 _ (List.mem_of_getElem? (i := 36) (by decide +kernel))) (by decide +kernel)
theorem md_X6_spell : MD mX6_spell 2 := ⟨by decide +kernel, by decide +kernel, by decide +kernel, by decide, w_5_36, w_1_10⟩
def mX6_sureRun : MI := (yX6_sureRun, cX6_sureRun, 2, (some .int))
theorem w_5_63 : (.code yX6_sureRun cX6_sureRun 2 (some .int) : Cond) ∈ UW := um (tb_5 _ (List.mem_of_getElem? (i := 63) (by decide +kernel))) (by decide +kernel)
theorem md_X6_sureRun : MD mX6_sureRun 1 := ⟨by decide +kernel, by decide +kernel, by decide +kernel, by decide, w_5_63, w_1_10⟩
def mX6_takeIn : MI := (yX6_takeIn, cX6_takeIn, 5, none)
theorem w_5_55 : (.code yX6_takeIn cX6_takeIn 5 none : Cond) ∈ UW := um (tb_5 _ (List.mem_of_getElem? (i := 55) (by decide +kernel))) (by decide +kernel)
theorem md_X6_takeIn : MD mX6_takeIn 1 := ⟨by decide +kernel, by decide +kernel, by decide +kernel, by decide, w_5_55, w_1_10⟩
def mX6_tally : MI := (yX6_tally, cX6_tally, 6, none)
theorem w_5_26 : (.code yX6_tally cX6_tally 6 none : Cond) ∈ UW := um (tb_5 _ (List.mem_of_getElem? (i := 26) (by decide +kernel))) (by decide +kernel)
theorem md_X6_tally : MD mX6_tally 3 := ⟨by decide +kernel, by decide +kernel, by decide +kernel, by decide, w_5_26, w_1_10⟩
def mX7_add : MI := (yX7_add, cX7_add, 3, none)
theorem w_3_130 : (.code yX7_add cX7_add 3 none : Cond) ∈ UW := um (tb_3 _ (List.mem_of_getElem? (i := 130) (by decide +kernel))) (by decide +kernel)
theorem w_1_4 : (.initialized RX7 : Cond) ∈ UW := um (tb_1 _ (List.mem_of_getElem? (i := 4) (by decide +kernel))) (by decide +kernel)
theorem md_X7_add : MD mX7_add 2 := ⟨by decide +kernel, by decide +kernel, by decide +kernel, by decide, w_3_130, w_1_4⟩
def mX7_copyFrom : MI := (yX7_copyFrom, cX7_copyFrom, 2, none)
theorem w_3_145 : (.code yX7_copyFrom cX7_copyFrom 2 none : Cond) ∈ UW := um (tb_3 _ (List.mem_of_getElem? (i := 145) (by decide +kernel))) (by decide +kernel)
theorem md_X7_copyFrom : MD mX7_copyFrom 1 := ⟨by decide +kernel, by decide +kernel, by decide +kernel, by decide, w_3_145, w_1_4⟩
def mX7_has : MI := (yX7_has, cX7_has, 2, (some .boolean))
theorem w_3_183 : (.code yX7_has cX7_has 2 (some .boolean) : Cond) ∈ UW := um (tb_3 _ (List.mem_of_getElem? (i := 183) (by decide +kernel))) (by decide +kernel)
theorem md_X7_has : MD mX7_has 1 := ⟨by decide +kernel, by decide +kernel, by decide +kernel, by decide, w_3_183, w_1_4⟩
def mX7_init : MI := (yX7_init, cX7_init, 1, none)
theorem w_1_103 : (.code yX7_init cX7_init 1 none : Cond) ∈ UW := um (tb_1 _ (List.mem_of_getElem? (i := 103) (by decide +kernel))) (by decide +kernel)
theorem md_X7_init : MD mX7_init 0 := ⟨by decide +kernel, by decide +kernel, by decide +kernel, by decide, w_1_103, w_1_4⟩
def mX8_add : MI := (yX8_add, cX8_add, 4, none)
theorem w_3_122 : (.code yX8_add cX8_add 4 none : Cond) ∈ UW := um (tb_3 _ (List.mem_of_getElem? (i := 122) (by decide +kernel))) (by decide +kernel)
theorem w_1_3 : (.initialized RX8 : Cond) ∈ UW := um (tb_1 _ (List.mem_of_getElem? (i := 3) (by decide +kernel))) (by decide +kernel)
theorem md_X8_add : MD mX8_add 3 := ⟨by decide +kernel, by decide +kernel, by decide +kernel, by decide, w_3_122, w_1_3⟩
def mX8_centre : MI := (yX8_centre, cX8_centre, 3, (some .int))
theorem w_5_122 : (.code yX8_centre cX8_centre 3 (some .int) : Cond) ∈ UW := um (tb_5 _ (List.mem_of_getElem? (i := 122) (by decide +kernel))) (by decide +kernel)
theorem md_X8_centre : MD mX8_centre 0 := ⟨by decide +kernel, by decide +kernel, by decide +kernel, by decide, w_5_122, w_1_3⟩
def mX8_clear : MI := (yX8_clear, cX8_clear, 1, none)
theorem w_2_232 : (.code yX8_clear cX8_clear 1 none : Cond) ∈ UW := um (tb_2 _ (List.mem_of_getElem? (i := 232) (by decide +kernel))) (by decide +kernel)
theorem md_X8_clear : MD mX8_clear 0 := ⟨by decide +kernel, by decide +kernel, by decide +kernel, by decide, w_2_232, w_1_3⟩
def mX8_closeCouples : MI := (yX8_closeCouples, cX8_closeCouples, 4, (some .int))
theorem w_5_99 : (.code yX8_closeCouples cX8_closeCouples 4 (some .int) : Cond) ∈ UW := um (tb_5 _ (List.mem_of_getElem? (i := 99) (by decide +kernel))) (by decide +kernel)
theorem md_X8_closeCouples : MD mX8_closeCouples 0 := ⟨by decide +kernel, by decide +kernel, by decide +kernel, by decide, w_5_99, w_1_3⟩
def mX8_copyFrom : MI := (yX8_copyFrom, cX8_copyFrom, 2, none)
theorem w_3_138 : (.code yX8_copyFrom cX8_copyFrom 2 none : Cond) ∈ UW := um (tb_3 _ (List.mem_of_getElem? (i := 138) (by decide +kernel))) (by decide +kernel)
theorem md_X8_copyFrom : MD mX8_copyFrom 1 := ⟨by decide +kernel, by decide +kernel, by decide +kernel, by decide, w_3_138, w_1_3⟩
def mX8_copySome : MI := (yX8_copySome, cX8_copySome, 4, none)
theorem w_4_149 : (.code yX8_copySome cX8_copySome 4 none : Cond) ∈ UW := um (tb_4 _ (List.mem_of_getElem? (i := 149) (by decide +kernel))) (by decide +kernel)
theorem md_X8_copySome : MD mX8_copySome 2 := ⟨by decide +kernel, by decide +kernel, by decide +kernel, by decide, w_4_149, w_1_3⟩
def mX8_falling : MI := (yX8_falling, cX8_falling, 3, (some .int))
theorem w_5_135 : (.code yX8_falling cX8_falling 3 (some .int) : Cond) ∈ UW := um (tb_5 _ (List.mem_of_getElem? (i := 135) (by decide +kernel))) (by decide +kernel)
theorem md_X8_falling : MD mX8_falling 1 := ⟨by decide +kernel, by decide +kernel, by decide +kernel, by decide, w_5_135, w_1_3⟩
def mX8_fallsBefore : MI := (yX8_fallsBefore, cX8_fallsBefore, 4, (some .int))
theorem w_5_139 : (.code yX8_fallsBefore cX8_fallsBefore 4 (some .int) : Cond) ∈ UW := um (tb_5 _ (List.mem_of_getElem? (i := 139) (by decide +kernel))) (by decide +kernel)
theorem md_X8_fallsBefore : MD mX8_fallsBefore 1 := ⟨by decide +kernel, by decide +kernel, by decide +kernel, by decide, w_5_139, w_1_3⟩
def mX8_has : MI := (yX8_has, cX8_has, 2, (some .boolean))
theorem w_3_171 : (.code yX8_has cX8_has 2 (some .boolean) : Cond) ∈ UW := um (tb_3 _ (List.mem_of_getElem? (i := 171) (by decide +kernel))) (by decide +kernel)
theorem md_X8_has : MD mX8_has 1 := ⟨by decide +kernel, by decide +kernel, by decide +kernel, by decide, w_3_171, w_1_3⟩
def mX8_init : MI := (yX8_init, cX8_init, 1, none)
theorem w_1_44 : (.code yX8_init cX8_init 1 none : Cond) ∈ UW := um (tb_1 _ (List.mem_of_getElem? (i := 44) (by decide +kernel))) (by decide +kernel)
theorem md_X8_init : MD mX8_init 0 := ⟨by decide +kernel, by decide +kernel, by decide +kernel, by decide, w_1_44, w_1_3⟩
def mX8_isLike : MI := (yX8_isLike, cX8_isLike, 3, (some .boolean))
theorem w_4_21 : (.code yX8_isLike cX8_isLike 3 (some .boolean) : Cond) ∈ UW := um (tb_4 _ (List.mem_of_getElem? (i := 21) (by decide +kernel))) (by decide +kernel)
theorem md_X8_isLike : MD mX8_isLike 1 := ⟨by decide +kernel, by decide +kernel, by decide +kernel, by decide, w_4_21, w_1_3⟩
def mX8_latePlates : MI := (yX8_latePlates, cX8_latePlates, 3, (some .int))
theorem w_5_111 : (.code yX8_latePlates cX8_latePlates 3 (some .int) : Cond) ∈ UW := um (tb_5 _ (List.mem_of_getElem? (i := 111) (by decide +kernel))) (by decide +kernel)
theorem md_X8_latePlates : MD mX8_latePlates 0 := ⟨by decide +kernel, by decide +kernel, by decide +kernel, by decide, w_5_111, w_1_3⟩
def mX8_loadPart : MI := (yX8_loadPart, cX8_loadPart, 4, (some .int))
theorem w_5_87 : (.code yX8_loadPart cX8_loadPart 4 (some .int) : Cond) ∈ UW := um (tb_5 _ (List.mem_of_getElem? (i := 87) (by decide +kernel))) (by decide +kernel)
theorem md_X8_loadPart : MD mX8_loadPart 1 := ⟨by decide +kernel, by decide +kernel, by decide +kernel, by decide, w_5_87, w_1_3⟩
def mX8_packed : MI := (yX8_packed, cX8_packed, 3, (some .int))
theorem w_4_39 : (.code yX8_packed cX8_packed 3 (some .int) : Cond) ∈ UW := um (tb_4 _ (List.mem_of_getElem? (i := 39) (by decide +kernel))) (by decide +kernel)
theorem md_X8_packed : MD mX8_packed 0 := ⟨by decide +kernel, by decide +kernel, by decide +kernel, by decide, w_4_39, w_1_3⟩
def mX8_plateFact : MI := (yX8_plateFact, cX8_plateFact, 3, (some .int))
theorem w_3_167 : (.code yX8_plateFact cX8_plateFact 3 (some .int) : Cond) ∈ UW := um (tb_3 _ (List.mem_of_getElem? (i := 167) (by decide +kernel))) (by decide +kernel)
theorem md_X8_plateFact : MD mX8_plateFact 1 := ⟨by decide +kernel, by decide +kernel, by decide +kernel, by decide, w_3_167, w_1_3⟩
def mX8_span : MI := (yX8_span, cX8_span, 4, (some .int))
theorem w_5_94 : (.code yX8_span cX8_span 4 (some .int) : Cond) ∈ UW := um (tb_5 _ (List.mem_of_getElem? (i := 94) (by decide +kernel))) (by decide +kernel)
theorem md_X8_span : MD mX8_span 0 := ⟨by decide +kernel, by decide +kernel, by decide +kernel, by decide, w_5_94, w_1_3⟩
def mX8_way : MI := (yX8_way, cX8_way, 4, (some .int))
theorem w_3_206 : (.code yX8_way cX8_way 4 (some .int) : Cond) ∈ UW := um (tb_3 _ (List.mem_of_getElem? (i := 206) (by decide +kernel))) (by decide +kernel)
theorem md_X8_way : MD mX8_way 2 := ⟨by decide +kernel, by decide +kernel, by decide +kernel, by decide, w_3_206, w_1_3⟩
def mX8_waysFrom : MI := (yX8_waysFrom, cX8_waysFrom, 4, (some .int))
theorem w_5_126 : (.code yX8_waysFrom cX8_waysFrom 4 (some .int) : Cond) ∈ UW := um (tb_5 _ (List.mem_of_getElem? (i := 126) (by decide +kernel))) (by decide +kernel)
theorem md_X8_waysFrom : MD mX8_waysFrom 1 := ⟨by decide +kernel, by decide +kernel, by decide +kernel, by decide, w_5_126, w_1_3⟩
def mX9_addBytes : MI := (yX9_addBytes, cX9_addBytes, 3, none)
theorem w_2_205 : (.code yX9_addBytes cX9_addBytes 3 none : Cond) ∈ UW := um (tb_2 _ (List.mem_of_getElem? (i := 205) (by decide +kernel))) (by decide +kernel)
theorem w_1_2 : (.initialized RX9 : Cond) ∈ UW := um (tb_1 _ (List.mem_of_getElem? (i := 2) (by decide +kernel))) (by decide +kernel)
theorem md_X9_addBytes : MD mX9_addBytes 1 := ⟨by decide +kernel, by decide +kernel, by decide +kernel, by decide, w_2_205, w_1_2⟩
def mX9_copyFrom : MI := (yX9_copyFrom, cX9_copyFrom, 3, none)
theorem w_5_163 : (.code yX9_copyFrom cX9_copyFrom 3 none : Cond) ∈ UW := um (tb_5 _ (List.mem_of_getElem? (i := 163) (by decide +kernel))) (by decide +kernel)
theorem md_X9_copyFrom : MD mX9_copyFrom 1 := ⟨by decide +kernel, by decide +kernel, by decide +kernel, by decide, w_5_163, w_1_2⟩
def mX9_has : MI := (yX9_has, cX9_has, 2, (some .boolean))
theorem w_2_221 : (.code yX9_has cX9_has 2 (some .boolean) : Cond) ∈ UW := um (tb_2 _ (List.mem_of_getElem? (i := 221) (by decide +kernel))) (by decide +kernel)
theorem md_X9_has : MD mX9_has 1 := ⟨by decide +kernel, by decide +kernel, by decide +kernel, by decide, w_2_221, w_1_2⟩
def mX9_init : MI := (yX9_init, cX9_init, 2, none)
theorem w_1_33 : (.code yX9_init cX9_init 2 none : Cond) ∈ UW := um (tb_1 _ (List.mem_of_getElem? (i := 33) (by decide +kernel))) (by decide +kernel)
theorem md_X9_init : MD mX9_init 0 := ⟨by decide +kernel, by decide +kernel, by decide +kernel, by decide, w_1_33, w_1_2⟩
def mX9_logAt : MI := (yX9_logAt, cX9_logAt, 2, (some (.object "PlateRunner$Log")))
theorem w_5_14 : (.code yX9_logAt cX9_logAt 2 (some (.object "PlateRunner$Log")) : Cond) ∈ UW := um (tb_5 _ (List.mem_of_getElem? (i := 14) (by decide +kernel))) (by decide +kernel)
theorem md_X9_logAt : MD mX9_logAt 1 := ⟨by decide +kernel, by decide +kernel, by decide +kernel, by decide, w_5_14, w_1_2⟩
def mX9_showAt : MI := (yX9_showAt, cX9_showAt, 2, (some (.object "PlateRunner$Show")))
theorem w_3_179 : (.code yX9_showAt cX9_showAt 2 (some (.object "PlateRunner$Show")) : Cond) ∈ UW := um (tb_3 _ (List.mem_of_getElem? (i := 179) (by decide +kernel))) (by decide +kernel)
theorem md_X9_showAt : MD mX9_showAt 1 := ⟨by decide +kernel, by decide +kernel, by decide +kernel, by decide, w_3_179, w_1_2⟩
def mX9_stageAt : MI := (yX9_stageAt, cX9_stageAt, 2, (some (.object "PlateRunner$Stage")))
theorem w_3_163 : (.code yX9_stageAt cX9_stageAt 2 (some (.object "PlateRunner$Stage")) : Cond) ∈ UW := um (tb_3 _ (List.mem_of_getElem? (i := 163) (by decide +kernel))) (by decide +kernel)
theorem md_X9_stageAt : MD mX9_stageAt 1 := ⟨by decide +kernel, by decide +kernel, by decide +kernel, by decide, w_3_163, w_1_2⟩
theorem w_8_141 : (.fieldLink RJ0 9 "java/lang/String" "value" "[B" : Cond) ∈ UW := um (tb_8 _ (List.mem_of_getElem? (i := 141) (by decide +kernel))) (by decide +kernel)
theorem jf_J0_9 : Cond.fieldLink RJ0 9 "java/lang/String" "value" "[B" ∈ UW := w_8_141
theorem w_8_142 : (.fieldLink RJ0 15 "java/lang/String" "coder" "B" : Cond) ∈ UW := um (tb_8 _ (List.mem_of_getElem? (i := 142) (by decide +kernel))) (by decide +kernel)
theorem jf_J0_15 : Cond.fieldLink RJ0 15 "java/lang/String" "coder" "B" ∈ UW := w_8_142
theorem w_3_48 : (.fieldLink RJ0 38 "java/lang/String" "COMPACT_STRINGS" "Z" : Cond) ∈ UW := um (tb_3 _ (List.mem_of_getElem? (i := 48) (by decide +kernel))) (by decide +kernel)
theorem jf_J0_38 : Cond.fieldLink RJ0 38 "java/lang/String" "COMPACT_STRINGS" "Z" ∈ UW := w_3_48
theorem w_3_64 : (.fieldLink RJ0 1053 "jdk/internal/util/Preconditions" "SIOOBE_FORMATTER" "Ljava/util/function/BiFunction;" : Cond) ∈ UW := um (tb_3 _ (List.mem_of_getElem? (i := 64) (by decide +kernel))) (by decide +kernel)
theorem jf_J0_1053 : Cond.fieldLink RJ0 1053 "jdk/internal/util/Preconditions" "SIOOBE_FORMATTER" "Ljava/util/function/BiFunction;" ∈ UW := w_3_64
theorem w_3_82 : (.fieldLink RJ2 44 "java/lang/StringUTF16" "$assertionsDisabled" "Z" : Cond) ∈ UW := um (tb_3 _ (List.mem_of_getElem? (i := 82) (by decide +kernel))) (by decide +kernel)
theorem jf_J2_44 : Cond.fieldLink RJ2 44 "java/lang/StringUTF16" "$assertionsDisabled" "Z" ∈ UW := w_3_82
theorem w_3_84 : (.fieldLink RJ2 59 "java/lang/StringUTF16" "HI_BYTE_SHIFT" "I" : Cond) ∈ UW := um (tb_3 _ (List.mem_of_getElem? (i := 84) (by decide +kernel))) (by decide +kernel)
theorem jf_J2_59 : Cond.fieldLink RJ2 59 "java/lang/StringUTF16" "HI_BYTE_SHIFT" "I" ∈ UW := w_3_84
theorem w_3_86 : (.fieldLink RJ2 63 "java/lang/StringUTF16" "LO_BYTE_SHIFT" "I" : Cond) ∈ UW := um (tb_3 _ (List.mem_of_getElem? (i := 86) (by decide +kernel))) (by decide +kernel)
theorem jf_J2_63 : Cond.fieldLink RJ2 63 "java/lang/StringUTF16" "LO_BYTE_SHIFT" "I" ∈ UW := w_3_86
theorem w_2_202 : (.methodLink RX11 61 yX9_addBytes : Cond) ∈ UW := um (tb_2 _ (List.mem_of_getElem? (i := 202) (by decide +kernel))) (by decide +kernel)
theorem w_2_203 : (.instanceMethod yX9_addBytes : Cond) ∈ UW := um (tb_2 _ (List.mem_of_getElem? (i := 203) (by decide +kernel))) (by decide +kernel)
theorem w_2_204 : (.selects RX9 yX9_addBytes yX9_addBytes : Cond) ∈ UW := um (tb_2 _ (List.mem_of_getElem? (i := 204) (by decide +kernel))) (by decide +kernel)
theorem vl_X11_61 : VL 0 RX11 61 mX9_addBytes 7 1 := ⟨by decide, ⟨_, rfl⟩, ⟨_, _, rfl⟩, md_X9_addBytes, w_2_202, w_2_203, w_2_204⟩
theorem w_2_214 : (.methodLink RX11 65 yX11_numberFor : Cond) ∈ UW := um (tb_2 _ (List.mem_of_getElem? (i := 214) (by decide +kernel))) (by decide +kernel)
theorem w_2_216 : (.instanceMethod yX11_numberFor : Cond) ∈ UW := um (tb_2 _ (List.mem_of_getElem? (i := 216) (by decide +kernel))) (by decide +kernel)
theorem w_101_0 : (.selects RX11 yX11_numberFor yX11_numberFor : Cond) ∈ UW := um (pv_1 _ (List.mem_of_getElem? (i := 0) (by decide +kernel))) (by decide +kernel)
theorem vl_X11_65 : VL 0 RX11 65 mX11_numberFor 9 2 := ⟨by decide, ⟨_, rfl⟩, ⟨_, _, rfl⟩, md_X11_numberFor, w_2_214, w_2_216, w_101_0⟩
theorem w_2_222 : (.methodLink RX11 75 yX5_readTape : Cond) ∈ UW := um (tb_2 _ (List.mem_of_getElem? (i := 222) (by decide +kernel))) (by decide +kernel)
theorem w_2_223 : (.instanceMethod yX5_readTape : Cond) ∈ UW := um (tb_2 _ (List.mem_of_getElem? (i := 223) (by decide +kernel))) (by decide +kernel)
theorem w_2_224 : (.selects RX5 yX5_readTape yX5_readTape : Cond) ∈ UW := um (tb_2 _ (List.mem_of_getElem? (i := 224) (by decide +kernel))) (by decide +kernel)
theorem vl_X11_75 : VL 0 RX11 75 mX5_readTape 3 2 := ⟨by decide, ⟨_, rfl⟩, ⟨_, _, rfl⟩, md_X5_readTape, w_2_222, w_2_223, w_2_224⟩
theorem w_3_131 : (.methodLink RX11 81 yX11_takeRead : Cond) ∈ UW := um (tb_3 _ (List.mem_of_getElem? (i := 131) (by decide +kernel))) (by decide +kernel)
theorem w_3_133 : (.instanceMethod yX11_takeRead : Cond) ∈ UW := um (tb_3 _ (List.mem_of_getElem? (i := 133) (by decide +kernel))) (by decide +kernel)
theorem w_101_13 : (.selects RX11 yX11_takeRead yX11_takeRead : Cond) ∈ UW := um (pv_1 _ (List.mem_of_getElem? (i := 13) (by decide +kernel))) (by decide +kernel)
theorem vl_X11_81 : VL 0 RX11 81 mX11_takeRead 9 2 := ⟨by decide, ⟨_, rfl⟩, ⟨_, _, rfl⟩, md_X11_takeRead, w_3_131, w_3_133, w_101_13⟩
theorem w_3_160 : (.methodLink RX11 85 yX9_stageAt : Cond) ∈ UW := um (tb_3 _ (List.mem_of_getElem? (i := 160) (by decide +kernel))) (by decide +kernel)
theorem w_3_161 : (.instanceMethod yX9_stageAt : Cond) ∈ UW := um (tb_3 _ (List.mem_of_getElem? (i := 161) (by decide +kernel))) (by decide +kernel)
theorem w_3_162 : (.selects RX9 yX9_stageAt yX9_stageAt : Cond) ∈ UW := um (tb_3 _ (List.mem_of_getElem? (i := 162) (by decide +kernel))) (by decide +kernel)
theorem vl_X11_85 : VL 0 RX11 85 mX9_stageAt 7 1 := ⟨by decide, ⟨_, rfl⟩, ⟨_, _, rfl⟩, md_X9_stageAt, w_3_160, w_3_161, w_3_162⟩
theorem w_3_164 : (.methodLink RX11 100 yX8_plateFact : Cond) ∈ UW := um (tb_3 _ (List.mem_of_getElem? (i := 164) (by decide +kernel))) (by decide +kernel)
theorem w_3_165 : (.instanceMethod yX8_plateFact : Cond) ∈ UW := um (tb_3 _ (List.mem_of_getElem? (i := 165) (by decide +kernel))) (by decide +kernel)
theorem w_3_166 : (.selects RX8 yX8_plateFact yX8_plateFact : Cond) ∈ UW := um (tb_3 _ (List.mem_of_getElem? (i := 166) (by decide +kernel))) (by decide +kernel)
theorem vl_X11_100 : VL 0 RX11 100 mX8_plateFact 6 1 := ⟨by decide, ⟨_, rfl⟩, ⟨_, _, rfl⟩, md_X8_plateFact, w_3_164, w_3_165, w_3_166⟩
theorem w_3_176 : (.methodLink RX11 104 yX9_showAt : Cond) ∈ UW := um (tb_3 _ (List.mem_of_getElem? (i := 176) (by decide +kernel))) (by decide +kernel)
theorem w_3_177 : (.instanceMethod yX9_showAt : Cond) ∈ UW := um (tb_3 _ (List.mem_of_getElem? (i := 177) (by decide +kernel))) (by decide +kernel)
theorem w_3_178 : (.selects RX9 yX9_showAt yX9_showAt : Cond) ∈ UW := um (tb_3 _ (List.mem_of_getElem? (i := 178) (by decide +kernel))) (by decide +kernel)
theorem vl_X11_104 : VL 0 RX11 104 mX9_showAt 7 1 := ⟨by decide, ⟨_, rfl⟩, ⟨_, _, rfl⟩, md_X9_showAt, w_3_176, w_3_177, w_3_178⟩
theorem w_3_180 : (.methodLink RX11 113 yX7_has : Cond) ∈ UW := um (tb_3 _ (List.mem_of_getElem? (i := 180) (by decide +kernel))) (by decide +kernel)
theorem w_3_181 : (.instanceMethod yX7_has : Cond) ∈ UW := um (tb_3 _ (List.mem_of_getElem? (i := 181) (by decide +kernel))) (by decide +kernel)
theorem w_3_182 : (.selects RX7 yX7_has yX7_has : Cond) ∈ UW := um (tb_3 _ (List.mem_of_getElem? (i := 182) (by decide +kernel))) (by decide +kernel)
theorem vl_X11_113 : VL 0 RX11 113 mX7_has 5 1 := ⟨by decide, ⟨_, rfl⟩, ⟨_, _, rfl⟩, md_X7_has, w_3_180, w_3_181, w_3_182⟩
theorem w_3_188 : (.methodLink RX11 124 yX4_play : Cond) ∈ UW := um (tb_3 _ (List.mem_of_getElem? (i := 188) (by decide +kernel))) (by decide +kernel)
theorem w_3_189 : (.instanceMethod yX4_play : Cond) ∈ UW := um (tb_3 _ (List.mem_of_getElem? (i := 189) (by decide +kernel))) (by decide +kernel)
theorem w_3_190 : (.selects RX4 yX4_play yX4_play : Cond) ∈ UW := um (tb_3 _ (List.mem_of_getElem? (i := 190) (by decide +kernel))) (by decide +kernel)
theorem vl_X11_124 : VL 0 RX11 124 mX4_play 2 3 := ⟨by decide, ⟨_, rfl⟩, ⟨_, _, rfl⟩, md_X4_play, w_3_188, w_3_189, w_3_190⟩
theorem w_4_2 : (.methodLink RX11 128 yX4_view : Cond) ∈ UW := um (tb_4 _ (List.mem_of_getElem? (i := 2) (by decide +kernel))) (by decide +kernel)
theorem w_4_3 : (.instanceMethod yX4_view : Cond) ∈ UW := um (tb_4 _ (List.mem_of_getElem? (i := 3) (by decide +kernel))) (by decide +kernel)
theorem w_4_4 : (.selects RX4 yX4_view yX4_view : Cond) ∈ UW := um (tb_4 _ (List.mem_of_getElem? (i := 4) (by decide +kernel))) (by decide +kernel)
theorem vl_X11_128 : VL 0 RX11 128 mX4_view 2 1 := ⟨by decide, ⟨_, rfl⟩, ⟨_, _, rfl⟩, md_X4_view, w_4_2, w_4_3, w_4_4⟩
theorem w_4_14 : (.methodLink RX11 131 yX2_exploreAll : Cond) ∈ UW := um (tb_4 _ (List.mem_of_getElem? (i := 14) (by decide +kernel))) (by decide +kernel)
theorem w_4_15 : (.instanceMethod yX2_exploreAll : Cond) ∈ UW := um (tb_4 _ (List.mem_of_getElem? (i := 15) (by decide +kernel))) (by decide +kernel)
theorem w_4_16 : (.selects RX2 yX2_exploreAll yX2_exploreAll : Cond) ∈ UW := um (tb_4 _ (List.mem_of_getElem? (i := 16) (by decide +kernel))) (by decide +kernel)
theorem vl_X11_131 : VL 0 RX11 131 mX2_exploreAll 0 1 := ⟨by decide, ⟨_, rfl⟩, ⟨_, _, rfl⟩, md_X2_exploreAll, w_4_14, w_4_15, w_4_16⟩
theorem w_4_94 : (.methodLink RX11 137 yX2_rowPlate : Cond) ∈ UW := um (tb_4 _ (List.mem_of_getElem? (i := 94) (by decide +kernel))) (by decide +kernel)
theorem w_4_95 : (.instanceMethod yX2_rowPlate : Cond) ∈ UW := um (tb_4 _ (List.mem_of_getElem? (i := 95) (by decide +kernel))) (by decide +kernel)
theorem w_4_96 : (.selects RX2 yX2_rowPlate yX2_rowPlate : Cond) ∈ UW := um (tb_4 _ (List.mem_of_getElem? (i := 96) (by decide +kernel))) (by decide +kernel)
theorem vl_X11_137 : VL 0 RX11 137 mX2_rowPlate 0 1 := ⟨by decide, ⟨_, rfl⟩, ⟨_, _, rfl⟩, md_X2_rowPlate, w_4_94, w_4_95, w_4_96⟩
theorem w_4_102 : (.methodLink RX11 140 yX2_answer : Cond) ∈ UW := um (tb_4 _ (List.mem_of_getElem? (i := 102) (by decide +kernel))) (by decide +kernel)
theorem w_4_103 : (.instanceMethod yX2_answer : Cond) ∈ UW := um (tb_4 _ (List.mem_of_getElem? (i := 103) (by decide +kernel))) (by decide +kernel)
theorem w_4_104 : (.selects RX2 yX2_answer yX2_answer : Cond) ∈ UW := um (tb_4 _ (List.mem_of_getElem? (i := 104) (by decide +kernel))) (by decide +kernel)
theorem vl_X11_140 : VL 0 RX11 140 mX2_answer 0 1 := ⟨by decide, ⟨_, rfl⟩, ⟨_, _, rfl⟩, md_X2_answer, w_4_102, w_4_103, w_4_104⟩
theorem w_4_122 : (.methodLink RX11 143 yX10_leastSpeed : Cond) ∈ UW := um (tb_4 _ (List.mem_of_getElem? (i := 122) (by decide +kernel))) (by decide +kernel)
theorem w_4_123 : (.instanceMethod yX10_leastSpeed : Cond) ∈ UW := um (tb_4 _ (List.mem_of_getElem? (i := 123) (by decide +kernel))) (by decide +kernel)
theorem w_4_124 : (.selects RX10 yX10_leastSpeed yX10_leastSpeed : Cond) ∈ UW := um (tb_4 _ (List.mem_of_getElem? (i := 124) (by decide +kernel))) (by decide +kernel)
theorem vl_X11_143 : VL 0 RX11 143 mX10_leastSpeed 8 1 := ⟨by decide, ⟨_, rfl⟩, ⟨_, _, rfl⟩, md_X10_leastSpeed, w_4_122, w_4_123, w_4_124⟩
theorem w_4_128 : (.methodLink RX11 147 yX10_startPlaces : Cond) ∈ UW := um (tb_4 _ (List.mem_of_getElem? (i := 128) (by decide +kernel))) (by decide +kernel)
theorem w_4_129 : (.instanceMethod yX10_startPlaces : Cond) ∈ UW := um (tb_4 _ (List.mem_of_getElem? (i := 129) (by decide +kernel))) (by decide +kernel)
theorem w_4_130 : (.selects RX10 yX10_startPlaces yX10_startPlaces : Cond) ∈ UW := um (tb_4 _ (List.mem_of_getElem? (i := 130) (by decide +kernel))) (by decide +kernel)
theorem vl_X11_147 : VL 0 RX11 147 mX10_startPlaces 8 1 := ⟨by decide, ⟨_, rfl⟩, ⟨_, _, rfl⟩, md_X10_startPlaces, w_4_128, w_4_129, w_4_130⟩
theorem w_4_132 : (.methodLink RX11 150 yX10_mostKept : Cond) ∈ UW := um (tb_4 _ (List.mem_of_getElem? (i := 132) (by decide +kernel))) (by decide +kernel)
theorem w_4_133 : (.instanceMethod yX10_mostKept : Cond) ∈ UW := um (tb_4 _ (List.mem_of_getElem? (i := 133) (by decide +kernel))) (by decide +kernel)
theorem w_4_134 : (.selects RX10 yX10_mostKept yX10_mostKept : Cond) ∈ UW := um (tb_4 _ (List.mem_of_getElem? (i := 134) (by decide +kernel))) (by decide +kernel)
theorem vl_X11_150 : VL 0 RX11 150 mX10_mostKept 8 1 := ⟨by decide, ⟨_, rfl⟩, ⟨_, _, rfl⟩, md_X10_mostKept, w_4_132, w_4_133, w_4_134⟩
theorem w_4_151 : (.methodLink RX11 153 yJ6_bitCount_0f7a4 : Cond) ∈ UW := um (tb_4 _ (List.mem_of_getElem? (i := 151) (by decide +kernel))) (by decide +kernel)
theorem w_4_137 : (.static yJ6_bitCount_0f7a4 : Cond) ∈ UW := um (tb_4 _ (List.mem_of_getElem? (i := 137) (by decide +kernel))) (by decide +kernel)
theorem sl_X11_153 : SL RX11 153 mJ6_bitCount_0f7a4 1 := ⟨md_J6_bitCount_0f7a4, w_4_151, w_4_137⟩
theorem w_4_152 : (.methodLink RX11 158 yX10_sparePlates : Cond) ∈ UW := um (tb_4 _ (List.mem_of_getElem? (i := 152) (by decide +kernel))) (by decide +kernel)
theorem w_4_153 : (.instanceMethod yX10_sparePlates : Cond) ∈ UW := um (tb_4 _ (List.mem_of_getElem? (i := 153) (by decide +kernel))) (by decide +kernel)
theorem w_4_154 : (.selects RX10 yX10_sparePlates yX10_sparePlates : Cond) ∈ UW := um (tb_4 _ (List.mem_of_getElem? (i := 154) (by decide +kernel))) (by decide +kernel)
theorem vl_X11_158 : VL 0 RX11 158 mX10_sparePlates 8 1 := ⟨by decide, ⟨_, rfl⟩, ⟨_, _, rfl⟩, md_X10_sparePlates, w_4_152, w_4_153, w_4_154⟩
theorem w_4_156 : (.methodLink RX11 161 yX2_reached : Cond) ∈ UW := um (tb_4 _ (List.mem_of_getElem? (i := 156) (by decide +kernel))) (by decide +kernel)
theorem w_4_157 : (.instanceMethod yX2_reached : Cond) ∈ UW := um (tb_4 _ (List.mem_of_getElem? (i := 157) (by decide +kernel))) (by decide +kernel)
theorem w_4_158 : (.selects RX2 yX2_reached yX2_reached : Cond) ∈ UW := um (tb_4 _ (List.mem_of_getElem? (i := 158) (by decide +kernel))) (by decide +kernel)
theorem vl_X11_161 : VL 0 RX11 161 mX2_reached 0 0 := ⟨by decide, ⟨_, rfl⟩, ⟨_, _, rfl⟩, md_X2_reached, w_4_156, w_4_157, w_4_158⟩
theorem w_4_160 : (.methodLink RX11 165 yX2_safe : Cond) ∈ UW := um (tb_4 _ (List.mem_of_getElem? (i := 160) (by decide +kernel))) (by decide +kernel)
theorem w_4_161 : (.instanceMethod yX2_safe : Cond) ∈ UW := um (tb_4 _ (List.mem_of_getElem? (i := 161) (by decide +kernel))) (by decide +kernel)
theorem w_4_162 : (.selects RX2 yX2_safe yX2_safe : Cond) ∈ UW := um (tb_4 _ (List.mem_of_getElem? (i := 162) (by decide +kernel))) (by decide +kernel)
theorem vl_X11_165 : VL 0 RX11 165 mX2_safe 0 0 := ⟨by decide, ⟨_, rfl⟩, ⟨_, _, rfl⟩, md_X2_safe, w_4_160, w_4_161, w_4_162⟩
theorem w_4_164 : (.methodLink RX11 168 yX11_needOfPlate : Cond) ∈ UW := um (tb_4 _ (List.mem_of_getElem? (i := 164) (by decide +kernel))) (by decide +kernel)
theorem w_4_166 : (.instanceMethod yX11_needOfPlate : Cond) ∈ UW := um (tb_4 _ (List.mem_of_getElem? (i := 166) (by decide +kernel))) (by decide +kernel)
theorem w_103_3 : (.selects RX11 yX11_needOfPlate yX11_needOfPlate : Cond) ∈ UW := um (pv_3 _ (List.mem_of_getElem? (i := 3) (by decide +kernel))) (by decide +kernel)
theorem vl_X11_168 : VL 0 RX11 168 mX11_needOfPlate 9 2 := ⟨by decide, ⟨_, rfl⟩, ⟨_, _, rfl⟩, md_X11_needOfPlate, w_4_164, w_4_166, w_103_3⟩
theorem w_4_168 : (.methodLink RX11 172 yX8_has : Cond) ∈ UW := um (tb_4 _ (List.mem_of_getElem? (i := 168) (by decide +kernel))) (by decide +kernel)
theorem w_3_169 : (.instanceMethod yX8_has : Cond) ∈ UW := um (tb_3 _ (List.mem_of_getElem? (i := 169) (by decide +kernel))) (by decide +kernel)
theorem w_3_170 : (.selects RX8 yX8_has yX8_has : Cond) ∈ UW := um (tb_3 _ (List.mem_of_getElem? (i := 170) (by decide +kernel))) (by decide +kernel)
theorem vl_X11_172 : VL 0 RX11 172 mX8_has 6 1 := ⟨by decide, ⟨_, rfl⟩, ⟨_, _, rfl⟩, md_X8_has, w_4_168, w_3_169, w_3_170⟩
theorem w_4_183 : (.methodLink RX11 173 yX2_behindFirst : Cond) ∈ UW := um (tb_4 _ (List.mem_of_getElem? (i := 183) (by decide +kernel))) (by decide +kernel)
theorem w_4_184 : (.instanceMethod yX2_behindFirst : Cond) ∈ UW := um (tb_4 _ (List.mem_of_getElem? (i := 184) (by decide +kernel))) (by decide +kernel)
theorem w_4_185 : (.selects RX2 yX2_behindFirst yX2_behindFirst : Cond) ∈ UW := um (tb_4 _ (List.mem_of_getElem? (i := 185) (by decide +kernel))) (by decide +kernel)
theorem vl_X11_173 : VL 0 RX11 173 mX2_behindFirst 0 1 := ⟨by decide, ⟨_, rfl⟩, ⟨_, _, rfl⟩, md_X2_behindFirst, w_4_183, w_4_184, w_4_185⟩
theorem w_4_187 : (.methodLink RX11 176 yX2_isForever : Cond) ∈ UW := um (tb_4 _ (List.mem_of_getElem? (i := 187) (by decide +kernel))) (by decide +kernel)
theorem w_4_91 : (.instanceMethod yX2_isForever : Cond) ∈ UW := um (tb_4 _ (List.mem_of_getElem? (i := 91) (by decide +kernel))) (by decide +kernel)
theorem w_4_92 : (.selects RX2 yX2_isForever yX2_isForever : Cond) ∈ UW := um (tb_4 _ (List.mem_of_getElem? (i := 92) (by decide +kernel))) (by decide +kernel)
theorem vl_X11_176 : VL 0 RX11 176 mX2_isForever 0 1 := ⟨by decide, ⟨_, rfl⟩, ⟨_, _, rfl⟩, md_X2_isForever, w_4_187, w_4_91, w_4_92⟩
theorem w_4_188 : (.methodLink RX11 179 yX2_lastsFrom : Cond) ∈ UW := um (tb_4 _ (List.mem_of_getElem? (i := 188) (by decide +kernel))) (by decide +kernel)
theorem w_4_107 : (.instanceMethod yX2_lastsFrom : Cond) ∈ UW := um (tb_4 _ (List.mem_of_getElem? (i := 107) (by decide +kernel))) (by decide +kernel)
theorem w_4_108 : (.selects RX2 yX2_lastsFrom yX2_lastsFrom : Cond) ∈ UW := um (tb_4 _ (List.mem_of_getElem? (i := 108) (by decide +kernel))) (by decide +kernel)
theorem vl_X11_179 : VL 0 RX11 179 mX2_lastsFrom 0 1 := ⟨by decide, ⟨_, rfl⟩, ⟨_, _, rfl⟩, md_X2_lastsFrom, w_4_188, w_4_107, w_4_108⟩
theorem w_4_193 : (.methodLink RX11 182 yX1_saving : Cond) ∈ UW := um (tb_4 _ (List.mem_of_getElem? (i := 193) (by decide +kernel))) (by decide +kernel)
theorem w_4_194 : (.static yX1_saving : Cond) ∈ UW := um (tb_4 _ (List.mem_of_getElem? (i := 194) (by decide +kernel))) (by decide +kernel)
theorem sl_X11_182 : SL RX11 182 mX1_saving 2 := ⟨md_X1_saving, w_4_193, w_4_194⟩
theorem w_4_215 : (.methodLink RX11 187 yX1_choiceOf : Cond) ∈ UW := um (tb_4 _ (List.mem_of_getElem? (i := 215) (by decide +kernel))) (by decide +kernel)
theorem w_4_216 : (.static yX1_choiceOf : Cond) ∈ UW := um (tb_4 _ (List.mem_of_getElem? (i := 216) (by decide +kernel))) (by decide +kernel)
theorem sl_X11_187 : SL RX11 187 mX1_choiceOf 1 := ⟨md_X1_choiceOf, w_4_215, w_4_216⟩
theorem w_4_218 : (.methodLink RX11 190 yX1_valueOf : Cond) ∈ UW := um (tb_4 _ (List.mem_of_getElem? (i := 218) (by decide +kernel))) (by decide +kernel)
theorem w_4_208 : (.static yX1_valueOf : Cond) ∈ UW := um (tb_4 _ (List.mem_of_getElem? (i := 208) (by decide +kernel))) (by decide +kernel)
theorem sl_X11_190 : SL RX11 190 mX1_valueOf 1 := ⟨md_X1_valueOf, w_4_218, w_4_208⟩
theorem w_4_223 : (.methodLink RX11 193 yX1_duelling : Cond) ∈ UW := um (tb_4 _ (List.mem_of_getElem? (i := 223) (by decide +kernel))) (by decide +kernel)
theorem w_4_224 : (.static yX1_duelling : Cond) ∈ UW := um (tb_4 _ (List.mem_of_getElem? (i := 224) (by decide +kernel))) (by decide +kernel)
theorem sl_X11_193 : SL RX11 193 mX1_duelling 2 := ⟨md_X1_duelling, w_4_223, w_4_224⟩
theorem w_4_237 : (.methodLink RX11 199 yX11_waysToStand : Cond) ∈ UW := um (tb_4 _ (List.mem_of_getElem? (i := 237) (by decide +kernel))) (by decide +kernel)
theorem w_4_238 : (.static yX11_waysToStand : Cond) ∈ UW := um (tb_4 _ (List.mem_of_getElem? (i := 238) (by decide +kernel))) (by decide +kernel)
theorem sl_X11_199 : SL RX11 199 mX11_waysToStand 3 := ⟨md_X11_waysToStand, w_4_237, w_4_238⟩
theorem w_5_0 : (.methodLink RX11 203 yX11_power : Cond) ∈ UW := um (tb_5 _ (List.mem_of_getElem? (i := 0) (by decide +kernel))) (by decide +kernel)
theorem w_5_1 : (.static yX11_power : Cond) ∈ UW := um (tb_5 _ (List.mem_of_getElem? (i := 1) (by decide +kernel))) (by decide +kernel)
theorem sl_X11_203 : SL RX11 203 mX11_power 2 := ⟨md_X11_power, w_5_0, w_5_1⟩
theorem w_5_3 : (.methodLink RX11 206 yX11_commonDivisor : Cond) ∈ UW := um (tb_5 _ (List.mem_of_getElem? (i := 3) (by decide +kernel))) (by decide +kernel)
theorem w_5_4 : (.static yX11_commonDivisor : Cond) ∈ UW := um (tb_5 _ (List.mem_of_getElem? (i := 4) (by decide +kernel))) (by decide +kernel)
theorem sl_X11_206 : SL RX11 206 mX11_commonDivisor 2 := ⟨md_X11_commonDivisor, w_5_3, w_5_4⟩
theorem w_5_6 : (.methodLink RX11 209 Lib.Math.max.name : Cond) ∈ UW := um (tb_5 _ (List.mem_of_getElem? (i := 6) (by decide +kernel))) (by decide +kernel)
theorem w_5_11 : (.methodLink RX11 214 yX9_logAt : Cond) ∈ UW := um (tb_5 _ (List.mem_of_getElem? (i := 11) (by decide +kernel))) (by decide +kernel)
theorem w_5_12 : (.instanceMethod yX9_logAt : Cond) ∈ UW := um (tb_5 _ (List.mem_of_getElem? (i := 12) (by decide +kernel))) (by decide +kernel)
theorem w_5_13 : (.selects RX9 yX9_logAt yX9_logAt : Cond) ∈ UW := um (tb_5 _ (List.mem_of_getElem? (i := 13) (by decide +kernel))) (by decide +kernel)
theorem vl_X11_214 : VL 0 RX11 214 mX9_logAt 7 1 := ⟨by decide, ⟨_, rfl⟩, ⟨_, _, rfl⟩, md_X9_logAt, w_5_11, w_5_12, w_5_13⟩
theorem w_5_15 : (.methodLink RX11 226 yX3_factPart : Cond) ∈ UW := um (tb_5 _ (List.mem_of_getElem? (i := 15) (by decide +kernel))) (by decide +kernel)
theorem w_5_16 : (.instanceMethod yX3_factPart : Cond) ∈ UW := um (tb_5 _ (List.mem_of_getElem? (i := 16) (by decide +kernel))) (by decide +kernel)
theorem w_5_17 : (.selects RX3 yX3_factPart yX3_factPart : Cond) ∈ UW := um (tb_5 _ (List.mem_of_getElem? (i := 17) (by decide +kernel))) (by decide +kernel)
theorem vl_X11_226 : VL 0 RX11 226 mX3_factPart 1 1 := ⟨by decide, ⟨_, rfl⟩, ⟨_, _, rfl⟩, md_X3_factPart, w_5_15, w_5_16, w_5_17⟩
theorem w_5_23 : (.methodLink RX11 229 yX6_tally : Cond) ∈ UW := um (tb_5 _ (List.mem_of_getElem? (i := 23) (by decide +kernel))) (by decide +kernel)
theorem w_5_24 : (.instanceMethod yX6_tally : Cond) ∈ UW := um (tb_5 _ (List.mem_of_getElem? (i := 24) (by decide +kernel))) (by decide +kernel)
theorem w_5_25 : (.selects RX6 yX6_tally yX6_tally : Cond) ∈ UW := um (tb_5 _ (List.mem_of_getElem? (i := 25) (by decide +kernel))) (by decide +kernel)
theorem vl_X11_229 : VL 0 RX11 229 mX6_tally 4 3 := ⟨by decide, ⟨_, rfl⟩, ⟨_, _, rfl⟩, md_X6_tally, w_5_23, w_5_24, w_5_25⟩
theorem w_5_56 : (.methodLink RX11 236 yX6_bestQuestion : Cond) ∈ UW := um (tb_5 _ (List.mem_of_getElem? (i := 56) (by decide +kernel))) (by decide +kernel)
theorem w_5_57 : (.instanceMethod yX6_bestQuestion : Cond) ∈ UW := um (tb_5 _ (List.mem_of_getElem? (i := 57) (by decide +kernel))) (by decide +kernel)
theorem w_5_58 : (.selects RX6 yX6_bestQuestion yX6_bestQuestion : Cond) ∈ UW := um (tb_5 _ (List.mem_of_getElem? (i := 58) (by decide +kernel))) (by decide +kernel)
theorem vl_X11_236 : VL 0 RX11 236 mX6_bestQuestion 4 1 := ⟨by decide, ⟨_, rfl⟩, ⟨_, _, rfl⟩, md_X6_bestQuestion, w_5_56, w_5_57, w_5_58⟩
theorem w_5_60 : (.methodLink RX11 239 yX6_sureRun : Cond) ∈ UW := um (tb_5 _ (List.mem_of_getElem? (i := 60) (by decide +kernel))) (by decide +kernel)
theorem w_5_61 : (.instanceMethod yX6_sureRun : Cond) ∈ UW := um (tb_5 _ (List.mem_of_getElem? (i := 61) (by decide +kernel))) (by decide +kernel)
theorem w_5_62 : (.selects RX6 yX6_sureRun yX6_sureRun : Cond) ∈ UW := um (tb_5 _ (List.mem_of_getElem? (i := 62) (by decide +kernel))) (by decide +kernel)
theorem vl_X11_239 : VL 0 RX11 239 mX6_sureRun 4 1 := ⟨by decide, ⟨_, rfl⟩, ⟨_, _, rfl⟩, md_X6_sureRun, w_5_60, w_5_61, w_5_62⟩
theorem w_5_68 : (.methodLink RX11 245 yX4_playDrawn : Cond) ∈ UW := um (tb_5 _ (List.mem_of_getElem? (i := 68) (by decide +kernel))) (by decide +kernel)
theorem w_5_69 : (.instanceMethod yX4_playDrawn : Cond) ∈ UW := um (tb_5 _ (List.mem_of_getElem? (i := 69) (by decide +kernel))) (by decide +kernel)
theorem w_5_70 : (.selects RX4 yX4_playDrawn yX4_playDrawn : Cond) ∈ UW := um (tb_5 _ (List.mem_of_getElem? (i := 70) (by decide +kernel))) (by decide +kernel)
theorem vl_X11_245 : VL 0 RX11 245 mX4_playDrawn 2 3 := ⟨by decide, ⟨_, rfl⟩, ⟨_, _, rfl⟩, md_X4_playDrawn, w_5_68, w_5_69, w_5_70⟩
theorem w_5_84 : (.methodLink RX11 249 yX8_loadPart : Cond) ∈ UW := um (tb_5 _ (List.mem_of_getElem? (i := 84) (by decide +kernel))) (by decide +kernel)
theorem w_5_85 : (.instanceMethod yX8_loadPart : Cond) ∈ UW := um (tb_5 _ (List.mem_of_getElem? (i := 85) (by decide +kernel))) (by decide +kernel)
theorem w_5_86 : (.selects RX8 yX8_loadPart yX8_loadPart : Cond) ∈ UW := um (tb_5 _ (List.mem_of_getElem? (i := 86) (by decide +kernel))) (by decide +kernel)
theorem vl_X11_249 : VL 0 RX11 249 mX8_loadPart 6 1 := ⟨by decide, ⟨_, rfl⟩, ⟨_, _, rfl⟩, md_X8_loadPart, w_5_84, w_5_85, w_5_86⟩
theorem w_5_89 : (.methodLink RX11 253 yX8_packed : Cond) ∈ UW := um (tb_5 _ (List.mem_of_getElem? (i := 89) (by decide +kernel))) (by decide +kernel)
theorem w_4_37 : (.instanceMethod yX8_packed : Cond) ∈ UW := um (tb_4 _ (List.mem_of_getElem? (i := 37) (by decide +kernel))) (by decide +kernel)
theorem w_4_38 : (.selects RX8 yX8_packed yX8_packed : Cond) ∈ UW := um (tb_4 _ (List.mem_of_getElem? (i := 38) (by decide +kernel))) (by decide +kernel)
theorem vl_X11_253 : VL 0 RX11 253 mX8_packed 6 0 := ⟨by decide, ⟨_, rfl⟩, ⟨_, _, rfl⟩, md_X8_packed, w_5_89, w_4_37, w_4_38⟩
theorem w_5_90 : (.methodLink RX11 256 yX0_soonest : Cond) ∈ UW := um (tb_5 _ (List.mem_of_getElem? (i := 90) (by decide +kernel))) (by decide +kernel)
theorem w_4_77 : (.static yX0_soonest : Cond) ∈ UW := um (tb_4 _ (List.mem_of_getElem? (i := 77) (by decide +kernel))) (by decide +kernel)
theorem sl_X11_256 : SL RX11 256 mX0_soonest 2 := ⟨md_X0_soonest, w_5_90, w_4_77⟩
theorem w_5_91 : (.methodLink RX11 261 yX8_span : Cond) ∈ UW := um (tb_5 _ (List.mem_of_getElem? (i := 91) (by decide +kernel))) (by decide +kernel)
theorem w_5_92 : (.instanceMethod yX8_span : Cond) ∈ UW := um (tb_5 _ (List.mem_of_getElem? (i := 92) (by decide +kernel))) (by decide +kernel)
theorem w_5_93 : (.selects RX8 yX8_span yX8_span : Cond) ∈ UW := um (tb_5 _ (List.mem_of_getElem? (i := 93) (by decide +kernel))) (by decide +kernel)
theorem vl_X11_261 : VL 0 RX11 261 mX8_span 6 0 := ⟨by decide, ⟨_, rfl⟩, ⟨_, _, rfl⟩, md_X8_span, w_5_91, w_5_92, w_5_93⟩
theorem w_5_96 : (.methodLink RX11 264 yX8_closeCouples : Cond) ∈ UW := um (tb_5 _ (List.mem_of_getElem? (i := 96) (by decide +kernel))) (by decide +kernel)
theorem w_5_97 : (.instanceMethod yX8_closeCouples : Cond) ∈ UW := um (tb_5 _ (List.mem_of_getElem? (i := 97) (by decide +kernel))) (by decide +kernel)
theorem w_5_98 : (.selects RX8 yX8_closeCouples yX8_closeCouples : Cond) ∈ UW := um (tb_5 _ (List.mem_of_getElem? (i := 98) (by decide +kernel))) (by decide +kernel)
theorem vl_X11_264 : VL 0 RX11 264 mX8_closeCouples 6 0 := ⟨by decide, ⟨_, rfl⟩, ⟨_, _, rfl⟩, md_X8_closeCouples, w_5_96, w_5_97, w_5_98⟩
theorem w_5_100 : (.methodLink RX11 267 yX10_alonePlates : Cond) ∈ UW := um (tb_5 _ (List.mem_of_getElem? (i := 100) (by decide +kernel))) (by decide +kernel)
theorem w_5_101 : (.instanceMethod yX10_alonePlates : Cond) ∈ UW := um (tb_5 _ (List.mem_of_getElem? (i := 101) (by decide +kernel))) (by decide +kernel)
theorem w_5_102 : (.selects RX10 yX10_alonePlates yX10_alonePlates : Cond) ∈ UW := um (tb_5 _ (List.mem_of_getElem? (i := 102) (by decide +kernel))) (by decide +kernel)
theorem vl_X11_267 : VL 0 RX11 267 mX10_alonePlates 8 1 := ⟨by decide, ⟨_, rfl⟩, ⟨_, _, rfl⟩, md_X10_alonePlates, w_5_100, w_5_101, w_5_102⟩
theorem w_5_104 : (.methodLink RX11 270 yX10_couplesAlone : Cond) ∈ UW := um (tb_5 _ (List.mem_of_getElem? (i := 104) (by decide +kernel))) (by decide +kernel)
theorem w_5_105 : (.instanceMethod yX10_couplesAlone : Cond) ∈ UW := um (tb_5 _ (List.mem_of_getElem? (i := 105) (by decide +kernel))) (by decide +kernel)
theorem w_5_106 : (.selects RX10 yX10_couplesAlone yX10_couplesAlone : Cond) ∈ UW := um (tb_5 _ (List.mem_of_getElem? (i := 106) (by decide +kernel))) (by decide +kernel)
theorem vl_X11_270 : VL 0 RX11 270 mX10_couplesAlone 8 1 := ⟨by decide, ⟨_, rfl⟩, ⟨_, _, rfl⟩, md_X10_couplesAlone, w_5_104, w_5_105, w_5_106⟩
theorem w_5_108 : (.methodLink RX11 273 yX8_latePlates : Cond) ∈ UW := um (tb_5 _ (List.mem_of_getElem? (i := 108) (by decide +kernel))) (by decide +kernel)
theorem w_5_109 : (.instanceMethod yX8_latePlates : Cond) ∈ UW := um (tb_5 _ (List.mem_of_getElem? (i := 109) (by decide +kernel))) (by decide +kernel)
theorem w_5_110 : (.selects RX8 yX8_latePlates yX8_latePlates : Cond) ∈ UW := um (tb_5 _ (List.mem_of_getElem? (i := 110) (by decide +kernel))) (by decide +kernel)
theorem vl_X11_273 : VL 0 RX11 273 mX8_latePlates 6 0 := ⟨by decide, ⟨_, rfl⟩, ⟨_, _, rfl⟩, md_X8_latePlates, w_5_108, w_5_109, w_5_110⟩
theorem w_5_113 : (.methodLink RX11 276 yX0_inRow : Cond) ∈ UW := um (tb_5 _ (List.mem_of_getElem? (i := 113) (by decide +kernel))) (by decide +kernel)
theorem w_5_114 : (.static yX0_inRow : Cond) ∈ UW := um (tb_5 _ (List.mem_of_getElem? (i := 114) (by decide +kernel))) (by decide +kernel)
theorem sl_X11_276 : SL RX11 276 mX0_inRow 1 := ⟨md_X0_inRow, w_5_113, w_5_114⟩
theorem w_5_119 : (.methodLink RX11 279 yX8_centre : Cond) ∈ UW := um (tb_5 _ (List.mem_of_getElem? (i := 119) (by decide +kernel))) (by decide +kernel)
theorem w_5_120 : (.instanceMethod yX8_centre : Cond) ∈ UW := um (tb_5 _ (List.mem_of_getElem? (i := 120) (by decide +kernel))) (by decide +kernel)
theorem w_5_121 : (.selects RX8 yX8_centre yX8_centre : Cond) ∈ UW := um (tb_5 _ (List.mem_of_getElem? (i := 121) (by decide +kernel))) (by decide +kernel)
theorem vl_X11_279 : VL 0 RX11 279 mX8_centre 6 0 := ⟨by decide, ⟨_, rfl⟩, ⟨_, _, rfl⟩, md_X8_centre, w_5_119, w_5_120, w_5_121⟩
theorem w_5_127 : (.methodLink RX11 282 yX8_waysFrom : Cond) ∈ UW := um (tb_5 _ (List.mem_of_getElem? (i := 127) (by decide +kernel))) (by decide +kernel)
theorem w_5_124 : (.instanceMethod yX8_waysFrom : Cond) ∈ UW := um (tb_5 _ (List.mem_of_getElem? (i := 124) (by decide +kernel))) (by decide +kernel)
theorem w_5_125 : (.selects RX8 yX8_waysFrom yX8_waysFrom : Cond) ∈ UW := um (tb_5 _ (List.mem_of_getElem? (i := 125) (by decide +kernel))) (by decide +kernel)
theorem vl_X11_282 : VL 0 RX11 282 mX8_waysFrom 6 1 := ⟨by decide, ⟨_, rfl⟩, ⟨_, _, rfl⟩, md_X8_waysFrom, w_5_127, w_5_124, w_5_125⟩
theorem w_5_128 : (.methodLink RX11 285 yX10_bestSwap : Cond) ∈ UW := um (tb_5 _ (List.mem_of_getElem? (i := 128) (by decide +kernel))) (by decide +kernel)
theorem w_5_129 : (.instanceMethod yX10_bestSwap : Cond) ∈ UW := um (tb_5 _ (List.mem_of_getElem? (i := 129) (by decide +kernel))) (by decide +kernel)
theorem w_5_130 : (.selects RX10 yX10_bestSwap yX10_bestSwap : Cond) ∈ UW := um (tb_5 _ (List.mem_of_getElem? (i := 130) (by decide +kernel))) (by decide +kernel)
theorem vl_X11_285 : VL 0 RX11 285 mX10_bestSwap 8 1 := ⟨by decide, ⟨_, rfl⟩, ⟨_, _, rfl⟩, md_X10_bestSwap, w_5_128, w_5_129, w_5_130⟩
theorem w_5_132 : (.methodLink RX11 288 yX8_falling : Cond) ∈ UW := um (tb_5 _ (List.mem_of_getElem? (i := 132) (by decide +kernel))) (by decide +kernel)
theorem w_5_133 : (.instanceMethod yX8_falling : Cond) ∈ UW := um (tb_5 _ (List.mem_of_getElem? (i := 133) (by decide +kernel))) (by decide +kernel)
theorem w_5_134 : (.selects RX8 yX8_falling yX8_falling : Cond) ∈ UW := um (tb_5 _ (List.mem_of_getElem? (i := 134) (by decide +kernel))) (by decide +kernel)
theorem vl_X11_288 : VL 0 RX11 288 mX8_falling 6 1 := ⟨by decide, ⟨_, rfl⟩, ⟨_, _, rfl⟩, md_X8_falling, w_5_132, w_5_133, w_5_134⟩
theorem w_5_144 : (.methodLink RX11 297 yX4_mostSpun : Cond) ∈ UW := um (tb_5 _ (List.mem_of_getElem? (i := 144) (by decide +kernel))) (by decide +kernel)
theorem w_5_145 : (.instanceMethod yX4_mostSpun : Cond) ∈ UW := um (tb_5 _ (List.mem_of_getElem? (i := 145) (by decide +kernel))) (by decide +kernel)
theorem w_5_146 : (.selects RX4 yX4_mostSpun yX4_mostSpun : Cond) ∈ UW := um (tb_5 _ (List.mem_of_getElem? (i := 146) (by decide +kernel))) (by decide +kernel)
theorem vl_X11_297 : VL 0 RX11 297 mX4_mostSpun 2 0 := ⟨by decide, ⟨_, rfl⟩, ⟨_, _, rfl⟩, md_X4_mostSpun, w_5_144, w_5_145, w_5_146⟩
theorem w_2_218 : (.methodLink RX11 318 yX9_has : Cond) ∈ UW := um (tb_2 _ (List.mem_of_getElem? (i := 218) (by decide +kernel))) (by decide +kernel)
theorem w_2_219 : (.instanceMethod yX9_has : Cond) ∈ UW := um (tb_2 _ (List.mem_of_getElem? (i := 219) (by decide +kernel))) (by decide +kernel)
theorem w_2_220 : (.selects RX9 yX9_has yX9_has : Cond) ∈ UW := um (tb_2 _ (List.mem_of_getElem? (i := 220) (by decide +kernel))) (by decide +kernel)
theorem vl_X11_318 : VL 0 RX11 318 mX9_has 7 1 := ⟨by decide, ⟨_, rfl⟩, ⟨_, _, rfl⟩, md_X9_has, w_2_218, w_2_219, w_2_220⟩
theorem w_5_160 : (.methodLink RX11 322 yX9_copyFrom : Cond) ∈ UW := um (tb_5 _ (List.mem_of_getElem? (i := 160) (by decide +kernel))) (by decide +kernel)
theorem w_5_161 : (.instanceMethod yX9_copyFrom : Cond) ∈ UW := um (tb_5 _ (List.mem_of_getElem? (i := 161) (by decide +kernel))) (by decide +kernel)
theorem w_5_162 : (.selects RX9 yX9_copyFrom yX9_copyFrom : Cond) ∈ UW := um (tb_5 _ (List.mem_of_getElem? (i := 162) (by decide +kernel))) (by decide +kernel)
theorem vl_X11_322 : VL 0 RX11 322 mX9_copyFrom 7 1 := ⟨by decide, ⟨_, rfl⟩, ⟨_, _, rfl⟩, md_X9_copyFrom, w_5_160, w_5_161, w_5_162⟩
theorem w_3_135 : (.methodLink RX11 334 yX8_copyFrom : Cond) ∈ UW := um (tb_3 _ (List.mem_of_getElem? (i := 135) (by decide +kernel))) (by decide +kernel)
theorem w_3_136 : (.instanceMethod yX8_copyFrom : Cond) ∈ UW := um (tb_3 _ (List.mem_of_getElem? (i := 136) (by decide +kernel))) (by decide +kernel)
theorem w_3_137 : (.selects RX8 yX8_copyFrom yX8_copyFrom : Cond) ∈ UW := um (tb_3 _ (List.mem_of_getElem? (i := 137) (by decide +kernel))) (by decide +kernel)
theorem vl_X11_334 : VL 0 RX11 334 mX8_copyFrom 6 1 := ⟨by decide, ⟨_, rfl⟩, ⟨_, _, rfl⟩, md_X8_copyFrom, w_3_135, w_3_136, w_3_137⟩
theorem w_3_142 : (.methodLink RX11 344 yX7_copyFrom : Cond) ∈ UW := um (tb_3 _ (List.mem_of_getElem? (i := 142) (by decide +kernel))) (by decide +kernel)
theorem w_3_143 : (.instanceMethod yX7_copyFrom : Cond) ∈ UW := um (tb_3 _ (List.mem_of_getElem? (i := 143) (by decide +kernel))) (by decide +kernel)
theorem w_3_144 : (.selects RX7 yX7_copyFrom yX7_copyFrom : Cond) ∈ UW := um (tb_3 _ (List.mem_of_getElem? (i := 144) (by decide +kernel))) (by decide +kernel)
theorem vl_X11_344 : VL 0 RX11 344 mX7_copyFrom 5 1 := ⟨by decide, ⟨_, rfl⟩, ⟨_, _, rfl⟩, md_X7_copyFrom, w_3_142, w_3_143, w_3_144⟩
theorem w_3_147 : (.methodLink RX11 355 yX3_copyFrom : Cond) ∈ UW := um (tb_3 _ (List.mem_of_getElem? (i := 147) (by decide +kernel))) (by decide +kernel)
theorem w_3_148 : (.instanceMethod yX3_copyFrom : Cond) ∈ UW := um (tb_3 _ (List.mem_of_getElem? (i := 148) (by decide +kernel))) (by decide +kernel)
theorem w_3_149 : (.selects RX3 yX3_copyFrom yX3_copyFrom : Cond) ∈ UW := um (tb_3 _ (List.mem_of_getElem? (i := 149) (by decide +kernel))) (by decide +kernel)
theorem vl_X11_355 : VL 0 RX11 355 mX3_copyFrom 1 1 := ⟨by decide, ⟨_, rfl⟩, ⟨_, _, rfl⟩, md_X3_copyFrom, w_3_147, w_3_148, w_3_149⟩
theorem w_4_169 : (.methodLink RX11 358 yX10_leastLife : Cond) ∈ UW := um (tb_4 _ (List.mem_of_getElem? (i := 169) (by decide +kernel))) (by decide +kernel)
theorem w_4_170 : (.instanceMethod yX10_leastLife : Cond) ∈ UW := um (tb_4 _ (List.mem_of_getElem? (i := 170) (by decide +kernel))) (by decide +kernel)
theorem w_4_171 : (.selects RX10 yX10_leastLife yX10_leastLife : Cond) ∈ UW := um (tb_4 _ (List.mem_of_getElem? (i := 171) (by decide +kernel))) (by decide +kernel)
theorem vl_X11_358 : VL 0 RX11 358 mX10_leastLife 8 2 := ⟨by decide, ⟨_, rfl⟩, ⟨_, _, rfl⟩, md_X10_leastLife, w_4_169, w_4_170, w_4_171⟩
theorem w_4_175 : (.methodLink RX11 361 yX10_movePlaces : Cond) ∈ UW := um (tb_4 _ (List.mem_of_getElem? (i := 175) (by decide +kernel))) (by decide +kernel)
theorem w_4_176 : (.instanceMethod yX10_movePlaces : Cond) ∈ UW := um (tb_4 _ (List.mem_of_getElem? (i := 176) (by decide +kernel))) (by decide +kernel)
theorem w_4_177 : (.selects RX10 yX10_movePlaces yX10_movePlaces : Cond) ∈ UW := um (tb_4 _ (List.mem_of_getElem? (i := 177) (by decide +kernel))) (by decide +kernel)
theorem vl_X11_361 : VL 0 RX11 361 mX10_movePlaces 8 2 := ⟨by decide, ⟨_, rfl⟩, ⟨_, _, rfl⟩, md_X10_movePlaces, w_4_175, w_4_176, w_4_177⟩
theorem w_4_60 : (.methodLink RX0 9 yX0_leftOf : Cond) ∈ UW := um (tb_4 _ (List.mem_of_getElem? (i := 60) (by decide +kernel))) (by decide +kernel)
theorem w_4_61 : (.static yX0_leftOf : Cond) ∈ UW := um (tb_4 _ (List.mem_of_getElem? (i := 61) (by decide +kernel))) (by decide +kernel)
theorem sl_X0_9 : SL RX0 9 mX0_leftOf 2 := ⟨md_X0_leftOf, w_4_60, w_4_61⟩
theorem w_4_69 : (.methodLink RX0 15 Lib.Math.max.name : Cond) ∈ UW := um (tb_4 _ (List.mem_of_getElem? (i := 69) (by decide +kernel))) (by decide +kernel)
theorem w_4_79 : (.methodLink RX0 26 Lib.Math.min.name : Cond) ∈ UW := um (tb_4 _ (List.mem_of_getElem? (i := 79) (by decide +kernel))) (by decide +kernel)
theorem w_4_59 : (.methodLink RX0 33 yX8_way : Cond) ∈ UW := um (tb_4 _ (List.mem_of_getElem? (i := 59) (by decide +kernel))) (by decide +kernel)
theorem w_3_204 : (.instanceMethod yX8_way : Cond) ∈ UW := um (tb_3 _ (List.mem_of_getElem? (i := 204) (by decide +kernel))) (by decide +kernel)
theorem w_3_205 : (.selects RX8 yX8_way yX8_way : Cond) ∈ UW := um (tb_3 _ (List.mem_of_getElem? (i := 205) (by decide +kernel))) (by decide +kernel)
theorem vl_X0_33 : VL 0 RX0 33 mX8_way 6 2 := ⟨by decide, ⟨_, rfl⟩, ⟨_, _, rfl⟩, md_X8_way, w_4_59, w_3_204, w_3_205⟩
theorem w_4_66 : (.methodLink RX0 36 yX0_passed : Cond) ∈ UW := um (tb_4 _ (List.mem_of_getElem? (i := 66) (by decide +kernel))) (by decide +kernel)
theorem w_4_67 : (.static yX0_passed : Cond) ∈ UW := um (tb_4 _ (List.mem_of_getElem? (i := 67) (by decide +kernel))) (by decide +kernel)
theorem sl_X0_36 : SL RX0 36 mX0_passed 2 := ⟨md_X0_passed, w_4_66, w_4_67⟩
theorem w_4_70 : (.methodLink RX0 42 yX0_with : Cond) ∈ UW := um (tb_4 _ (List.mem_of_getElem? (i := 70) (by decide +kernel))) (by decide +kernel)
theorem w_4_41 : (.static yX0_with : Cond) ∈ UW := um (tb_4 _ (List.mem_of_getElem? (i := 41) (by decide +kernel))) (by decide +kernel)
theorem sl_X0_42 : SL RX0 42 mX0_with 3 := ⟨md_X0_with, w_4_70, w_4_41⟩
theorem w_5_116 : (.methodLink RX0 49 yX8_packed : Cond) ∈ UW := um (tb_5 _ (List.mem_of_getElem? (i := 116) (by decide +kernel))) (by decide +kernel)
theorem vl_X0_49 : VL 0 RX0 49 mX8_packed 6 0 := ⟨by decide, ⟨_, rfl⟩, ⟨_, _, rfl⟩, md_X8_packed, w_5_116, w_4_37, w_4_38⟩
theorem w_5_117 : (.methodLink RX0 53 yX0_isKept : Cond) ∈ UW := um (tb_5 _ (List.mem_of_getElem? (i := 117) (by decide +kernel))) (by decide +kernel)
theorem w_4_57 : (.static yX0_isKept : Cond) ∈ UW := um (tb_4 _ (List.mem_of_getElem? (i := 57) (by decide +kernel))) (by decide +kernel)
theorem sl_X0_53 : SL RX0 53 mX0_isKept 4 := ⟨md_X0_isKept, w_5_117, w_4_57⟩
theorem w_5_118 : (.methodLink RX0 57 yX0_behindRun : Cond) ∈ UW := um (tb_5 _ (List.mem_of_getElem? (i := 118) (by decide +kernel))) (by decide +kernel)
theorem w_4_64 : (.static yX0_behindRun : Cond) ∈ UW := um (tb_4 _ (List.mem_of_getElem? (i := 64) (by decide +kernel))) (by decide +kernel)
theorem sl_X0_57 : SL RX0 57 mX0_behindRun 4 := ⟨md_X0_behindRun, w_5_118, w_4_64⟩
theorem w_4_196 : (.methodLink RX1 17 yX8_packed : Cond) ∈ UW := um (tb_4 _ (List.mem_of_getElem? (i := 196) (by decide +kernel))) (by decide +kernel)
theorem vl_X1_17 : VL 0 RX1 17 mX8_packed 6 0 := ⟨by decide, ⟨_, rfl⟩, ⟨_, _, rfl⟩, md_X8_packed, w_4_196, w_4_37, w_4_38⟩
theorem w_4_197 : (.methodLink RX1 21 Lib.Math.min.name : Cond) ∈ UW := um (tb_4 _ (List.mem_of_getElem? (i := 197) (by decide +kernel))) (by decide +kernel)
theorem w_4_198 : (.methodLink RX1 27 yX1_bestSaving : Cond) ∈ UW := um (tb_4 _ (List.mem_of_getElem? (i := 198) (by decide +kernel))) (by decide +kernel)
theorem w_4_199 : (.static yX1_bestSaving : Cond) ∈ UW := um (tb_4 _ (List.mem_of_getElem? (i := 199) (by decide +kernel))) (by decide +kernel)
theorem sl_X1_27 : SL RX1 27 mX1_bestSaving 4 := ⟨md_X1_bestSaving, w_4_198, w_4_199⟩
theorem w_4_226 : (.methodLink RX1 31 yX1_bestAgainst : Cond) ∈ UW := um (tb_4 _ (List.mem_of_getElem? (i := 226) (by decide +kernel))) (by decide +kernel)
theorem w_4_227 : (.static yX1_bestAgainst : Cond) ∈ UW := um (tb_4 _ (List.mem_of_getElem? (i := 227) (by decide +kernel))) (by decide +kernel)
theorem sl_X1_31 : SL RX1 31 mX1_bestAgainst 4 := ⟨md_X1_bestAgainst, w_4_226, w_4_227⟩
theorem w_4_201 : (.methodLink RX1 34 yX0_standing : Cond) ∈ UW := um (tb_4 _ (List.mem_of_getElem? (i := 201) (by decide +kernel))) (by decide +kernel)
theorem w_4_202 : (.static yX0_standing : Cond) ∈ UW := um (tb_4 _ (List.mem_of_getElem? (i := 202) (by decide +kernel))) (by decide +kernel)
theorem sl_X1_34 : SL RX1 34 mX0_standing 1 := ⟨md_X0_standing, w_4_201, w_4_202⟩
theorem w_4_204 : (.methodLink RX1 40 yX1_rated : Cond) ∈ UW := um (tb_4 _ (List.mem_of_getElem? (i := 204) (by decide +kernel))) (by decide +kernel)
theorem w_4_205 : (.static yX1_rated : Cond) ∈ UW := um (tb_4 _ (List.mem_of_getElem? (i := 205) (by decide +kernel))) (by decide +kernel)
theorem sl_X1_40 : SL RX1 40 mX1_rated 2 := ⟨md_X1_rated, w_4_204, w_4_205⟩
theorem w_4_207 : (.methodLink RX1 46 yX1_valueOf : Cond) ∈ UW := um (tb_4 _ (List.mem_of_getElem? (i := 207) (by decide +kernel))) (by decide +kernel)
theorem sl_X1_46 : SL RX1 46 mX1_valueOf 1 := ⟨md_X1_valueOf, w_4_207, w_4_208⟩
theorem w_4_210 : (.methodLink RX1 53 yX8_way : Cond) ∈ UW := um (tb_4 _ (List.mem_of_getElem? (i := 210) (by decide +kernel))) (by decide +kernel)
theorem vl_X1_53 : VL 0 RX1 53 mX8_way 6 2 := ⟨by decide, ⟨_, rfl⟩, ⟨_, _, rfl⟩, md_X8_way, w_4_210, w_3_204, w_3_205⟩
theorem w_4_211 : (.methodLink RX1 56 yX0_leftOf : Cond) ∈ UW := um (tb_4 _ (List.mem_of_getElem? (i := 211) (by decide +kernel))) (by decide +kernel)
theorem sl_X1_56 : SL RX1 56 mX0_leftOf 2 := ⟨md_X0_leftOf, w_4_211, w_4_61⟩
theorem w_4_212 : (.methodLink RX1 59 yX0_behindRun : Cond) ∈ UW := um (tb_4 _ (List.mem_of_getElem? (i := 212) (by decide +kernel))) (by decide +kernel)
theorem sl_X1_59 : SL RX1 59 mX0_behindRun 4 := ⟨md_X0_behindRun, w_4_212, w_4_64⟩
theorem w_4_213 : (.methodLink RX1 62 Lib.Math.max.name : Cond) ∈ UW := um (tb_4 _ (List.mem_of_getElem? (i := 213) (by decide +kernel))) (by decide +kernel)
theorem w_4_214 : (.methodLink RX1 65 yX0_passed : Cond) ∈ UW := um (tb_4 _ (List.mem_of_getElem? (i := 214) (by decide +kernel))) (by decide +kernel)
theorem sl_X1_65 : SL RX1 65 mX0_passed 2 := ⟨md_X0_passed, w_4_214, w_4_67⟩
theorem w_4_229 : (.methodLink RX1 68 yX1_worstOf : Cond) ∈ UW := um (tb_4 _ (List.mem_of_getElem? (i := 229) (by decide +kernel))) (by decide +kernel)
theorem w_4_230 : (.static yX1_worstOf : Cond) ∈ UW := um (tb_4 _ (List.mem_of_getElem? (i := 230) (by decide +kernel))) (by decide +kernel)
theorem sl_X1_68 : SL RX1 68 mX1_worstOf 4 := ⟨md_X1_worstOf, w_4_229, w_4_230⟩
theorem w_4_232 : (.methodLink RX1 71 yX0_with : Cond) ∈ UW := um (tb_4 _ (List.mem_of_getElem? (i := 232) (by decide +kernel))) (by decide +kernel)
theorem sl_X1_71 : SL RX1 71 mX0_with 3 := ⟨md_X0_with, w_4_232, w_4_41⟩
theorem w_4_18 : (.methodLink RX2 70 yX8_isLike : Cond) ∈ UW := um (tb_4 _ (List.mem_of_getElem? (i := 18) (by decide +kernel))) (by decide +kernel)
theorem w_4_19 : (.instanceMethod yX8_isLike : Cond) ∈ UW := um (tb_4 _ (List.mem_of_getElem? (i := 19) (by decide +kernel))) (by decide +kernel)
theorem w_4_20 : (.selects RX8 yX8_isLike yX8_isLike : Cond) ∈ UW := um (tb_4 _ (List.mem_of_getElem? (i := 20) (by decide +kernel))) (by decide +kernel)
theorem vl_X2_70 : VL 0 RX2 70 mX8_isLike 6 1 := ⟨by decide, ⟨_, rfl⟩, ⟨_, _, rfl⟩, md_X8_isLike, w_4_18, w_4_19, w_4_20⟩
theorem w_4_22 : (.methodLink RX2 74 yX2_explore : Cond) ∈ UW := um (tb_4 _ (List.mem_of_getElem? (i := 22) (by decide +kernel))) (by decide +kernel)
theorem w_4_23 : (.instanceMethod yX2_explore : Cond) ∈ UW := um (tb_4 _ (List.mem_of_getElem? (i := 23) (by decide +kernel))) (by decide +kernel)
theorem w_4_24 : (.selects RX2 yX2_explore yX2_explore : Cond) ∈ UW := um (tb_4 _ (List.mem_of_getElem? (i := 24) (by decide +kernel))) (by decide +kernel)
theorem vl_X2_74 : VL 0 RX2 74 mX2_explore 0 2 := ⟨by decide, ⟨_, rfl⟩, ⟨_, _, rfl⟩, md_X2_explore, w_4_22, w_4_23, w_4_24⟩
theorem w_4_26 : (.methodLink RX2 78 yX2_forget : Cond) ∈ UW := um (tb_4 _ (List.mem_of_getElem? (i := 26) (by decide +kernel))) (by decide +kernel)
theorem w_4_28 : (.instanceMethod yX2_forget : Cond) ∈ UW := um (tb_4 _ (List.mem_of_getElem? (i := 28) (by decide +kernel))) (by decide +kernel)
theorem w_102_7 : (.selects RX2 yX2_forget yX2_forget : Cond) ∈ UW := um (pv_2 _ (List.mem_of_getElem? (i := 7) (by decide +kernel))) (by decide +kernel)
theorem vl_X2_78 : VL 0 RX2 78 mX2_forget 0 0 := ⟨by decide, ⟨_, rfl⟩, ⟨_, _, rfl⟩, md_X2_forget, w_4_26, w_4_28, w_102_7⟩
theorem w_4_35 : (.methodLink RX2 81 yX8_copyFrom : Cond) ∈ UW := um (tb_4 _ (List.mem_of_getElem? (i := 35) (by decide +kernel))) (by decide +kernel)
theorem vl_X2_81 : VL 0 RX2 81 mX8_copyFrom 6 1 := ⟨by decide, ⟨_, rfl⟩, ⟨_, _, rfl⟩, md_X8_copyFrom, w_4_35, w_3_136, w_3_137⟩
theorem w_4_36 : (.methodLink RX2 85 yX8_packed : Cond) ∈ UW := um (tb_4 _ (List.mem_of_getElem? (i := 36) (by decide +kernel))) (by decide +kernel)
theorem vl_X2_85 : VL 0 RX2 85 mX8_packed 6 0 := ⟨by decide, ⟨_, rfl⟩, ⟨_, _, rfl⟩, md_X8_packed, w_4_36, w_4_37, w_4_38⟩
theorem w_4_43 : (.methodLink RX2 89 yX2_numberFor : Cond) ∈ UW := um (tb_4 _ (List.mem_of_getElem? (i := 43) (by decide +kernel))) (by decide +kernel)
theorem w_4_45 : (.instanceMethod yX2_numberFor : Cond) ∈ UW := um (tb_4 _ (List.mem_of_getElem? (i := 45) (by decide +kernel))) (by decide +kernel)
theorem w_102_9 : (.selects RX2 yX2_numberFor yX2_numberFor : Cond) ∈ UW := um (pv_2 _ (List.mem_of_getElem? (i := 9) (by decide +kernel))) (by decide +kernel)
theorem vl_X2_89 : VL 0 RX2 89 mX2_numberFor 0 2 := ⟨by decide, ⟨_, rfl⟩, ⟨_, _, rfl⟩, md_X2_numberFor, w_4_43, w_4_45, w_102_9⟩
theorem w_4_47 : (.methodLink RX2 93 yX2_enter : Cond) ∈ UW := um (tb_4 _ (List.mem_of_getElem? (i := 47) (by decide +kernel))) (by decide +kernel)
theorem w_4_49 : (.instanceMethod yX2_enter : Cond) ∈ UW := um (tb_4 _ (List.mem_of_getElem? (i := 49) (by decide +kernel))) (by decide +kernel)
theorem w_102_10 : (.selects RX2 yX2_enter yX2_enter : Cond) ∈ UW := um (pv_2 _ (List.mem_of_getElem? (i := 10) (by decide +kernel))) (by decide +kernel)
theorem vl_X2_93 : VL 0 RX2 93 mX2_enter 0 1 := ⟨by decide, ⟨_, rfl⟩, ⟨_, _, rfl⟩, md_X2_enter, w_4_47, w_4_49, w_102_10⟩
theorem w_4_71 : (.constant RX2 97 1000000 : Cond) ∈ UW := um (tb_4 _ (List.mem_of_getElem? (i := 71) (by decide +kernel))) (by decide +kernel)
theorem w_4_72 : (.methodLink RX2 101 yX2_finish : Cond) ∈ UW := um (tb_4 _ (List.mem_of_getElem? (i := 72) (by decide +kernel))) (by decide +kernel)
theorem w_4_74 : (.instanceMethod yX2_finish : Cond) ∈ UW := um (tb_4 _ (List.mem_of_getElem? (i := 74) (by decide +kernel))) (by decide +kernel)
theorem w_102_12 : (.selects RX2 yX2_finish yX2_finish : Cond) ∈ UW := um (pv_2 _ (List.mem_of_getElem? (i := 12) (by decide +kernel))) (by decide +kernel)
theorem vl_X2_101 : VL 0 RX2 101 mX2_finish 0 1 := ⟨by decide, ⟨_, rfl⟩, ⟨_, _, rfl⟩, md_X2_finish, w_4_72, w_4_74, w_102_12⟩
theorem w_4_80 : (.methodLink RX2 104 yX2_followerOf : Cond) ∈ UW := um (tb_4 _ (List.mem_of_getElem? (i := 80) (by decide +kernel))) (by decide +kernel)
theorem w_4_82 : (.instanceMethod yX2_followerOf : Cond) ∈ UW := um (tb_4 _ (List.mem_of_getElem? (i := 82) (by decide +kernel))) (by decide +kernel)
theorem w_102_13 : (.selects RX2 yX2_followerOf yX2_followerOf : Cond) ∈ UW := um (pv_2 _ (List.mem_of_getElem? (i := 13) (by decide +kernel))) (by decide +kernel)
theorem vl_X2_104 : VL 0 RX2 104 mX2_followerOf 0 2 := ⟨by decide, ⟨_, rfl⟩, ⟨_, _, rfl⟩, md_X2_followerOf, w_4_80, w_4_82, w_102_13⟩
theorem w_4_90 : (.methodLink RX2 107 yX2_isForever : Cond) ∈ UW := um (tb_4 _ (List.mem_of_getElem? (i := 90) (by decide +kernel))) (by decide +kernel)
theorem vl_X2_107 : VL 0 RX2 107 mX2_isForever 0 1 := ⟨by decide, ⟨_, rfl⟩, ⟨_, _, rfl⟩, md_X2_isForever, w_4_90, w_4_91, w_4_92⟩
theorem w_4_30 : (.methodLink RX2 111 yX2_slotOf : Cond) ∈ UW := um (tb_4 _ (List.mem_of_getElem? (i := 30) (by decide +kernel))) (by decide +kernel)
theorem w_4_32 : (.instanceMethod yX2_slotOf : Cond) ∈ UW := um (tb_4 _ (List.mem_of_getElem? (i := 32) (by decide +kernel))) (by decide +kernel)
theorem w_102_8 : (.selects RX2 yX2_slotOf yX2_slotOf : Cond) ∈ UW := um (pv_2 _ (List.mem_of_getElem? (i := 8) (by decide +kernel))) (by decide +kernel)
theorem vl_X2_111 : VL 0 RX2 111 mX2_slotOf 0 2 := ⟨by decide, ⟨_, rfl⟩, ⟨_, _, rfl⟩, md_X2_slotOf, w_4_30, w_4_32, w_102_8⟩
theorem w_4_34 : (.constant RX2 114 (-1640531535) : Cond) ∈ UW := um (tb_4 _ (List.mem_of_getElem? (i := 34) (by decide +kernel))) (by decide +kernel)
theorem w_4_51 : (.methodLink RX2 115 yX2_placeOf : Cond) ∈ UW := um (tb_4 _ (List.mem_of_getElem? (i := 51) (by decide +kernel))) (by decide +kernel)
theorem w_4_53 : (.instanceMethod yX2_placeOf : Cond) ∈ UW := um (tb_4 _ (List.mem_of_getElem? (i := 53) (by decide +kernel))) (by decide +kernel)
