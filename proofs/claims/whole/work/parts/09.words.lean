theorem tw_124 : Cond.initialized "ForestCourts$Table" ∈ TT := in_tb (tb_1 (List.mem_of_getElem? (i := 2) rfl)) rfl
theorem tw_125 : Cond.initialized "java/lang/Math" ∈ TT := in_tb (tb_1 (List.mem_of_getElem? (i := 3) rfl)) rfl
theorem tw_142 : Cond.initialized "java/util/Arrays" ∈ TT := in_tb (tb_1 (List.mem_of_getElem? (i := 20) rfl)) rfl
theorem tw_143 : Cond.initialized "java/lang/System" ∈ TT := in_tb (tb_1 (List.mem_of_getElem? (i := 21) rfl)) rfl
theorem tw_164 : Cond.methodLink "ForestCourts$Table" 18 ⟨"java/lang/Math", "max", "(II)I"⟩ ∈ TT := in_tb (tb_1 (List.mem_of_getElem? (i := 42) rfl)) rfl
theorem tw_165 : Cond.static ⟨"java/lang/Math", "max", "(II)I"⟩ ∈ TT := in_tb (tb_1 (List.mem_of_getElem? (i := 43) rfl)) rfl
theorem tw_166 : Cond.code ⟨"java/lang/Math", "max", "(II)I"⟩ prog_21_method_65_code 2 (Option.some FieldType.int) ∈ TT := in_tb (tb_1 (List.mem_of_getElem? (i := 44) rfl)) rfl
theorem tw_167 : Cond.fieldLink "ForestCourts$Table" 9 "ForestCourts$Table" "width" "I" ∈ TT := in_tb (tb_1 (List.mem_of_getElem? (i := 45) rfl)) rfl
theorem tw_168 : Cond.fieldLink "ForestCourts$Table" 15 "ForestCourts$Table" "limit" "I" ∈ TT := in_tb (tb_1 (List.mem_of_getElem? (i := 46) rfl)) rfl
theorem tw_169 : Cond.fieldLink "ForestCourts$Table" 24 "ForestCourts$Table" "cells" "[I" ∈ TT := in_tb (tb_1 (List.mem_of_getElem? (i := 47) rfl)) rfl
theorem tw_170 : Cond.fieldLink "ForestCourts$Table" 28 "ForestCourts$Table" "rows" "I" ∈ TT := in_tb (tb_1 (List.mem_of_getElem? (i := 48) rfl)) rfl
theorem tw_171 : Cond.laysFinal "ForestCourts$Table" "ForestCourts$Table" "width" "I" ∈ TT := in_tb (tb_1 (List.mem_of_getElem? (i := 49) rfl)) rfl
theorem tw_173 : Cond.laysFinal "ForestCourts$Table" "ForestCourts$Table" "limit" "I" ∈ TT := in_tb (tb_1 (List.mem_of_getElem? (i := 51) rfl)) rfl
theorem tw_175 : Cond.lays "ForestCourts$Table" "ForestCourts$Table" "cells" "[I" ∈ TT := in_tb (tb_1 (List.mem_of_getElem? (i := 53) rfl)) rfl
theorem tw_177 : Cond.lays "ForestCourts$Table" "ForestCourts$Table" "rows" "I" ∈ TT := in_tb (tb_1 (List.mem_of_getElem? (i := 55) rfl)) rfl
theorem tw_180 : Cond.arrayClass FieldType.int ∈ TT := in_tb (tb_1 (List.mem_of_getElem? (i := 58) rfl)) rfl
theorem tw_197 : Cond.laysFinal "ForestCourts$Ground" "ForestCourts$Ground" "marks" "LForestCourts$Table;" ∈ TT := in_tb (tb_1 (List.mem_of_getElem? (i := 75) rfl)) rfl
theorem tw_199 : Cond.laysFinal "ForestCourts$Ground" "ForestCourts$Ground" "rings" "LForestCourts$Table;" ∈ TT := in_tb (tb_1 (List.mem_of_getElem? (i := 77) rfl)) rfl
theorem tw_201 : Cond.laysFinal "ForestCourts$Ground" "ForestCourts$Ground" "row" "[I" ∈ TT := in_tb (tb_1 (List.mem_of_getElem? (i := 79) rfl)) rfl
theorem tw_203 : Cond.lays "ForestCourts$Ground" "ForestCourts$Ground" "strip" "I" ∈ TT := in_tb (tb_1 (List.mem_of_getElem? (i := 81) rfl)) rfl
theorem tw_220 : Cond.laysFinal "ForestCourts$Search" "ForestCourts$Search" "ground" "LForestCourts$Ground;" ∈ TT := in_tb (tb_1 (List.mem_of_getElem? (i := 98) rfl)) rfl
theorem tw_222 : Cond.laysFinal "ForestCourts$Search" "ForestCourts$Search" "names" "[I" ∈ TT := in_tb (tb_1 (List.mem_of_getElem? (i := 100) rfl)) rfl
theorem tw_224 : Cond.laysFinal "ForestCourts$Search" "ForestCourts$Search" "row" "[I" ∈ TT := in_tb (tb_1 (List.mem_of_getElem? (i := 102) rfl)) rfl
theorem tw_226 : Cond.laysFinal "ForestCourts$Search" "ForestCourts$Search" "best" "[I" ∈ TT := in_tb (tb_1 (List.mem_of_getElem? (i := 104) rfl)) rfl
theorem tw_228 : Cond.lays "ForestCourts$Search" "ForestCourts$Search" "size" "I" ∈ TT := in_tb (tb_1 (List.mem_of_getElem? (i := 106) rfl)) rfl
theorem tw_230 : Cond.lays "ForestCourts$Search" "ForestCourts$Search" "shortest" "I" ∈ TT := in_tb (tb_1 (List.mem_of_getElem? (i := 108) rfl)) rfl
theorem tw_232 : Cond.lays "ForestCourts$Search" "ForestCourts$Search" "found" "I" ∈ TT := in_tb (tb_1 (List.mem_of_getElem? (i := 110) rfl)) rfl
theorem tw_258 : Cond.laysFinal "ForestCourts$Reader" "ForestCourts$Reader" "tape" "LForestCourts$Table;" ∈ TT := in_tb (tb_1 (List.mem_of_getElem? (i := 136) rfl)) rfl
theorem tw_260 : Cond.laysFinal "ForestCourts$Reader" "ForestCourts$Reader" "clauses" "LForestCourts$Table;" ∈ TT := in_tb (tb_1 (List.mem_of_getElem? (i := 138) rfl)) rfl
theorem tw_262 : Cond.laysFinal "ForestCourts$Reader" "ForestCourts$Reader" "code" "LForestCourts$Table;" ∈ TT := in_tb (tb_1 (List.mem_of_getElem? (i := 140) rfl)) rfl
theorem tw_264 : Cond.lays "ForestCourts$Reader" "ForestCourts$Reader" "end" "I" ∈ TT := in_tb (tb_1 (List.mem_of_getElem? (i := 142) rfl)) rfl
theorem tw_266 : Cond.lays "ForestCourts$Reader" "ForestCourts$Reader" "at" "I" ∈ TT := in_tb (tb_1 (List.mem_of_getElem? (i := 144) rfl)) rfl
theorem tw_268 : Cond.lays "ForestCourts$Reader" "ForestCourts$Reader" "text" "I" ∈ TT := in_tb (tb_1 (List.mem_of_getElem? (i := 146) rfl)) rfl
theorem tw_270 : Cond.lays "ForestCourts$Reader" "ForestCourts$Reader" "fault" "I" ∈ TT := in_tb (tb_1 (List.mem_of_getElem? (i := 148) rfl)) rfl
theorem tw_272 : Cond.lays "ForestCourts$Reader" "ForestCourts$Reader" "place" "I" ∈ TT := in_tb (tb_1 (List.mem_of_getElem? (i := 150) rfl)) rfl
theorem tw_286 : Cond.laysFinal "ForestCourts$Laws" "ForestCourts$Laws" "texts" "LForestCourts$Table;" ∈ TT := in_tb (tb_1 (List.mem_of_getElem? (i := 164) rfl)) rfl
theorem tw_288 : Cond.laysFinal "ForestCourts$Laws" "ForestCourts$Laws" "clauses" "LForestCourts$Table;" ∈ TT := in_tb (tb_1 (List.mem_of_getElem? (i := 166) rfl)) rfl
theorem tw_290 : Cond.laysFinal "ForestCourts$Laws" "ForestCourts$Laws" "code" "LForestCourts$Table;" ∈ TT := in_tb (tb_1 (List.mem_of_getElem? (i := 168) rfl)) rfl
theorem tw_292 : Cond.laysFinal "ForestCourts$Laws" "ForestCourts$Laws" "reader" "LForestCourts$Reader;" ∈ TT := in_tb (tb_1 (List.mem_of_getElem? (i := 170) rfl)) rfl
theorem tw_294 : Cond.laysFinal "ForestCourts$Laws" "ForestCourts$Laws" "held" "[I" ∈ TT := in_tb (tb_1 (List.mem_of_getElem? (i := 172) rfl)) rfl
theorem tw_296 : Cond.lays "ForestCourts$Laws" "ForestCourts$Laws" "faultPlace" "I" ∈ TT := in_tb (tb_1 (List.mem_of_getElem? (i := 174) rfl)) rfl
theorem tw_298 : Cond.lays "ForestCourts$Laws" "ForestCourts$Laws" "word" "I" ∈ TT := in_tb (tb_1 (List.mem_of_getElem? (i := 176) rfl)) rfl
theorem tw_300 : Cond.lays "ForestCourts$Laws" "ForestCourts$Laws" "saidFine" "I" ∈ TT := in_tb (tb_1 (List.mem_of_getElem? (i := 178) rfl)) rfl
theorem tw_314 : Cond.laysFinal "ForestCourts$People" "ForestCourts$People" "rows" "LForestCourts$Table;" ∈ TT := in_tb (tb_1 (List.mem_of_getElem? (i := 192) rfl)) rfl
theorem tw_330 : Cond.laysFinal "ForestCourts$Claims" "ForestCourts$Claims" "rows" "LForestCourts$Table;" ∈ TT := in_tb (tb_1 (List.mem_of_getElem? (i := 208) rfl)) rfl
theorem tw_332 : Cond.laysFinal "ForestCourts$Claims" "ForestCourts$Claims" "events" "LForestCourts$Table;" ∈ TT := in_tb (tb_1 (List.mem_of_getElem? (i := 210) rfl)) rfl
theorem tw_334 : Cond.laysFinal "ForestCourts$Claims" "ForestCourts$Claims" "people" "LForestCourts$People;" ∈ TT := in_tb (tb_1 (List.mem_of_getElem? (i := 212) rfl)) rfl
theorem tw_336 : Cond.laysFinal "ForestCourts$Claims" "ForestCourts$Claims" "laws" "LForestCourts$Laws;" ∈ TT := in_tb (tb_1 (List.mem_of_getElem? (i := 214) rfl)) rfl
theorem tw_365 : Cond.laysFinal "ForestCourts$Courts" "ForestCourts$Courts" "wardens" "LForestCourts$Table;" ∈ TT := in_tb (tb_2 (List.mem_of_getElem? (i := 3) rfl)) rfl
theorem tw_367 : Cond.laysFinal "ForestCourts$Courts" "ForestCourts$Courts" "deeds" "LForestCourts$Table;" ∈ TT := in_tb (tb_2 (List.mem_of_getElem? (i := 5) rfl)) rfl
theorem tw_369 : Cond.laysFinal "ForestCourts$Courts" "ForestCourts$Courts" "presentments" "LForestCourts$Table;" ∈ TT := in_tb (tb_2 (List.mem_of_getElem? (i := 7) rfl)) rfl
theorem tw_371 : Cond.laysFinal "ForestCourts$Courts" "ForestCourts$Courts" "ground" "LForestCourts$Ground;" ∈ TT := in_tb (tb_2 (List.mem_of_getElem? (i := 9) rfl)) rfl
theorem tw_373 : Cond.laysFinal "ForestCourts$Courts" "ForestCourts$Courts" "laws" "LForestCourts$Laws;" ∈ TT := in_tb (tb_2 (List.mem_of_getElem? (i := 11) rfl)) rfl
theorem tw_375 : Cond.laysFinal "ForestCourts$Courts" "ForestCourts$Courts" "people" "LForestCourts$People;" ∈ TT := in_tb (tb_2 (List.mem_of_getElem? (i := 13) rfl)) rfl
theorem tw_377 : Cond.laysFinal "ForestCourts$Courts" "ForestCourts$Courts" "claims" "LForestCourts$Claims;" ∈ TT := in_tb (tb_2 (List.mem_of_getElem? (i := 15) rfl)) rfl
theorem tw_379 : Cond.laysFinal "ForestCourts$Courts" "ForestCourts$Courts" "facts" "[I" ∈ TT := in_tb (tb_2 (List.mem_of_getElem? (i := 17) rfl)) rfl
theorem tw_381 : Cond.laysFinal "ForestCourts$Courts" "ForestCourts$Courts" "every" "[I" ∈ TT := in_tb (tb_2 (List.mem_of_getElem? (i := 19) rfl)) rfl
theorem tw_383 : Cond.lays "ForestCourts$Courts" "ForestCourts$Courts" "changeDay" "I" ∈ TT := in_tb (tb_2 (List.mem_of_getElem? (i := 21) rfl)) rfl
theorem tw_385 : Cond.lays "ForestCourts$Courts" "ForestCourts$Courts" "textsThen" "I" ∈ TT := in_tb (tb_2 (List.mem_of_getElem? (i := 23) rfl)) rfl
theorem tw_387 : Cond.lays "ForestCourts$Courts" "ForestCourts$Courts" "today" "I" ∈ TT := in_tb (tb_2 (List.mem_of_getElem? (i := 25) rfl)) rfl
theorem tw_389 : Cond.lays "ForestCourts$Courts" "ForestCourts$Courts" "chest" "I" ∈ TT := in_tb (tb_2 (List.mem_of_getElem? (i := 27) rfl)) rfl
theorem tw_408 : Cond.laysFinal "ForestCourts$Rolls" "ForestCourts$Rolls" "entries" "LForestCourts$Table;" ∈ TT := in_tb (tb_2 (List.mem_of_getElem? (i := 46) rfl)) rfl
theorem tw_410 : Cond.laysFinal "ForestCourts$Rolls" "ForestCourts$Rolls" "listed" "[I" ∈ TT := in_tb (tb_2 (List.mem_of_getElem? (i := 48) rfl)) rfl
theorem tw_412 : Cond.laysFinal "ForestCourts$Rolls" "ForestCourts$Rolls" "against" "[I" ∈ TT := in_tb (tb_2 (List.mem_of_getElem? (i := 50) rfl)) rfl
theorem tw_414 : Cond.laysFinal "ForestCourts$Rolls" "ForestCourts$Rolls" "least" "[I" ∈ TT := in_tb (tb_2 (List.mem_of_getElem? (i := 52) rfl)) rfl
theorem tw_416 : Cond.laysFinal "ForestCourts$Rolls" "ForestCourts$Rolls" "order" "[I" ∈ TT := in_tb (tb_2 (List.mem_of_getElem? (i := 54) rfl)) rfl
theorem tw_418 : Cond.lays "ForestCourts$Rolls" "ForestCourts$Rolls" "size" "I" ∈ TT := in_tb (tb_2 (List.mem_of_getElem? (i := 56) rfl)) rfl
theorem tw_420 : Cond.lays "ForestCourts$Rolls" "ForestCourts$Rolls" "tooMany" "Z" ∈ TT := in_tb (tb_2 (List.mem_of_getElem? (i := 58) rfl)) rfl
theorem tw_422 : Cond.lays "ForestCourts$Rolls" "ForestCourts$Rolls" "stale" "Z" ∈ TT := in_tb (tb_2 (List.mem_of_getElem? (i := 60) rfl)) rfl
theorem tw_444 : Cond.laysFinal "ForestCourts$Patrols" "ForestCourts$Patrols" "wardens" "LForestCourts$Table;" ∈ TT := in_tb (tb_2 (List.mem_of_getElem? (i := 82) rfl)) rfl
theorem tw_446 : Cond.laysFinal "ForestCourts$Patrols" "ForestCourts$Patrols" "spots" "LForestCourts$Table;" ∈ TT := in_tb (tb_2 (List.mem_of_getElem? (i := 84) rfl)) rfl
theorem tw_448 : Cond.laysFinal "ForestCourts$Patrols" "ForestCourts$Patrols" "path" "[I" ∈ TT := in_tb (tb_2 (List.mem_of_getElem? (i := 86) rfl)) rfl
theorem tw_450 : Cond.laysFinal "ForestCourts$Patrols" "ForestCourts$Patrols" "firstGoes" "[Z" ∈ TT := in_tb (tb_2 (List.mem_of_getElem? (i := 88) rfl)) rfl
theorem tw_452 : Cond.laysFinal "ForestCourts$Patrols" "ForestCourts$Patrols" "secondGoes" "[Z" ∈ TT := in_tb (tb_2 (List.mem_of_getElem? (i := 90) rfl)) rfl
theorem tw_454 : Cond.laysFinal "ForestCourts$Patrols" "ForestCourts$Patrols" "given" "[I" ∈ TT := in_tb (tb_2 (List.mem_of_getElem? (i := 92) rfl)) rfl
theorem tw_456 : Cond.laysFinal "ForestCourts$Patrols" "ForestCourts$Patrols" "tried" "[I" ∈ TT := in_tb (tb_2 (List.mem_of_getElem? (i := 94) rfl)) rfl
theorem tw_458 : Cond.lays "ForestCourts$Patrols" "ForestCourts$Patrols" "worth" "I" ∈ TT := in_tb (tb_2 (List.mem_of_getElem? (i := 96) rfl)) rfl
theorem tw_460 : Cond.lays "ForestCourts$Patrols" "ForestCourts$Patrols" "stale" "Z" ∈ TT := in_tb (tb_2 (List.mem_of_getElem? (i := 98) rfl)) rfl
theorem tw_476 : Cond.laysFinal "ForestCourts$Woods" "ForestCourts$Woods" "rows" "LForestCourts$Table;" ∈ TT := in_tb (tb_2 (List.mem_of_getElem? (i := 114) rfl)) rfl
theorem tw_478 : Cond.laysFinal "ForestCourts$Woods" "ForestCourts$Woods" "takings" "LForestCourts$Table;" ∈ TT := in_tb (tb_2 (List.mem_of_getElem? (i := 116) rfl)) rfl
theorem tw_491 : Cond.laysFinal "ForestCourts" "ForestCourts" "tape" "LForestCourts$Table;" ∈ TT := in_tb (tb_2 (List.mem_of_getElem? (i := 129) rfl)) rfl
theorem tw_493 : Cond.laysFinal "ForestCourts" "ForestCourts" "ground" "LForestCourts$Ground;" ∈ TT := in_tb (tb_2 (List.mem_of_getElem? (i := 131) rfl)) rfl
theorem tw_495 : Cond.laysFinal "ForestCourts" "ForestCourts" "search" "LForestCourts$Search;" ∈ TT := in_tb (tb_2 (List.mem_of_getElem? (i := 133) rfl)) rfl
theorem tw_497 : Cond.laysFinal "ForestCourts" "ForestCourts" "laws" "LForestCourts$Laws;" ∈ TT := in_tb (tb_2 (List.mem_of_getElem? (i := 135) rfl)) rfl
theorem tw_499 : Cond.laysFinal "ForestCourts" "ForestCourts" "people" "LForestCourts$People;" ∈ TT := in_tb (tb_2 (List.mem_of_getElem? (i := 137) rfl)) rfl
theorem tw_501 : Cond.laysFinal "ForestCourts" "ForestCourts" "claims" "LForestCourts$Claims;" ∈ TT := in_tb (tb_2 (List.mem_of_getElem? (i := 139) rfl)) rfl
theorem tw_503 : Cond.laysFinal "ForestCourts" "ForestCourts" "courts" "LForestCourts$Courts;" ∈ TT := in_tb (tb_2 (List.mem_of_getElem? (i := 141) rfl)) rfl
theorem tw_505 : Cond.laysFinal "ForestCourts" "ForestCourts" "rolls" "LForestCourts$Rolls;" ∈ TT := in_tb (tb_2 (List.mem_of_getElem? (i := 143) rfl)) rfl
theorem tw_507 : Cond.laysFinal "ForestCourts" "ForestCourts" "patrols" "LForestCourts$Patrols;" ∈ TT := in_tb (tb_2 (List.mem_of_getElem? (i := 145) rfl)) rfl
theorem tw_509 : Cond.laysFinal "ForestCourts" "ForestCourts" "woods" "LForestCourts$Woods;" ∈ TT := in_tb (tb_2 (List.mem_of_getElem? (i := 147) rfl)) rfl
theorem tw_528 : Cond.methodLink "ForestCourts$Table" 31 ⟨"ForestCourts$Table", "isFull", "()Z"⟩ ∈ TT := in_tb (tb_2 (List.mem_of_getElem? (i := 166) rfl)) rfl
theorem tw_529 : Cond.instanceMethod ⟨"ForestCourts$Table", "isFull", "()Z"⟩ ∈ TT := in_tb (tb_2 (List.mem_of_getElem? (i := 167) rfl)) rfl
theorem tw_530 : Cond.selects "ForestCourts$Table" ⟨"ForestCourts$Table", "isFull", "()Z"⟩ ⟨"ForestCourts$Table", "isFull", "()Z"⟩ ∈ TT := in_tb (tb_2 (List.mem_of_getElem? (i := 168) rfl)) rfl
theorem tw_531 : Cond.code ⟨"ForestCourts$Table", "isFull", "()Z"⟩ prog_11_method_4_code 1 (Option.some FieldType.boolean) ∈ TT := in_tb (tb_2 (List.mem_of_getElem? (i := 169) rfl)) rfl
theorem tw_532 : Cond.methodLink "ForestCourts$Table" 35 ⟨"java/util/Arrays", "copyOf", "([II)[I"⟩ ∈ TT := in_tb (tb_2 (List.mem_of_getElem? (i := 170) rfl)) rfl
theorem tw_533 : Cond.static ⟨"java/util/Arrays", "copyOf", "([II)[I"⟩ ∈ TT := in_tb (tb_2 (List.mem_of_getElem? (i := 171) rfl)) rfl
theorem tw_534 : Cond.code ⟨"java/util/Arrays", "copyOf", "([II)[I"⟩ prog_28_method_123_code 3 (Option.some (FieldType.array FieldType.int)) ∈ TT := in_tb (tb_2 (List.mem_of_getElem? (i := 172) rfl)) rfl
theorem tw_542 : Cond.methodLink "java/util/Arrays" 304 ⟨"java/lang/Math", "min", "(II)I"⟩ ∈ TT := in_tb (tb_2 (List.mem_of_getElem? (i := 180) rfl)) rfl
theorem tw_543 : Cond.static ⟨"java/lang/Math", "min", "(II)I"⟩ ∈ TT := in_tb (tb_2 (List.mem_of_getElem? (i := 181) rfl)) rfl
theorem tw_545 : Cond.methodLink "java/util/Arrays" 150 ⟨"java/lang/System", "arraycopy", "(Ljava/lang/Object;ILjava/lang/Object;II)V"⟩ ∈ TT := in_tb (tb_2 (List.mem_of_getElem? (i := 183) rfl)) rfl
theorem tw_546 : Cond.static ⟨"java/lang/System", "arraycopy", "(Ljava/lang/Object;ILjava/lang/Object;II)V"⟩ ∈ TT := in_tb (tb_2 (List.mem_of_getElem? (i := 184) rfl)) rfl
theorem tw_547 : Cond.native ⟨"java/lang/System", "arraycopy", "(Ljava/lang/Object;ILjava/lang/Object;II)V"⟩ ∈ TT := in_tb (tb_2 (List.mem_of_getElem? (i := 185) rfl)) rfl
theorem tw_548 : Cond.methodLink "ForestCourts$Table" 41 ⟨"ForestCourts$Table", "put", "(III)V"⟩ ∈ TT := in_tb (tb_2 (List.mem_of_getElem? (i := 186) rfl)) rfl
theorem tw_549 : Cond.instanceMethod ⟨"ForestCourts$Table", "put", "(III)V"⟩ ∈ TT := in_tb (tb_2 (List.mem_of_getElem? (i := 187) rfl)) rfl
theorem tw_550 : Cond.selects "ForestCourts$Table" ⟨"ForestCourts$Table", "put", "(III)V"⟩ ⟨"ForestCourts$Table", "put", "(III)V"⟩ ∈ TT := in_tb (tb_2 (List.mem_of_getElem? (i := 188) rfl)) rfl
theorem tw_551 : Cond.code ⟨"ForestCourts$Table", "put", "(III)V"⟩ prog_11_method_8_code 5 (Option.none : Option FieldType) ∈ TT := in_tb (tb_2 (List.mem_of_getElem? (i := 189) rfl)) rfl
theorem tw_587 : Cond.instanceMethod ⟨"ForestCourts$Table", "get", "(II)I"⟩ ∈ TT := in_tb (tb_2 (List.mem_of_getElem? (i := 225) rfl)) rfl
theorem tw_588 : Cond.selects "ForestCourts$Table" ⟨"ForestCourts$Table", "get", "(II)I"⟩ ⟨"ForestCourts$Table", "get", "(II)I"⟩ ∈ TT := in_tb (tb_2 (List.mem_of_getElem? (i := 226) rfl)) rfl
theorem tw_589 : Cond.code ⟨"ForestCourts$Table", "get", "(II)I"⟩ prog_11_method_7_code 4 (Option.some FieldType.int) ∈ TT := in_tb (tb_2 (List.mem_of_getElem? (i := 227) rfl)) rfl
theorem tw_898 : Cond.methodLink "ForestCourts$Table" 45 ⟨"ForestCourts$Table", "get", "(II)I"⟩ ∈ TT := in_tb (tb_4 (List.mem_of_getElem? (i := 56) rfl)) rfl
theorem tw_1676 : Cond.lays "ForestCourtsModel" "ForestCourtsModel" "thrown" "I" ∈ TT := in_tb (tb_7 (List.mem_of_getElem? (i := 114) rfl)) rfl
theorem tw_1678 : Cond.lays "ForestCourtsModel" "ForestCourtsModel" "today" "I" ∈ TT := in_tb (tb_7 (List.mem_of_getElem? (i := 116) rfl)) rfl
theorem tw_1680 : Cond.lays "ForestCourtsModel" "ForestCourtsModel" "marks" "I" ∈ TT := in_tb (tb_7 (List.mem_of_getElem? (i := 118) rfl)) rfl
theorem tw_1682 : Cond.laysFinal "ForestCourtsModel" "ForestCourtsModel" "nameOf" "[I" ∈ TT := in_tb (tb_7 (List.mem_of_getElem? (i := 120) rfl)) rfl
theorem tw_1684 : Cond.laysFinal "ForestCourtsModel" "ForestCourtsModel" "markX" "[I" ∈ TT := in_tb (tb_7 (List.mem_of_getElem? (i := 122) rfl)) rfl
theorem tw_1686 : Cond.laysFinal "ForestCourtsModel" "ForestCourtsModel" "markY" "[I" ∈ TT := in_tb (tb_7 (List.mem_of_getElem? (i := 124) rfl)) rfl
theorem tw_1688 : Cond.laysFinal "ForestCourtsModel" "ForestCourtsModel" "tape" "[B" ∈ TT := in_tb (tb_7 (List.mem_of_getElem? (i := 126) rfl)) rfl
theorem tw_1690 : Cond.lays "ForestCourtsModel" "ForestCourtsModel" "taped" "I" ∈ TT := in_tb (tb_7 (List.mem_of_getElem? (i := 128) rfl)) rfl
theorem tw_1692 : Cond.laysFinal "ForestCourtsModel" "ForestCourtsModel" "row" "[I" ∈ TT := in_tb (tb_7 (List.mem_of_getElem? (i := 130) rfl)) rfl
theorem tw_1694 : Cond.lays "ForestCourtsModel" "ForestCourtsModel" "rowLong" "I" ∈ TT := in_tb (tb_7 (List.mem_of_getElem? (i := 132) rfl)) rfl
theorem tw_1696 : Cond.lays "ForestCourtsModel" "ForestCourtsModel" "rings" "I" ∈ TT := in_tb (tb_7 (List.mem_of_getElem? (i := 134) rfl)) rfl
theorem tw_1698 : Cond.lays "ForestCourtsModel" "ForestCourtsModel" "strip" "I" ∈ TT := in_tb (tb_7 (List.mem_of_getElem? (i := 136) rfl)) rfl
theorem tw_1700 : Cond.laysFinal "ForestCourtsModel" "ForestCourtsModel" "ringMarks" "[I" ∈ TT := in_tb (tb_7 (List.mem_of_getElem? (i := 138) rfl)) rfl
theorem tw_1702 : Cond.laysFinal "ForestCourtsModel" "ForestCourtsModel" "ringLong" "[I" ∈ TT := in_tb (tb_7 (List.mem_of_getElem? (i := 140) rfl)) rfl
theorem tw_1704 : Cond.laysFinal "ForestCourtsModel" "ForestCourtsModel" "ringFrom" "[I" ∈ TT := in_tb (tb_7 (List.mem_of_getElem? (i := 142) rfl)) rfl
theorem tw_1706 : Cond.laysFinal "ForestCourtsModel" "ForestCourtsModel" "ringTill" "[I" ∈ TT := in_tb (tb_7 (List.mem_of_getElem? (i := 144) rfl)) rfl
theorem tw_1708 : Cond.laysFinal "ForestCourtsModel" "ForestCourtsModel" "wanted" "[I" ∈ TT := in_tb (tb_7 (List.mem_of_getElem? (i := 146) rfl)) rfl
theorem tw_1710 : Cond.laysFinal "ForestCourtsModel" "ForestCourtsModel" "bestWalk" "[I" ∈ TT := in_tb (tb_7 (List.mem_of_getElem? (i := 148) rfl)) rfl
theorem tw_1712 : Cond.lays "ForestCourtsModel" "ForestCourtsModel" "walkedLong" "I" ∈ TT := in_tb (tb_7 (List.mem_of_getElem? (i := 150) rfl)) rfl
theorem tw_1714 : Cond.lays "ForestCourtsModel" "ForestCourtsModel" "walks" "I" ∈ TT := in_tb (tb_7 (List.mem_of_getElem? (i := 152) rfl)) rfl
theorem tw_1716 : Cond.lays "ForestCourtsModel" "ForestCourtsModel" "bestLength" "I" ∈ TT := in_tb (tb_7 (List.mem_of_getElem? (i := 154) rfl)) rfl
theorem tw_1718 : Cond.lays "ForestCourtsModel" "ForestCourtsModel" "texts" "I" ∈ TT := in_tb (tb_7 (List.mem_of_getElem? (i := 156) rfl)) rfl
theorem tw_1720 : Cond.lays "ForestCourtsModel" "ForestCourtsModel" "size" "I" ∈ TT := in_tb (tb_7 (List.mem_of_getElem? (i := 158) rfl)) rfl
theorem tw_1722 : Cond.lays "ForestCourtsModel" "ForestCourtsModel" "at" "I" ∈ TT := in_tb (tb_7 (List.mem_of_getElem? (i := 160) rfl)) rfl
theorem tw_1724 : Cond.lays "ForestCourtsModel" "ForestCourtsModel" "fault" "I" ∈ TT := in_tb (tb_7 (List.mem_of_getElem? (i := 162) rfl)) rfl
theorem tw_1726 : Cond.lays "ForestCourtsModel" "ForestCourtsModel" "place" "I" ∈ TT := in_tb (tb_7 (List.mem_of_getElem? (i := 164) rfl)) rfl
theorem tw_1728 : Cond.lays "ForestCourtsModel" "ForestCourtsModel" "open" "I" ∈ TT := in_tb (tb_7 (List.mem_of_getElem? (i := 166) rfl)) rfl
theorem tw_1730 : Cond.lays "ForestCourtsModel" "ForestCourtsModel" "codes" "I" ∈ TT := in_tb (tb_7 (List.mem_of_getElem? (i := 168) rfl)) rfl
theorem tw_1732 : Cond.laysFinal "ForestCourtsModel" "ForestCourtsModel" "textFrom" "[I" ∈ TT := in_tb (tb_7 (List.mem_of_getElem? (i := 170) rfl)) rfl
theorem tw_1734 : Cond.laysFinal "ForestCourtsModel" "ForestCourtsModel" "clauseMany" "[I" ∈ TT := in_tb (tb_7 (List.mem_of_getElem? (i := 172) rfl)) rfl
theorem tw_1736 : Cond.laysFinal "ForestCourtsModel" "ForestCourtsModel" "kind" "[I" ∈ TT := in_tb (tb_7 (List.mem_of_getElem? (i := 174) rfl)) rfl
theorem tw_1738 : Cond.laysFinal "ForestCourtsModel" "ForestCourtsModel" "what" "[I" ∈ TT := in_tb (tb_7 (List.mem_of_getElem? (i := 176) rfl)) rfl
theorem tw_1740 : Cond.laysFinal "ForestCourtsModel" "ForestCourtsModel" "begin" "[I" ∈ TT := in_tb (tb_7 (List.mem_of_getElem? (i := 178) rfl)) rfl
theorem tw_1742 : Cond.laysFinal "ForestCourtsModel" "ForestCourtsModel" "second" "[I" ∈ TT := in_tb (tb_7 (List.mem_of_getElem? (i := 180) rfl)) rfl
theorem tw_1744 : Cond.laysFinal "ForestCourtsModel" "ForestCourtsModel" "third" "[I" ∈ TT := in_tb (tb_7 (List.mem_of_getElem? (i := 182) rfl)) rfl
theorem tw_1746 : Cond.laysFinal "ForestCourtsModel" "ForestCourtsModel" "code" "[I" ∈ TT := in_tb (tb_7 (List.mem_of_getElem? (i := 184) rfl)) rfl
theorem tw_1748 : Cond.laysFinal "ForestCourtsModel" "ForestCourtsModel" "number" "[I" ∈ TT := in_tb (tb_7 (List.mem_of_getElem? (i := 186) rfl)) rfl
theorem tw_1750 : Cond.laysFinal "ForestCourtsModel" "ForestCourtsModel" "isForce" "[Z" ∈ TT := in_tb (tb_7 (List.mem_of_getElem? (i := 188) rfl)) rfl
theorem tw_1752 : Cond.lays "ForestCourtsModel" "ForestCourtsModel" "people" "I" ∈ TT := in_tb (tb_7 (List.mem_of_getElem? (i := 190) rfl)) rfl
theorem tw_1754 : Cond.lays "ForestCourtsModel" "ForestCourtsModel" "chest" "I" ∈ TT := in_tb (tb_7 (List.mem_of_getElem? (i := 192) rfl)) rfl
theorem tw_1756 : Cond.laysFinal "ForestCourtsModel" "ForestCourtsModel" "rank" "[I" ∈ TT := in_tb (tb_7 (List.mem_of_getElem? (i := 194) rfl)) rfl
theorem tw_1758 : Cond.laysFinal "ForestCourtsModel" "ForestCourtsModel" "coins" "[I" ∈ TT := in_tb (tb_7 (List.mem_of_getElem? (i := 196) rfl)) rfl
theorem tw_1760 : Cond.laysFinal "ForestCourtsModel" "ForestCourtsModel" "heirOf" "[I" ∈ TT := in_tb (tb_7 (List.mem_of_getElem? (i := 198) rfl)) rfl
theorem tw_1762 : Cond.laysFinal "ForestCourtsModel" "ForestCourtsModel" "died" "[I" ∈ TT := in_tb (tb_7 (List.mem_of_getElem? (i := 200) rfl)) rfl
theorem tw_1764 : Cond.lays "ForestCourtsModel" "ForestCourtsModel" "wardens" "I" ∈ TT := in_tb (tb_7 (List.mem_of_getElem? (i := 202) rfl)) rfl
theorem tw_1766 : Cond.laysFinal "ForestCourtsModel" "ForestCourtsModel" "wardenIs" "[I" ∈ TT := in_tb (tb_7 (List.mem_of_getElem? (i := 204) rfl)) rfl
theorem tw_1768 : Cond.laysFinal "ForestCourtsModel" "ForestCourtsModel" "weight" "[I" ∈ TT := in_tb (tb_7 (List.mem_of_getElem? (i := 206) rfl)) rfl
theorem tw_1770 : Cond.laysFinal "ForestCourtsModel" "ForestCourtsModel" "share" "[I" ∈ TT := in_tb (tb_7 (List.mem_of_getElem? (i := 208) rfl)) rfl
theorem tw_1772 : Cond.lays "ForestCourtsModel" "ForestCourtsModel" "deeds" "I" ∈ TT := in_tb (tb_7 (List.mem_of_getElem? (i := 210) rfl)) rfl
theorem tw_1774 : Cond.laysFinal "ForestCourtsModel" "ForestCourtsModel" "doer" "[I" ∈ TT := in_tb (tb_7 (List.mem_of_getElem? (i := 212) rfl)) rfl
theorem tw_1776 : Cond.laysFinal "ForestCourtsModel" "ForestCourtsModel" "actOf" "[I" ∈ TT := in_tb (tb_7 (List.mem_of_getElem? (i := 214) rfl)) rfl
theorem tw_1778 : Cond.laysFinal "ForestCourtsModel" "ForestCourtsModel" "deedX" "[I" ∈ TT := in_tb (tb_7 (List.mem_of_getElem? (i := 216) rfl)) rfl
theorem tw_1780 : Cond.laysFinal "ForestCourtsModel" "ForestCourtsModel" "deedY" "[I" ∈ TT := in_tb (tb_7 (List.mem_of_getElem? (i := 218) rfl)) rfl
theorem tw_1782 : Cond.laysFinal "ForestCourtsModel" "ForestCourtsModel" "deedDay" "[I" ∈ TT := in_tb (tb_7 (List.mem_of_getElem? (i := 220) rfl)) rfl
theorem tw_1784 : Cond.laysFinal "ForestCourtsModel" "ForestCourtsModel" "manyOf" "[I" ∈ TT := in_tb (tb_7 (List.mem_of_getElem? (i := 222) rfl)) rfl
theorem tw_1786 : Cond.laysFinal "ForestCourtsModel" "ForestCourtsModel" "pile" "[I" ∈ TT := in_tb (tb_7 (List.mem_of_getElem? (i := 224) rfl)) rfl
theorem tw_1788 : Cond.lays "ForestCourtsModel" "ForestCourtsModel" "wordText" "I" ∈ TT := in_tb (tb_7 (List.mem_of_getElem? (i := 226) rfl)) rfl
theorem tw_1790 : Cond.lays "ForestCourtsModel" "ForestCourtsModel" "wordClause" "I" ∈ TT := in_tb (tb_7 (List.mem_of_getElem? (i := 228) rfl)) rfl
theorem tw_1792 : Cond.lays "ForestCourtsModel" "ForestCourtsModel" "fineOf" "I" ∈ TT := in_tb (tb_7 (List.mem_of_getElem? (i := 230) rfl)) rfl
theorem tw_1794 : Cond.lays "ForestCourtsModel" "ForestCourtsModel" "isBar" "Z" ∈ TT := in_tb (tb_7 (List.mem_of_getElem? (i := 232) rfl)) rfl
theorem tw_1796 : Cond.lays "ForestCourtsModel" "ForestCourtsModel" "cases" "I" ∈ TT := in_tb (tb_7 (List.mem_of_getElem? (i := 234) rfl)) rfl
theorem tw_1798 : Cond.laysFinal "ForestCourtsModel" "ForestCourtsModel" "caseDeed" "[I" ∈ TT := in_tb (tb_7 (List.mem_of_getElem? (i := 236) rfl)) rfl
theorem tw_1800 : Cond.laysFinal "ForestCourtsModel" "ForestCourtsModel" "caseWarden" "[I" ∈ TT := in_tb (tb_7 (List.mem_of_getElem? (i := 238) rfl)) rfl
theorem tw_1802 : Cond.laysFinal "ForestCourtsModel" "ForestCourtsModel" "pledge" "[I" ∈ TT := in_tb (tb_8 (List.mem_of_getElem? (i := 0) rfl)) rfl
theorem tw_1804 : Cond.laysFinal "ForestCourtsModel" "ForestCourtsModel" "accused" "[I" ∈ TT := in_tb (tb_8 (List.mem_of_getElem? (i := 2) rfl)) rfl
theorem tw_1806 : Cond.laysFinal "ForestCourtsModel" "ForestCourtsModel" "state" "[I" ∈ TT := in_tb (tb_8 (List.mem_of_getElem? (i := 4) rfl)) rfl
theorem tw_1808 : Cond.laysFinal "ForestCourtsModel" "ForestCourtsModel" "since" "[I" ∈ TT := in_tb (tb_8 (List.mem_of_getElem? (i := 6) rfl)) rfl
theorem tw_1810 : Cond.laysFinal "ForestCourtsModel" "ForestCourtsModel" "proofs" "[I" ∈ TT := in_tb (tb_8 (List.mem_of_getElem? (i := 8) rfl)) rfl
theorem tw_1812 : Cond.laysFinal "ForestCourtsModel" "ForestCourtsModel" "owed" "[I" ∈ TT := in_tb (tb_8 (List.mem_of_getElem? (i := 10) rfl)) rfl
theorem tw_1814 : Cond.laysFinal "ForestCourtsModel" "ForestCourtsModel" "paid" "[I" ∈ TT := in_tb (tb_8 (List.mem_of_getElem? (i := 12) rfl)) rfl
theorem tw_1816 : Cond.laysFinal "ForestCourtsModel" "ForestCourtsModel" "got" "[I" ∈ TT := in_tb (tb_8 (List.mem_of_getElem? (i := 14) rfl)) rfl
theorem tw_1818 : Cond.lays "ForestCourtsModel" "ForestCourtsModel" "claims" "I" ∈ TT := in_tb (tb_8 (List.mem_of_getElem? (i := 16) rfl)) rfl
theorem tw_1820 : Cond.laysFinal "ForestCourtsModel" "ForestCourtsModel" "claimer" "[I" ∈ TT := in_tb (tb_8 (List.mem_of_getElem? (i := 18) rfl)) rfl
theorem tw_1822 : Cond.laysFinal "ForestCourtsModel" "ForestCourtsModel" "claimAct" "[I" ∈ TT := in_tb (tb_8 (List.mem_of_getElem? (i := 20) rfl)) rfl
theorem tw_1824 : Cond.laysFinal "ForestCourtsModel" "ForestCourtsModel" "claimX" "[I" ∈ TT := in_tb (tb_8 (List.mem_of_getElem? (i := 22) rfl)) rfl
theorem tw_1826 : Cond.laysFinal "ForestCourtsModel" "ForestCourtsModel" "claimY" "[I" ∈ TT := in_tb (tb_8 (List.mem_of_getElem? (i := 24) rfl)) rfl
theorem tw_1828 : Cond.laysFinal "ForestCourtsModel" "ForestCourtsModel" "useMany" "[I" ∈ TT := in_tb (tb_8 (List.mem_of_getElem? (i := 26) rfl)) rfl
theorem tw_1830 : Cond.laysFinal "ForestCourtsModel" "ForestCourtsModel" "useKind" "[I" ∈ TT := in_tb (tb_8 (List.mem_of_getElem? (i := 28) rfl)) rfl
theorem tw_1832 : Cond.laysFinal "ForestCourtsModel" "ForestCourtsModel" "useDay" "[I" ∈ TT := in_tb (tb_8 (List.mem_of_getElem? (i := 30) rfl)) rfl
theorem tw_1834 : Cond.laysFinal "ForestCourtsModel" "ForestCourtsModel" "entryMany" "[I" ∈ TT := in_tb (tb_8 (List.mem_of_getElem? (i := 32) rfl)) rfl
theorem tw_1836 : Cond.laysFinal "ForestCourtsModel" "ForestCourtsModel" "entryCase" "[I" ∈ TT := in_tb (tb_8 (List.mem_of_getElem? (i := 34) rfl)) rfl
theorem tw_1838 : Cond.laysFinal "ForestCourtsModel" "ForestCourtsModel" "entrySum" "[I" ∈ TT := in_tb (tb_8 (List.mem_of_getElem? (i := 36) rfl)) rfl
theorem tw_1840 : Cond.laysFinal "ForestCourtsModel" "ForestCourtsModel" "listed" "[I" ∈ TT := in_tb (tb_8 (List.mem_of_getElem? (i := 38) rfl)) rfl
theorem tw_1842 : Cond.laysFinal "ForestCourtsModel" "ForestCourtsModel" "ahead" "[I" ∈ TT := in_tb (tb_8 (List.mem_of_getElem? (i := 40) rfl)) rfl
theorem tw_1844 : Cond.laysFinal "ForestCourtsModel" "ForestCourtsModel" "order" "[I" ∈ TT := in_tb (tb_8 (List.mem_of_getElem? (i := 42) rfl)) rfl
theorem tw_1846 : Cond.laysFinal "ForestCourtsModel" "ForestCourtsModel" "bestOrder" "[I" ∈ TT := in_tb (tb_8 (List.mem_of_getElem? (i := 44) rfl)) rfl
theorem tw_1848 : Cond.lays "ForestCourtsModel" "ForestCourtsModel" "listedMany" "I" ∈ TT := in_tb (tb_8 (List.mem_of_getElem? (i := 46) rfl)) rfl
theorem tw_1850 : Cond.lays "ForestCourtsModel" "ForestCourtsModel" "bestQuarrel" "I" ∈ TT := in_tb (tb_8 (List.mem_of_getElem? (i := 48) rfl)) rfl
theorem tw_1852 : Cond.laysFinal "ForestCourtsModel" "ForestCourtsModel" "hasLodge" "[Z" ∈ TT := in_tb (tb_8 (List.mem_of_getElem? (i := 50) rfl)) rfl
theorem tw_1854 : Cond.laysFinal "ForestCourtsModel" "ForestCourtsModel" "lodgeX" "[I" ∈ TT := in_tb (tb_8 (List.mem_of_getElem? (i := 52) rfl)) rfl
theorem tw_1856 : Cond.laysFinal "ForestCourtsModel" "ForestCourtsModel" "lodgeY" "[I" ∈ TT := in_tb (tb_8 (List.mem_of_getElem? (i := 54) rfl)) rfl
theorem tw_1858 : Cond.laysFinal "ForestCourtsModel" "ForestCourtsModel" "reach" "[I" ∈ TT := in_tb (tb_8 (List.mem_of_getElem? (i := 56) rfl)) rfl
theorem tw_1860 : Cond.lays "ForestCourtsModel" "ForestCourtsModel" "spots" "I" ∈ TT := in_tb (tb_8 (List.mem_of_getElem? (i := 58) rfl)) rfl
theorem tw_1862 : Cond.laysFinal "ForestCourtsModel" "ForestCourtsModel" "spotX" "[I" ∈ TT := in_tb (tb_8 (List.mem_of_getElem? (i := 60) rfl)) rfl
theorem tw_1864 : Cond.laysFinal "ForestCourtsModel" "ForestCourtsModel" "spotY" "[I" ∈ TT := in_tb (tb_8 (List.mem_of_getElem? (i := 62) rfl)) rfl
theorem tw_1866 : Cond.laysFinal "ForestCourtsModel" "ForestCourtsModel" "worth" "[I" ∈ TT := in_tb (tb_8 (List.mem_of_getElem? (i := 64) rfl)) rfl
theorem tw_1868 : Cond.laysFinal "ForestCourtsModel" "ForestCourtsModel" "way" "[I" ∈ TT := in_tb (tb_8 (List.mem_of_getElem? (i := 66) rfl)) rfl
theorem tw_1870 : Cond.laysFinal "ForestCourtsModel" "ForestCourtsModel" "canBe" "[Z" ∈ TT := in_tb (tb_8 (List.mem_of_getElem? (i := 68) rfl)) rfl
theorem tw_1872 : Cond.laysFinal "ForestCourtsModel" "ForestCourtsModel" "who" "[I" ∈ TT := in_tb (tb_8 (List.mem_of_getElem? (i := 70) rfl)) rfl
theorem tw_1874 : Cond.laysFinal "ForestCourtsModel" "ForestCourtsModel" "given" "[I" ∈ TT := in_tb (tb_8 (List.mem_of_getElem? (i := 72) rfl)) rfl
theorem tw_1876 : Cond.laysFinal "ForestCourtsModel" "ForestCourtsModel" "bestGiven" "[I" ∈ TT := in_tb (tb_8 (List.mem_of_getElem? (i := 74) rfl)) rfl
theorem tw_1878 : Cond.lays "ForestCourtsModel" "ForestCourtsModel" "bestWorth" "I" ∈ TT := in_tb (tb_8 (List.mem_of_getElem? (i := 76) rfl)) rfl
theorem tw_1880 : Cond.lays "ForestCourtsModel" "ForestCourtsModel" "woods" "I" ∈ TT := in_tb (tb_8 (List.mem_of_getElem? (i := 78) rfl)) rfl
theorem tw_1882 : Cond.lays "ForestCourtsModel" "ForestCourtsModel" "takings" "I" ∈ TT := in_tb (tb_8 (List.mem_of_getElem? (i := 80) rfl)) rfl
theorem tw_1884 : Cond.laysFinal "ForestCourtsModel" "ForestCourtsModel" "woodFrom" "[I" ∈ TT := in_tb (tb_8 (List.mem_of_getElem? (i := 82) rfl)) rfl
theorem tw_1886 : Cond.laysFinal "ForestCourtsModel" "ForestCourtsModel" "oaks" "[I" ∈ TT := in_tb (tb_8 (List.mem_of_getElem? (i := 84) rfl)) rfl
theorem tw_1888 : Cond.laysFinal "ForestCourtsModel" "ForestCourtsModel" "deer" "[I" ∈ TT := in_tb (tb_8 (List.mem_of_getElem? (i := 86) rfl)) rfl
theorem tw_1890 : Cond.laysFinal "ForestCourtsModel" "ForestCourtsModel" "takeWood" "[I" ∈ TT := in_tb (tb_8 (List.mem_of_getElem? (i := 88) rfl)) rfl
theorem tw_1892 : Cond.laysFinal "ForestCourtsModel" "ForestCourtsModel" "takeKind" "[I" ∈ TT := in_tb (tb_8 (List.mem_of_getElem? (i := 90) rfl)) rfl
theorem tw_1894 : Cond.laysFinal "ForestCourtsModel" "ForestCourtsModel" "takeYear" "[I" ∈ TT := in_tb (tb_8 (List.mem_of_getElem? (i := 92) rfl)) rfl
theorem tw_1896 : Cond.laysFinal "ForestCourtsModel" "ForestCourtsModel" "takeMany" "[I" ∈ TT := in_tb (tb_8 (List.mem_of_getElem? (i := 94) rfl)) rfl
theorem tw_1898 : Cond.laysFinal "ForestCourtsModel" "ForestCourtsModel" "takeTold" "[I" ∈ TT := in_tb (tb_8 (List.mem_of_getElem? (i := 96) rfl)) rfl
theorem tm_min : Cond.code ⟨"java/lang/Math", "min", "(II)I"⟩ Lib.Math.min.code 2 (some .int) ∈ TT := in_tb (tb_2 (List.mem_of_getElem? (i := 182) rfl)) rfl
theorem tm_max : Cond.code ⟨"java/lang/Math", "max", "(II)I"⟩ Lib.Math.max.code 2 (some .int) ∈ TT := in_tb (tb_1 (List.mem_of_getElem? (i := 44) rfl)) rfl
theorem in_X0 : ∀ w ∈ u_ws RX0 TX0 4, w ∈ TT := by
  intro w h
  obtain ⟨k, hk, rfl⟩ := List.mem_map.mp h
  have hk := List.mem_range.mp hk
  exact match k, hk with | 0, _ => tw_330 | 1, _ => tw_332 | 2, _ => tw_334 | 3, _ => tw_336 | j + 4, h => absurd h (by omega)
theorem in_X1 : ∀ w ∈ u_ws RX1 TX1 13, w ∈ TT := by
  intro w h
  obtain ⟨k, hk, rfl⟩ := List.mem_map.mp h
  have hk := List.mem_range.mp hk
  exact match k, hk with | 0, _ => tw_365 | 1, _ => tw_367 | 2, _ => tw_369 | 3, _ => tw_371 | 4, _ => tw_373 | 5, _ => tw_375 | 6, _ => tw_377 | 7, _ => tw_379 | 8, _ => tw_381 | 9, _ => tw_383 | 10, _ => tw_385 | 11, _ => tw_387 | 12, _ => tw_389 | j + 13, h => absurd h (by omega)
theorem in_X2 : ∀ w ∈ u_ws RX2 TX2 4, w ∈ TT := by
  intro w h
  obtain ⟨k, hk, rfl⟩ := List.mem_map.mp h
  have hk := List.mem_range.mp hk
  exact match k, hk with | 0, _ => tw_197 | 1, _ => tw_199 | 2, _ => tw_201 | 3, _ => tw_203 | j + 4, h => absurd h (by omega)
theorem in_X3 : ∀ w ∈ u_ws RX3 TX3 8, w ∈ TT := by
  intro w h
  obtain ⟨k, hk, rfl⟩ := List.mem_map.mp h
  have hk := List.mem_range.mp hk
  exact match k, hk with | 0, _ => tw_286 | 1, _ => tw_288 | 2, _ => tw_290 | 3, _ => tw_292 | 4, _ => tw_294 | 5, _ => tw_296 | 6, _ => tw_298 | 7, _ => tw_300 | j + 8, h => absurd h (by omega)
theorem in_X4 : ∀ w ∈ u_ws RX4 TX4 9, w ∈ TT := by
  intro w h
  obtain ⟨k, hk, rfl⟩ := List.mem_map.mp h
  have hk := List.mem_range.mp hk
  exact match k, hk with | 0, _ => tw_444 | 1, _ => tw_446 | 2, _ => tw_448 | 3, _ => tw_450 | 4, _ => tw_452 | 5, _ => tw_454 | 6, _ => tw_456 | 7, _ => tw_458 | 8, _ => tw_460 | j + 9, h => absurd h (by omega)
theorem in_X5 : ∀ w ∈ u_ws RX5 TX5 1, w ∈ TT := by
  intro w h
  obtain ⟨k, hk, rfl⟩ := List.mem_map.mp h
  have hk := List.mem_range.mp hk
  exact match k, hk with | 0, _ => tw_314 | j + 1, h => absurd h (by omega)
theorem in_X6 : ∀ w ∈ u_ws RX6 TX6 8, w ∈ TT := by
  intro w h
  obtain ⟨k, hk, rfl⟩ := List.mem_map.mp h
  have hk := List.mem_range.mp hk
  exact match k, hk with | 0, _ => tw_258 | 1, _ => tw_260 | 2, _ => tw_262 | 3, _ => tw_264 | 4, _ => tw_266 | 5, _ => tw_268 | 6, _ => tw_270 | 7, _ => tw_272 | j + 8, h => absurd h (by omega)
theorem in_X7 : ∀ w ∈ u_ws RX7 TX7 8, w ∈ TT := by
  intro w h
  obtain ⟨k, hk, rfl⟩ := List.mem_map.mp h
  have hk := List.mem_range.mp hk
  exact match k, hk with | 0, _ => tw_408 | 1, _ => tw_410 | 2, _ => tw_412 | 3, _ => tw_414 | 4, _ => tw_416 | 5, _ => tw_418 | 6, _ => tw_420 | 7, _ => tw_422 | j + 8, h => absurd h (by omega)
theorem in_X8 : ∀ w ∈ u_ws RX8 TX8 7, w ∈ TT := by
  intro w h
  obtain ⟨k, hk, rfl⟩ := List.mem_map.mp h
  have hk := List.mem_range.mp hk
  exact match k, hk with | 0, _ => tw_220 | 1, _ => tw_222 | 2, _ => tw_224 | 3, _ => tw_226 | 4, _ => tw_228 | 5, _ => tw_230 | 6, _ => tw_232 | j + 7, h => absurd h (by omega)
theorem in_X9 : ∀ w ∈ u_ws RX9 TX9 4, w ∈ TT := by
  intro w h
  obtain ⟨k, hk, rfl⟩ := List.mem_map.mp h
  have hk := List.mem_range.mp hk
  exact match k, hk with | 0, _ => tw_171 | 1, _ => tw_173 | 2, _ => tw_175 | 3, _ => tw_177 | j + 4, h => absurd h (by omega)
theorem in_X10 : ∀ w ∈ u_ws RX10 TX10 2, w ∈ TT := by
  intro w h
  obtain ⟨k, hk, rfl⟩ := List.mem_map.mp h
  have hk := List.mem_range.mp hk
  exact match k, hk with | 0, _ => tw_476 | 1, _ => tw_478 | j + 2, h => absurd h (by omega)
theorem in_X11 : ∀ w ∈ u_ws RX11 TX11 10, w ∈ TT := by
  intro w h
  obtain ⟨k, hk, rfl⟩ := List.mem_map.mp h
  have hk := List.mem_range.mp hk
  exact match k, hk with | 0, _ => tw_491 | 1, _ => tw_493 | 2, _ => tw_495 | 3, _ => tw_497 | 4, _ => tw_499 | 5, _ => tw_501 | 6, _ => tw_503 | 7, _ => tw_505 | 8, _ => tw_507 | 9, _ => tw_509 | j + 10, h => absurd h (by omega)
theorem in_X12 : ∀ w ∈ u_ws RX12 TX12 112, w ∈ TT := by
  intro w h
  obtain ⟨k, hk, rfl⟩ := List.mem_map.mp h
  have hk := List.mem_range.mp hk
  exact match k, hk with | 0, _ => tw_1676 | 1, _ => tw_1678 | 2, _ => tw_1680 | 3, _ => tw_1682 | 4, _ => tw_1684 | 5, _ => tw_1686 | 6, _ => tw_1688 | 7, _ => tw_1690 | 8, _ => tw_1692 | 9, _ => tw_1694 | 10, _ => tw_1696 | 11, _ => tw_1698 | 12, _ => tw_1700 | 13, _ => tw_1702 | 14, _ => tw_1704 | 15, _ => tw_1706 | 16, _ => tw_1708 | 17, _ => tw_1710 | 18, _ => tw_1712 | 19, _ => tw_1714 | 20, _ => tw_1716 | 21, _ => tw_1718 | 22, _ => tw_1720 | 23, _ => tw_1722 | 24, _ => tw_1724 | 25, _ => tw_1726 | 26, _ => tw_1728 | 27, _ => tw_1730 | 28, _ => tw_1732 | 29, _ => tw_1734 | 30, _ => tw_1736 | 31, _ => tw_1738 | 32, _ => tw_1740 | 33, _ => tw_1742 | 34, _ => tw_1744 | 35, _ => tw_1746 | 36, _ => tw_1748 | 37, _ => tw_1750 | 38, _ => tw_1752 | 39, _ => tw_1754 | 40, _ => tw_1756 | 41, _ => tw_1758 | 42, _ => tw_1760 | 43, _ => tw_1762 | 44, _ => tw_1764 | 45, _ => tw_1766 | 46, _ => tw_1768 | 47, _ => tw_1770 | 48, _ => tw_1772 | 49, _ => tw_1774 | 50, _ => tw_1776 | 51, _ => tw_1778 | 52, _ => tw_1780 | 53, _ => tw_1782 | 54, _ => tw_1784 | 55, _ => tw_1786 | 56, _ => tw_1788 | 57, _ => tw_1790 | 58, _ => tw_1792 | 59, _ => tw_1794 | 60, _ => tw_1796 | 61, _ => tw_1798 | 62, _ => tw_1800 | 63, _ => tw_1802 | 64, _ => tw_1804 | 65, _ => tw_1806 | 66, _ => tw_1808 | 67, _ => tw_1810 | 68, _ => tw_1812 | 69, _ => tw_1814 | 70, _ => tw_1816 | 71, _ => tw_1818 | 72, _ => tw_1820 | 73, _ => tw_1822 | 74, _ => tw_1824 | 75, _ => tw_1826 | 76, _ => tw_1828 | 77, _ => tw_1830 | 78, _ => tw_1832 | 79, _ => tw_1834 | 80, _ => tw_1836 | 81, _ => tw_1838 | 82, _ => tw_1840 | 83, _ => tw_1842 | 84, _ => tw_1844 | 85, _ => tw_1846 | 86, _ => tw_1848 | 87, _ => tw_1850 | 88, _ => tw_1852 | 89, _ => tw_1854 | 90, _ => tw_1856 | 91, _ => tw_1858 | 92, _ => tw_1860 | 93, _ => tw_1862 | 94, _ => tw_1864 | 95, _ => tw_1866 | 96, _ => tw_1868 | 97, _ => tw_1870 | 98, _ => tw_1872 | 99, _ => tw_1874 | 100, _ => tw_1876 | 101, _ => tw_1878 | 102, _ => tw_1880 | 103, _ => tw_1882 | 104, _ => tw_1884 | 105, _ => tw_1886 | 106, _ => tw_1888 | 107, _ => tw_1890 | 108, _ => tw_1892 | 109, _ => tw_1894 | 110, _ => tw_1896 | 111, _ => tw_1898 | j + 112, h => absurd h (by omega)
theorem kv_X9_get : Kv yX9_get RX9 cX9_get 4 (some .int) 2 := ⟨tw_587, tw_588, tw_124, tw_589, by decide +kernel, by decide +kernel⟩
theorem kv_X9_isFull : Kv yX9_isFull RX9 cX9_isFull 1 (some .boolean) 0 := ⟨tw_529, tw_530, tw_124, tw_531, by decide +kernel, by decide +kernel⟩
theorem kv_X9_put : Kv yX9_put RX9 cX9_put 5 none 3 := ⟨tw_549, tw_550, tw_124, tw_551, by decide +kernel, by decide +kernel⟩
theorem ks_J7_copyOf_59c91 : Ks yJ7_copyOf_59c91 cJ7_copyOf_59c91 3 (some (.array .int)) 2 := ⟨tw_533, tw_142, tw_534, by decide +kernel, by decide +kernel⟩
