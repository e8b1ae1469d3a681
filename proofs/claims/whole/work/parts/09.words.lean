theorem tw_0 : Cond.selects "ForestCourts" ⟨"ForestCourts", "addBytes", "(I)V"⟩ ⟨"ForestCourts", "addBytes", "(I)V"⟩ ∈ TT := in_sl (List.mem_of_getElem? (i := 0) rfl) rfl
theorem tw_1 : Cond.selects "ForestCourts$Rolls" ⟨"ForestCourts$Rolls", "join", "()V"⟩ ⟨"ForestCourts$Rolls", "join", "()V"⟩ ∈ TT := in_sl (List.mem_of_getElem? (i := 1) rfl) rfl
theorem tw_2 : Cond.selects "ForestCourts$Rolls" ⟨"ForestCourts$Rolls", "list", "()V"⟩ ⟨"ForestCourts$Rolls", "list", "()V"⟩ ∈ TT := in_sl (List.mem_of_getElem? (i := 2) rfl) rfl
theorem tw_3 : Cond.selects "ForestCourts$Rolls" ⟨"ForestCourts$Rolls", "weigh", "()V"⟩ ⟨"ForestCourts$Rolls", "weigh", "()V"⟩ ∈ TT := in_sl (List.mem_of_getElem? (i := 3) rfl) rfl
theorem tw_4 : Cond.selects "ForestCourts$Rolls" ⟨"ForestCourts$Rolls", "placeOf", "(I)I"⟩ ⟨"ForestCourts$Rolls", "placeOf", "(I)I"⟩ ∈ TT := in_sl (List.mem_of_getElem? (i := 4) rfl) rfl
theorem tw_5 : Cond.selects "ForestCourts$Rolls" ⟨"ForestCourts$Rolls", "measure", "()V"⟩ ⟨"ForestCourts$Rolls", "measure", "()V"⟩ ∈ TT := in_sl (List.mem_of_getElem? (i := 5) rfl) rfl
theorem tw_6 : Cond.selects "ForestCourts$Rolls" ⟨"ForestCourts$Rolls", "quarrelOf", "(II)I"⟩ ⟨"ForestCourts$Rolls", "quarrelOf", "(II)I"⟩ ∈ TT := in_sl (List.mem_of_getElem? (i := 6) rfl) rfl
theorem tw_7 : Cond.selects "ForestCourts$Rolls" ⟨"ForestCourts$Rolls", "choose", "()V"⟩ ⟨"ForestCourts$Rolls", "choose", "()V"⟩ ∈ TT := in_sl (List.mem_of_getElem? (i := 7) rfl) rfl
theorem tw_8 : Cond.selects "ForestCourts$Patrols" ⟨"ForestCourts$Patrols", "nextWithLodge", "(I)I"⟩ ⟨"ForestCourts$Patrols", "nextWithLodge", "(I)I"⟩ ∈ TT := in_sl (List.mem_of_getElem? (i := 8) rfl) rfl
theorem tw_9 : Cond.selects "ForestCourts$Patrols" ⟨"ForestCourts$Patrols", "measure", "(I[Z)V"⟩ ⟨"ForestCourts$Patrols", "measure", "(I[Z)V"⟩ ∈ TT := in_sl (List.mem_of_getElem? (i := 9) rfl) rfl
theorem tw_10 : Cond.selects "ForestCourts$Patrols" ⟨"ForestCourts$Patrols", "roundOf", "(II)I"⟩ ⟨"ForestCourts$Patrols", "roundOf", "(II)I"⟩ ∈ TT := in_sl (List.mem_of_getElem? (i := 10) rfl) rfl
theorem tw_11 : Cond.selects "ForestCourts$Patrols" ⟨"ForestCourts$Patrols", "pathTo", "(III)I"⟩ ⟨"ForestCourts$Patrols", "pathTo", "(III)I"⟩ ∈ TT := in_sl (List.mem_of_getElem? (i := 11) rfl) rfl
theorem tw_12 : Cond.selects "ForestCourts$Patrols" ⟨"ForestCourts$Patrols", "wayFromLodge", "(II)I"⟩ ⟨"ForestCourts$Patrols", "wayFromLodge", "(II)I"⟩ ∈ TT := in_sl (List.mem_of_getElem? (i := 12) rfl) rfl
theorem tw_13 : Cond.selects "ForestCourts$Patrols" ⟨"ForestCourts$Patrols", "choose", "(II)V"⟩ ⟨"ForestCourts$Patrols", "choose", "(II)V"⟩ ∈ TT := in_sl (List.mem_of_getElem? (i := 13) rfl) rfl
theorem tw_14 : Cond.selects "ForestCourts$Patrols" ⟨"ForestCourts$Patrols", "tryWay", "(I)I"⟩ ⟨"ForestCourts$Patrols", "tryWay", "(I)I"⟩ ∈ TT := in_sl (List.mem_of_getElem? (i := 14) rfl) rfl
theorem tw_16 : Cond.selects "ForestCourts$Courts" ⟨"ForestCourts$Courts", "readRules", "()V"⟩ ⟨"ForestCourts$Courts", "readRules", "()V"⟩ ∈ TT := in_sl (List.mem_of_getElem? (i := 16) rfl) rfl
theorem tw_17 : Cond.selects "ForestCourts$Courts" ⟨"ForestCourts$Courts", "comesUp", "(II)Z"⟩ ⟨"ForestCourts$Courts", "comesUp", "(II)Z"⟩ ∈ TT := in_sl (List.mem_of_getElem? (i := 17) rfl) rfl
theorem tw_18 : Cond.selects "ForestCourts$Courts" ⟨"ForestCourts$Courts", "findAccused", "(I)Z"⟩ ⟨"ForestCourts$Courts", "findAccused", "(I)Z"⟩ ∈ TT := in_sl (List.mem_of_getElem? (i := 18) rfl) rfl
theorem tw_19 : Cond.selects "ForestCourts$Courts" ⟨"ForestCourts$Courts", "settle", "(II)V"⟩ ⟨"ForestCourts$Courts", "settle", "(II)V"⟩ ∈ TT := in_sl (List.mem_of_getElem? (i := 19) rfl) rfl
theorem tw_20 : Cond.selects "ForestCourts$Courts" ⟨"ForestCourts$Courts", "attach", "(I)V"⟩ ⟨"ForestCourts$Courts", "attach", "(I)V"⟩ ∈ TT := in_sl (List.mem_of_getElem? (i := 20) rfl) rfl
theorem tw_21 : Cond.selects "ForestCourts$Courts" ⟨"ForestCourts$Courts", "find", "(I)V"⟩ ⟨"ForestCourts$Courts", "find", "(I)V"⟩ ∈ TT := in_sl (List.mem_of_getElem? (i := 21) rfl) rfl
theorem tw_22 : Cond.selects "ForestCourts$Ground" ⟨"ForestCourts$Ground", "isNear", "(IIII)Z"⟩ ⟨"ForestCourts$Ground", "isNear", "(IIII)Z"⟩ ∈ TT := in_sl (List.mem_of_getElem? (i := 22) rfl) rfl
theorem tw_23 : Cond.selects "ForestCourts$Ground" ⟨"ForestCourts$Ground", "isLeftOf", "(IIII)Z"⟩ ⟨"ForestCourts$Ground", "isLeftOf", "(IIII)Z"⟩ ∈ TT := in_sl (List.mem_of_getElem? (i := 23) rfl) rfl
theorem tw_24 : Cond.selects "ForestCourts$Courts" ⟨"ForestCourts$Courts", "askFor", "(I)V"⟩ ⟨"ForestCourts$Courts", "askFor", "(I)V"⟩ ∈ TT := in_sl (List.mem_of_getElem? (i := 24) rfl) rfl
theorem tw_25 : Cond.selects "ForestCourts$Laws" ⟨"ForestCourts$Laws", "valueOf", "(ILForestCourts$Table;)I"⟩ ⟨"ForestCourts$Laws", "valueOf", "(ILForestCourts$Table;)I"⟩ ∈ TT := in_sl (List.mem_of_getElem? (i := 25) rfl) rfl
theorem tw_26 : Cond.selects "ForestCourts$Laws" ⟨"ForestCourts$Laws", "isWithoutIf", "(I)Z"⟩ ⟨"ForestCourts$Laws", "isWithoutIf", "(I)Z"⟩ ∈ TT := in_sl (List.mem_of_getElem? (i := 26) rfl) rfl
theorem tw_27 : Cond.selects "ForestCourts$Courts" ⟨"ForestCourts$Courts", "charge", "(IIII)I"⟩ ⟨"ForestCourts$Courts", "charge", "(IIII)I"⟩ ∈ TT := in_sl (List.mem_of_getElem? (i := 27) rfl) rfl
theorem tw_28 : Cond.selects "ForestCourts$Courts" ⟨"ForestCourts$Courts", "whoPaysFor", "(I)I"⟩ ⟨"ForestCourts$Courts", "whoPaysFor", "(I)I"⟩ ∈ TT := in_sl (List.mem_of_getElem? (i := 28) rfl) rfl
theorem tw_29 : Cond.selects "ForestCourts$Ground" ⟨"ForestCourts$Ground", "isSimple", "(I)Z"⟩ ⟨"ForestCourts$Ground", "isSimple", "(I)Z"⟩ ∈ TT := in_sl (List.mem_of_getElem? (i := 29) rfl) rfl
theorem tw_30 : Cond.selects "ForestCourts$Ground" ⟨"ForestCourts$Ground", "isSamePlace", "(II)Z"⟩ ⟨"ForestCourts$Ground", "isSamePlace", "(II)Z"⟩ ∈ TT := in_sl (List.mem_of_getElem? (i := 30) rfl) rfl
theorem tw_31 : Cond.selects "ForestCourts$Ground" ⟨"ForestCourts$Ground", "foldsBack", "(III)Z"⟩ ⟨"ForestCourts$Ground", "foldsBack", "(III)Z"⟩ ∈ TT := in_sl (List.mem_of_getElem? (i := 31) rfl) rfl
theorem tw_32 : Cond.selects "ForestCourts$Ground" ⟨"ForestCourts$Ground", "turn", "(III)I"⟩ ⟨"ForestCourts$Ground", "turn", "(III)I"⟩ ∈ TT := in_sl (List.mem_of_getElem? (i := 32) rfl) rfl
theorem tw_33 : Cond.selects "ForestCourts$Ground" ⟨"ForestCourts$Ground", "touch", "(IIII)Z"⟩ ⟨"ForestCourts$Ground", "touch", "(IIII)Z"⟩ ∈ TT := in_sl (List.mem_of_getElem? (i := 33) rfl) rfl
theorem tw_34 : Cond.selects "ForestCourts$Search" ⟨"ForestCourts$Search", "tryMarks", "(II)V"⟩ ⟨"ForestCourts$Search", "tryMarks", "(II)V"⟩ ∈ TT := in_sl (List.mem_of_getElem? (i := 34) rfl) rfl
theorem tw_35 : Cond.selects "ForestCourts$Search" ⟨"ForestCourts$Search", "tryRing", "(I)V"⟩ ⟨"ForestCourts$Search", "tryRing", "(I)V"⟩ ∈ TT := in_sl (List.mem_of_getElem? (i := 35) rfl) rfl
theorem tw_36 : Cond.selects "ForestCourts$Reader" ⟨"ForestCourts$Reader", "skipBlanks", "()V"⟩ ⟨"ForestCourts$Reader", "skipBlanks", "()V"⟩ ∈ TT := in_sl (List.mem_of_getElem? (i := 36) rfl) rfl
theorem tw_37 : Cond.selects "ForestCourts$Reader" ⟨"ForestCourts$Reader", "takeWord", "(Ljava/lang/String;)I"⟩ ⟨"ForestCourts$Reader", "takeWord", "(Ljava/lang/String;)I"⟩ ∈ TT := in_sl (List.mem_of_getElem? (i := 37) rfl) rfl
theorem tw_38 : Cond.selects "ForestCourts$Reader" ⟨"ForestCourts$Reader", "isWord", "(Ljava/lang/String;III)Z"⟩ ⟨"ForestCourts$Reader", "isWord", "(Ljava/lang/String;III)Z"⟩ ∈ TT := in_sl (List.mem_of_getElem? (i := 38) rfl) rfl
theorem tw_39 : Cond.selects "ForestCourts$Reader" ⟨"ForestCourts$Reader", "fail", "(II)Z"⟩ ⟨"ForestCourts$Reader", "fail", "(II)Z"⟩ ∈ TT := in_sl (List.mem_of_getElem? (i := 39) rfl) rfl
theorem tw_40 : Cond.selects "ForestCourts$Reader" ⟨"ForestCourts$Reader", "readAct", "(I)Z"⟩ ⟨"ForestCourts$Reader", "readAct", "(I)Z"⟩ ∈ TT := in_sl (List.mem_of_getElem? (i := 40) rfl) rfl
theorem tw_41 : Cond.selects "ForestCourts$Reader" ⟨"ForestCourts$Reader", "readEither", "(I)Z"⟩ ⟨"ForestCourts$Reader", "readEither", "(I)Z"⟩ ∈ TT := in_sl (List.mem_of_getElem? (i := 41) rfl) rfl
theorem tw_42 : Cond.selects "ForestCourts$Reader" ⟨"ForestCourts$Reader", "readBoth", "(I)Z"⟩ ⟨"ForestCourts$Reader", "readBoth", "(I)Z"⟩ ∈ TT := in_sl (List.mem_of_getElem? (i := 42) rfl) rfl
theorem tw_43 : Cond.selects "ForestCourts$Reader" ⟨"ForestCourts$Reader", "readTest", "(I)Z"⟩ ⟨"ForestCourts$Reader", "readTest", "(I)Z"⟩ ∈ TT := in_sl (List.mem_of_getElem? (i := 43) rfl) rfl
theorem tw_44 : Cond.selects "ForestCourts$Reader" ⟨"ForestCourts$Reader", "mayOpen", "(II)Z"⟩ ⟨"ForestCourts$Reader", "mayOpen", "(II)Z"⟩ ∈ TT := in_sl (List.mem_of_getElem? (i := 44) rfl) rfl
theorem tw_45 : Cond.selects "ForestCourts$Reader" ⟨"ForestCourts$Reader", "emit", "(I)Z"⟩ ⟨"ForestCourts$Reader", "emit", "(I)Z"⟩ ∈ TT := in_sl (List.mem_of_getElem? (i := 45) rfl) rfl
theorem tw_46 : Cond.selects "ForestCourts$Reader" ⟨"ForestCourts$Reader", "takeSign", "(I)Z"⟩ ⟨"ForestCourts$Reader", "takeSign", "(I)Z"⟩ ∈ TT := in_sl (List.mem_of_getElem? (i := 46) rfl) rfl
theorem tw_47 : Cond.selects "ForestCourts$Reader" ⟨"ForestCourts$Reader", "goPast", "()Z"⟩ ⟨"ForestCourts$Reader", "goPast", "()Z"⟩ ∈ TT := in_sl (List.mem_of_getElem? (i := 47) rfl) rfl
theorem tw_48 : Cond.selects "ForestCourts$Reader" ⟨"ForestCourts$Reader", "needSign", "(I)Z"⟩ ⟨"ForestCourts$Reader", "needSign", "(I)Z"⟩ ∈ TT := in_sl (List.mem_of_getElem? (i := 48) rfl) rfl
theorem tw_49 : Cond.selects "ForestCourts$Reader" ⟨"ForestCourts$Reader", "readSum", "(I)Z"⟩ ⟨"ForestCourts$Reader", "readSum", "(I)Z"⟩ ∈ TT := in_sl (List.mem_of_getElem? (i := 49) rfl) rfl
theorem tw_50 : Cond.selects "ForestCourts$Reader" ⟨"ForestCourts$Reader", "readProduct", "(I)Z"⟩ ⟨"ForestCourts$Reader", "readProduct", "(I)Z"⟩ ∈ TT := in_sl (List.mem_of_getElem? (i := 50) rfl) rfl
theorem tw_51 : Cond.selects "ForestCourts$Reader" ⟨"ForestCourts$Reader", "readValue", "(I)Z"⟩ ⟨"ForestCourts$Reader", "readValue", "(I)Z"⟩ ∈ TT := in_sl (List.mem_of_getElem? (i := 51) rfl) rfl
theorem tw_52 : Cond.selects "ForestCourts$Reader" ⟨"ForestCourts$Reader", "takeNumber", "(II)I"⟩ ⟨"ForestCourts$Reader", "takeNumber", "(II)I"⟩ ∈ TT := in_sl (List.mem_of_getElem? (i := 52) rfl) rfl
theorem tw_53 : Cond.selects "ForestCourts$Reader" ⟨"ForestCourts$Reader", "readPick", "(II)Z"⟩ ⟨"ForestCourts$Reader", "readPick", "(II)Z"⟩ ∈ TT := in_sl (List.mem_of_getElem? (i := 53) rfl) rfl
theorem tw_54 : Cond.selects "ForestCourts$Reader" ⟨"ForestCourts$Reader", "readNumber", "(IIII)Z"⟩ ⟨"ForestCourts$Reader", "readNumber", "(IIII)Z"⟩ ∈ TT := in_sl (List.mem_of_getElem? (i := 54) rfl) rfl
theorem tw_55 : Cond.selects "ForestCourts$Reader" ⟨"ForestCourts$Reader", "readHeirs", "(I)Z"⟩ ⟨"ForestCourts$Reader", "readHeirs", "(I)Z"⟩ ∈ TT := in_sl (List.mem_of_getElem? (i := 55) rfl) rfl
theorem tw_56 : Cond.selects "ForestCourts$Laws" ⟨"ForestCourts$Laws", "keepRule", "(II)V"⟩ ⟨"ForestCourts$Laws", "keepRule", "(II)V"⟩ ∈ TT := in_sl (List.mem_of_getElem? (i := 56) rfl) rfl
theorem tw_57 : Cond.selects "ForestCourts$Claims" ⟨"ForestCourts$Claims", "isHeldBy", "(II)Z"⟩ ⟨"ForestCourts$Claims", "isHeldBy", "(II)Z"⟩ ∈ TT := in_sl (List.mem_of_getElem? (i := 57) rfl) rfl
theorem tw_58 : Cond.selects "ForestCourts$Rolls" ⟨"ForestCourts$Rolls", "apartFrom", "(II)I"⟩ ⟨"ForestCourts$Rolls", "apartFrom", "(II)I"⟩ ∈ TT := in_sl (List.mem_of_getElem? (i := 58) rfl) rfl
theorem tw_59 : Cond.selects "ForestCourts$Woods" ⟨"ForestCourts$Woods", "takenIn", "(IIII)I"⟩ ⟨"ForestCourts$Woods", "takenIn", "(IIII)I"⟩ ∈ TT := in_sl (List.mem_of_getElem? (i := 59) rfl) rfl
theorem tw_60 : Cond.selects "ForestCourtsModel" ⟨"ForestCourtsModel", "bad", "(ZI)Z"⟩ ⟨"ForestCourtsModel", "bad", "(ZI)Z"⟩ ∈ TT := in_sl (List.mem_of_getElem? (i := 60) rfl) rfl
theorem tw_61 : Cond.selects "ForestCourtsModel" ⟨"ForestCourtsModel", "isSimple", "()Z"⟩ ⟨"ForestCourtsModel", "isSimple", "()Z"⟩ ∈ TT := in_sl (List.mem_of_getElem? (i := 61) rfl) rfl
theorem tw_62 : Cond.selects "ForestCourtsModel" ⟨"ForestCourtsModel", "x", "(I)I"⟩ ⟨"ForestCourtsModel", "x", "(I)I"⟩ ∈ TT := in_sl (List.mem_of_getElem? (i := 62) rfl) rfl
theorem tw_63 : Cond.selects "ForestCourtsModel" ⟨"ForestCourtsModel", "y", "(I)I"⟩ ⟨"ForestCourtsModel", "y", "(I)I"⟩ ∈ TT := in_sl (List.mem_of_getElem? (i := 63) rfl) rfl
theorem tw_64 : Cond.selects "ForestCourtsModel" ⟨"ForestCourtsModel", "isOn", "(III)Z"⟩ ⟨"ForestCourtsModel", "isOn", "(III)Z"⟩ ∈ TT := in_sl (List.mem_of_getElem? (i := 64) rfl) rfl
theorem tw_65 : Cond.selects "ForestCourtsModel" ⟨"ForestCourtsModel", "isMet", "(II)Z"⟩ ⟨"ForestCourtsModel", "isMet", "(II)Z"⟩ ∈ TT := in_sl (List.mem_of_getElem? (i := 65) rfl) rfl
theorem tw_66 : Cond.selects "ForestCourtsModel" ⟨"ForestCourtsModel", "boundsOf", "(I)I"⟩ ⟨"ForestCourtsModel", "boundsOf", "(I)I"⟩ ∈ TT := in_sl (List.mem_of_getElem? (i := 66) rfl) rfl
theorem tw_67 : Cond.selects "ForestCourtsModel" ⟨"ForestCourtsModel", "placed", "(III)I"⟩ ⟨"ForestCourtsModel", "placed", "(III)I"⟩ ∈ TT := in_sl (List.mem_of_getElem? (i := 67) rfl) rfl
theorem tw_68 : Cond.selects "ForestCourtsModel" ⟨"ForestCourtsModel", "isNear", "(III)Z"⟩ ⟨"ForestCourtsModel", "isNear", "(III)Z"⟩ ∈ TT := in_sl (List.mem_of_getElem? (i := 68) rfl) rfl
theorem tw_69 : Cond.selects "ForestCourtsModel" ⟨"ForestCourtsModel", "walks", "(II)V"⟩ ⟨"ForestCourtsModel", "walks", "(II)V"⟩ ∈ TT := in_sl (List.mem_of_getElem? (i := 69) rfl) rfl
theorem tw_70 : Cond.selects "ForestCourtsModel" ⟨"ForestCourtsModel", "sides", "()I"⟩ ⟨"ForestCourtsModel", "sides", "()I"⟩ ∈ TT := in_sl (List.mem_of_getElem? (i := 70) rfl) rfl
theorem tw_71 : Cond.selects "ForestCourtsModel" ⟨"ForestCourtsModel", "blanks", "()V"⟩ ⟨"ForestCourtsModel", "blanks", "()V"⟩ ∈ TT := in_sl (List.mem_of_getElem? (i := 71) rfl) rfl
theorem tw_72 : Cond.selects "ForestCourtsModel" ⟨"ForestCourtsModel", "byteAt", "(I)I"⟩ ⟨"ForestCourtsModel", "byteAt", "(I)I"⟩ ∈ TT := in_sl (List.mem_of_getElem? (i := 72) rfl) rfl
theorem tw_73 : Cond.selects "ForestCourtsModel" ⟨"ForestCourtsModel", "clauseHere", "()I"⟩ ⟨"ForestCourtsModel", "clauseHere", "()I"⟩ ∈ TT := in_sl (List.mem_of_getElem? (i := 73) rfl) rfl
theorem tw_74 : Cond.selects "ForestCourtsModel" ⟨"ForestCourtsModel", "isWord", "(Ljava/lang/String;)Z"⟩ ⟨"ForestCourtsModel", "isWord", "(Ljava/lang/String;)Z"⟩ ∈ TT := in_sl (List.mem_of_getElem? (i := 74) rfl) rfl
theorem tw_75 : Cond.selects "ForestCourtsModel" ⟨"ForestCourtsModel", "wrong", "(II)V"⟩ ⟨"ForestCourtsModel", "wrong", "(II)V"⟩ ∈ TT := in_sl (List.mem_of_getElem? (i := 75) rfl) rfl
theorem tw_76 : Cond.selects "ForestCourtsModel" ⟨"ForestCourtsModel", "clause", "(I)V"⟩ ⟨"ForestCourtsModel", "clause", "(I)V"⟩ ∈ TT := in_sl (List.mem_of_getElem? (i := 76) rfl) rfl
theorem tw_77 : Cond.selects "ForestCourtsModel" ⟨"ForestCourtsModel", "act", "()I"⟩ ⟨"ForestCourtsModel", "act", "()I"⟩ ∈ TT := in_sl (List.mem_of_getElem? (i := 77) rfl) rfl
theorem tw_78 : Cond.selects "ForestCourtsModel" ⟨"ForestCourtsModel", "eat", "(Ljava/lang/String;)Z"⟩ ⟨"ForestCourtsModel", "eat", "(Ljava/lang/String;)Z"⟩ ∈ TT := in_sl (List.mem_of_getElem? (i := 78) rfl) rfl
theorem tw_79 : Cond.selects "ForestCourtsModel" ⟨"ForestCourtsModel", "sign", "(I)V"⟩ ⟨"ForestCourtsModel", "sign", "(I)V"⟩ ∈ TT := in_sl (List.mem_of_getElem? (i := 79) rfl) rfl
theorem tw_80 : Cond.selects "ForestCourtsModel" ⟨"ForestCourtsModel", "sum", "()V"⟩ ⟨"ForestCourtsModel", "sum", "()V"⟩ ∈ TT := in_sl (List.mem_of_getElem? (i := 80) rfl) rfl
theorem tw_81 : Cond.selects "ForestCourtsModel" ⟨"ForestCourtsModel", "product", "()V"⟩ ⟨"ForestCourtsModel", "product", "()V"⟩ ∈ TT := in_sl (List.mem_of_getElem? (i := 81) rfl) rfl
theorem tw_82 : Cond.selects "ForestCourtsModel" ⟨"ForestCourtsModel", "unit", "()V"⟩ ⟨"ForestCourtsModel", "unit", "()V"⟩ ∈ TT := in_sl (List.mem_of_getElem? (i := 82) rfl) rfl
theorem tw_83 : Cond.selects "ForestCourtsModel" ⟨"ForestCourtsModel", "figures", "(II)I"⟩ ⟨"ForestCourtsModel", "figures", "(II)I"⟩ ∈ TT := in_sl (List.mem_of_getElem? (i := 83) rfl) rfl
theorem tw_84 : Cond.selects "ForestCourtsModel" ⟨"ForestCourtsModel", "emits", "(II)V"⟩ ⟨"ForestCourtsModel", "emits", "(II)V"⟩ ∈ TT := in_sl (List.mem_of_getElem? (i := 84) rfl) rfl
theorem tw_85 : Cond.selects "ForestCourtsModel" ⟨"ForestCourtsModel", "opens", "(I)V"⟩ ⟨"ForestCourtsModel", "opens", "(I)V"⟩ ∈ TT := in_sl (List.mem_of_getElem? (i := 85) rfl) rfl
theorem tw_86 : Cond.selects "ForestCourtsModel" ⟨"ForestCourtsModel", "closes", "(I)V"⟩ ⟨"ForestCourtsModel", "closes", "(I)V"⟩ ∈ TT := in_sl (List.mem_of_getElem? (i := 86) rfl) rfl
theorem tw_87 : Cond.selects "ForestCourtsModel" ⟨"ForestCourtsModel", "ors", "()V"⟩ ⟨"ForestCourtsModel", "ors", "()V"⟩ ∈ TT := in_sl (List.mem_of_getElem? (i := 87) rfl) rfl
theorem tw_88 : Cond.selects "ForestCourtsModel" ⟨"ForestCourtsModel", "ands", "()V"⟩ ⟨"ForestCourtsModel", "ands", "()V"⟩ ∈ TT := in_sl (List.mem_of_getElem? (i := 88) rfl) rfl
theorem tw_89 : Cond.selects "ForestCourtsModel" ⟨"ForestCourtsModel", "test", "()V"⟩ ⟨"ForestCourtsModel", "test", "()V"⟩ ∈ TT := in_sl (List.mem_of_getElem? (i := 89) rfl) rfl
theorem tw_90 : Cond.selects "ForestCourtsModel" ⟨"ForestCourtsModel", "isText", "(I)Z"⟩ ⟨"ForestCourtsModel", "isText", "(I)Z"⟩ ∈ TT := in_sl (List.mem_of_getElem? (i := 90) rfl) rfl
theorem tw_91 : Cond.selects "ForestCourtsModel" ⟨"ForestCourtsModel", "forces", "(I)V"⟩ ⟨"ForestCourtsModel", "forces", "(I)V"⟩ ∈ TT := in_sl (List.mem_of_getElem? (i := 91) rfl) rfl
theorem tw_92 : Cond.selects "ForestCourtsModel" ⟨"ForestCourtsModel", "ruleOf", "(II)I"⟩ ⟨"ForestCourtsModel", "ruleOf", "(II)I"⟩ ∈ TT := in_sl (List.mem_of_getElem? (i := 92) rfl) rfl
theorem tw_93 : Cond.selects "ForestCourtsModel" ⟨"ForestCourtsModel", "isPerson", "(I)Z"⟩ ⟨"ForestCourtsModel", "isPerson", "(I)Z"⟩ ∈ TT := in_sl (List.mem_of_getElem? (i := 93) rfl) rfl
theorem tw_94 : Cond.selects "ForestCourtsModel" ⟨"ForestCourtsModel", "isDead", "(I)Z"⟩ ⟨"ForestCourtsModel", "isDead", "(I)Z"⟩ ∈ TT := in_sl (List.mem_of_getElem? (i := 94) rfl) rfl
theorem tw_95 : Cond.selects "ForestCourtsModel" ⟨"ForestCourtsModel", "owes", "(I)I"⟩ ⟨"ForestCourtsModel", "owes", "(I)I"⟩ ∈ TT := in_sl (List.mem_of_getElem? (i := 95) rfl) rfl
theorem tw_96 : Cond.selects "ForestCourtsModel" ⟨"ForestCourtsModel", "isDeed", "(I)Z"⟩ ⟨"ForestCourtsModel", "isDeed", "(I)Z"⟩ ∈ TT := in_sl (List.mem_of_getElem? (i := 96) rfl) rfl
theorem tw_97 : Cond.selects "ForestCourtsModel" ⟨"ForestCourtsModel", "isBarred", "(I)Z"⟩ ⟨"ForestCourtsModel", "isBarred", "(I)Z"⟩ ∈ TT := in_sl (List.mem_of_getElem? (i := 97) rfl) rfl
theorem tw_98 : Cond.selects "ForestCourtsModel" ⟨"ForestCourtsModel", "words", "(I)V"⟩ ⟨"ForestCourtsModel", "words", "(I)V"⟩ ∈ TT := in_sl (List.mem_of_getElem? (i := 98) rfl) rfl
theorem tw_99 : Cond.selects "ForestCourtsModel" ⟨"ForestCourtsModel", "deedPlace", "(I)I"⟩ ⟨"ForestCourtsModel", "deedPlace", "(I)I"⟩ ∈ TT := in_sl (List.mem_of_getElem? (i := 99) rfl) rfl
theorem tw_100 : Cond.selects "ForestCourtsModel" ⟨"ForestCourtsModel", "value", "(IIII)I"⟩ ⟨"ForestCourtsModel", "value", "(IIII)I"⟩ ∈ TT := in_sl (List.mem_of_getElem? (i := 100) rfl) rfl
theorem tw_101 : Cond.selects "ForestCourtsModel" ⟨"ForestCourtsModel", "valueOf", "(III)I"⟩ ⟨"ForestCourtsModel", "valueOf", "(III)I"⟩ ∈ TT := in_sl (List.mem_of_getElem? (i := 101) rfl) rfl
theorem tw_102 : Cond.selects "ForestCourtsModel" ⟨"ForestCourtsModel", "sureOf", "(II)I"⟩ ⟨"ForestCourtsModel", "sureOf", "(II)I"⟩ ∈ TT := in_sl (List.mem_of_getElem? (i := 102) rfl) rfl
theorem tw_103 : Cond.selects "ForestCourtsModel" ⟨"ForestCourtsModel", "isCase", "(I)Z"⟩ ⟨"ForestCourtsModel", "isCase", "(I)Z"⟩ ∈ TT := in_sl (List.mem_of_getElem? (i := 103) rfl) rfl
theorem tw_104 : Cond.selects "ForestCourtsModel" ⟨"ForestCourtsModel", "sits", "(I)V"⟩ ⟨"ForestCourtsModel", "sits", "(I)V"⟩ ∈ TT := in_sl (List.mem_of_getElem? (i := 104) rfl) rfl
theorem tw_105 : Cond.selects "ForestCourtsModel" ⟨"ForestCourtsModel", "isAnswered", "(I)Z"⟩ ⟨"ForestCourtsModel", "isAnswered", "(I)Z"⟩ ∈ TT := in_sl (List.mem_of_getElem? (i := 105) rfl) rfl
theorem tw_106 : Cond.selects "ForestCourtsModel" ⟨"ForestCourtsModel", "becomes", "(II)V"⟩ ⟨"ForestCourtsModel", "becomes", "(II)V"⟩ ∈ TT := in_sl (List.mem_of_getElem? (i := 106) rfl) rfl
theorem tw_107 : Cond.selects "ForestCourtsModel" ⟨"ForestCourtsModel", "asks", "(I)V"⟩ ⟨"ForestCourtsModel", "asks", "(I)V"⟩ ∈ TT := in_sl (List.mem_of_getElem? (i := 107) rfl) rfl
theorem tw_108 : Cond.selects "ForestCourtsModel" ⟨"ForestCourtsModel", "pays", "(IIII)V"⟩ ⟨"ForestCourtsModel", "pays", "(IIII)V"⟩ ∈ TT := in_sl (List.mem_of_getElem? (i := 108) rfl) rfl
theorem tw_109 : Cond.selects "ForestCourtsModel" ⟨"ForestCourtsModel", "gains", "(II)V"⟩ ⟨"ForestCourtsModel", "gains", "(II)V"⟩ ∈ TT := in_sl (List.mem_of_getElem? (i := 109) rfl) rfl
theorem tw_110 : Cond.selects "ForestCourtsModel" ⟨"ForestCourtsModel", "payer", "(I)I"⟩ ⟨"ForestCourtsModel", "payer", "(I)I"⟩ ∈ TT := in_sl (List.mem_of_getElem? (i := 110) rfl) rfl
theorem tw_111 : Cond.selects "ForestCourtsModel" ⟨"ForestCourtsModel", "lists", "()Z"⟩ ⟨"ForestCourtsModel", "lists", "()Z"⟩ ∈ TT := in_sl (List.mem_of_getElem? (i := 111) rfl) rfl
theorem tw_112 : Cond.selects "ForestCourtsModel" ⟨"ForestCourtsModel", "isListed", "(I)Z"⟩ ⟨"ForestCourtsModel", "isListed", "(I)Z"⟩ ∈ TT := in_sl (List.mem_of_getElem? (i := 112) rfl) rfl
theorem tw_113 : Cond.selects "ForestCourtsModel" ⟨"ForestCourtsModel", "placeIn", "(II)I"⟩ ⟨"ForestCourtsModel", "placeIn", "(II)I"⟩ ∈ TT := in_sl (List.mem_of_getElem? (i := 113) rfl) rfl
theorem tw_114 : Cond.selects "ForestCourtsModel" ⟨"ForestCourtsModel", "orders", "(III)V"⟩ ⟨"ForestCourtsModel", "orders", "(III)V"⟩ ∈ TT := in_sl (List.mem_of_getElem? (i := 114) rfl) rfl
theorem tw_115 : Cond.selects "ForestCourtsModel" ⟨"ForestCourtsModel", "sumOf", "(I)I"⟩ ⟨"ForestCourtsModel", "sumOf", "(I)I"⟩ ∈ TT := in_sl (List.mem_of_getElem? (i := 115) rfl) rfl
theorem tw_116 : Cond.selects "ForestCourtsModel" ⟨"ForestCourtsModel", "apart", "(II)I"⟩ ⟨"ForestCourtsModel", "apart", "(II)I"⟩ ∈ TT := in_sl (List.mem_of_getElem? (i := 116) rfl) rfl
theorem tw_117 : Cond.selects "ForestCourtsModel" ⟨"ForestCourtsModel", "beaten", "()Z"⟩ ⟨"ForestCourtsModel", "beaten", "()Z"⟩ ∈ TT := in_sl (List.mem_of_getElem? (i := 117) rfl) rfl
theorem tw_118 : Cond.selects "ForestCourtsModel" ⟨"ForestCourtsModel", "rounds", "(I)V"⟩ ⟨"ForestCourtsModel", "rounds", "(I)V"⟩ ∈ TT := in_sl (List.mem_of_getElem? (i := 118) rfl) rfl
theorem tw_119 : Cond.selects "ForestCourtsModel" ⟨"ForestCourtsModel", "gives", "(IIIIZ)V"⟩ ⟨"ForestCourtsModel", "gives", "(IIIIZ)V"⟩ ∈ TT := in_sl (List.mem_of_getElem? (i := 119) rfl) rfl
theorem tw_120 : Cond.selects "ForestCourtsModel" ⟨"ForestCourtsModel", "isWood", "(I)Z"⟩ ⟨"ForestCourtsModel", "isWood", "(I)Z"⟩ ∈ TT := in_sl (List.mem_of_getElem? (i := 120) rfl) rfl
theorem tw_121 : Cond.selects "ForestCourtsModel" ⟨"ForestCourtsModel", "left", "(IIIII)I"⟩ ⟨"ForestCourtsModel", "left", "(IIIII)I"⟩ ∈ TT := in_sl (List.mem_of_getElem? (i := 121) rfl) rfl
theorem tw_122 : Cond.initialized "ForestCourtsLaw" ∈ TT := in_tb (tb_1 (List.mem_of_getElem? (i := 0) rfl)) rfl
theorem tw_123 : Cond.initialized "ForestCourts" ∈ TT := in_tb (tb_1 (List.mem_of_getElem? (i := 1) rfl)) rfl
theorem tw_124 : Cond.initialized "ForestCourts$Table" ∈ TT := in_tb (tb_1 (List.mem_of_getElem? (i := 2) rfl)) rfl
theorem tw_125 : Cond.initialized "java/lang/Math" ∈ TT := in_tb (tb_1 (List.mem_of_getElem? (i := 3) rfl)) rfl
theorem tw_126 : Cond.initialized "ForestCourts$Ground" ∈ TT := in_tb (tb_1 (List.mem_of_getElem? (i := 4) rfl)) rfl
theorem tw_127 : Cond.initialized "ForestCourts$Search" ∈ TT := in_tb (tb_1 (List.mem_of_getElem? (i := 5) rfl)) rfl
theorem tw_128 : Cond.initialized "ForestCourts$Laws" ∈ TT := in_tb (tb_1 (List.mem_of_getElem? (i := 6) rfl)) rfl
theorem tw_129 : Cond.initialized "ForestCourts$Reader" ∈ TT := in_tb (tb_1 (List.mem_of_getElem? (i := 7) rfl)) rfl
theorem tw_130 : Cond.initialized "ForestCourts$People" ∈ TT := in_tb (tb_1 (List.mem_of_getElem? (i := 8) rfl)) rfl
theorem tw_131 : Cond.initialized "ForestCourts$Claims" ∈ TT := in_tb (tb_1 (List.mem_of_getElem? (i := 9) rfl)) rfl
theorem tw_132 : Cond.initialized "ForestCourts$Courts" ∈ TT := in_tb (tb_1 (List.mem_of_getElem? (i := 10) rfl)) rfl
theorem tw_133 : Cond.initialized "java/util/Arrays" ∈ TT := in_tb (tb_1 (List.mem_of_getElem? (i := 11) rfl)) rfl
theorem tw_134 : Cond.initialized "java/lang/System" ∈ TT := in_tb (tb_1 (List.mem_of_getElem? (i := 12) rfl)) rfl
theorem tw_135 : Cond.initialized "ForestCourts$Rolls" ∈ TT := in_tb (tb_1 (List.mem_of_getElem? (i := 13) rfl)) rfl
theorem tw_136 : Cond.initialized "ForestCourts$Patrols" ∈ TT := in_tb (tb_1 (List.mem_of_getElem? (i := 14) rfl)) rfl
theorem tw_137 : Cond.initialized "ForestCourts$Woods" ∈ TT := in_tb (tb_1 (List.mem_of_getElem? (i := 15) rfl)) rfl
theorem tw_138 : Cond.initialized "ForestCourtsModel" ∈ TT := in_tb (tb_1 (List.mem_of_getElem? (i := 16) rfl)) rfl
theorem tw_142 : Cond.initialized "java/lang/IllegalArgumentException" ∈ TT := in_tb (tb_1 (List.mem_of_getElem? (i := 20) rfl)) rfl
theorem tw_143 : Cond.initialized "java/lang/IllegalStateException" ∈ TT := in_tb (tb_1 (List.mem_of_getElem? (i := 21) rfl)) rfl
theorem tw_144 : Cond.initialized "java/lang/IndexOutOfBoundsException" ∈ TT := in_tb (tb_1 (List.mem_of_getElem? (i := 22) rfl)) rfl
theorem tw_145 : Cond.initialized "java/lang/String" ∈ TT := in_tb (tb_1 (List.mem_of_getElem? (i := 23) rfl)) rfl
theorem tw_146 : Cond.initialized "java/lang/StringLatin1" ∈ TT := in_tb (tb_1 (List.mem_of_getElem? (i := 24) rfl)) rfl
theorem tw_147 : Cond.initialized "jdk/internal/util/Preconditions" ∈ TT := in_tb (tb_1 (List.mem_of_getElem? (i := 25) rfl)) rfl
theorem tw_149 : Cond.initialized "java/lang/Long" ∈ TT := in_tb (tb_1 (List.mem_of_getElem? (i := 27) rfl)) rfl
theorem tw_164 : Cond.methodLink "ForestCourts$Table" 18 ⟨"java/lang/Math", "max", "(II)I"⟩ ∈ TT := in_tb (tb_1 (List.mem_of_getElem? (i := 42) rfl)) rfl
theorem tw_165 : Cond.static ⟨"java/lang/Math", "max", "(II)I"⟩ ∈ TT := in_tb (tb_1 (List.mem_of_getElem? (i := 43) rfl)) rfl
theorem tw_166 : Cond.code ⟨"java/lang/Math", "max", "(II)I"⟩ prog_21_method_65_code 2 (Option.some FieldType.int) ∈ TT := in_tb (tb_1 (List.mem_of_getElem? (i := 44) rfl)) rfl
theorem tw_167 : Cond.fieldLink "ForestCourts$Table" 9 "ForestCourts$Table" "width" "I" ∈ TT := in_tb (tb_1 (List.mem_of_getElem? (i := 45) rfl)) rfl
theorem tw_168 : Cond.fieldLink "ForestCourts$Table" 15 "ForestCourts$Table" "limit" "I" ∈ TT := in_tb (tb_1 (List.mem_of_getElem? (i := 46) rfl)) rfl
theorem tw_169 : Cond.fieldLink "ForestCourts$Table" 24 "ForestCourts$Table" "cells" "[I" ∈ TT := in_tb (tb_1 (List.mem_of_getElem? (i := 47) rfl)) rfl
theorem tw_170 : Cond.fieldLink "ForestCourts$Table" 28 "ForestCourts$Table" "rows" "I" ∈ TT := in_tb (tb_1 (List.mem_of_getElem? (i := 48) rfl)) rfl
theorem tw_171 : Cond.laysFinal "ForestCourts$Table" "ForestCourts$Table" "width" "I" ∈ TT := in_tb (tb_1 (List.mem_of_getElem? (i := 49) rfl)) rfl
theorem tw_173 : Cond.laysFinal "ForestCourts$Table" "ForestCourts$Table" "limit" "I" ∈ TT := in_tb (tb_1 (List.mem_of_getElem? (i := 51) rfl)) rfl
theorem tw_175 : Cond.lays "ForestCourts$Table" "ForestCourts$Table" "cells" "[I" ∈ TT := in_tb (tb_1 (List.mem_of_getElem? (i := 53) rfl)) rfl
theorem tw_177 : Cond.lays "ForestCourts$Table" "ForestCourts$Table" "rows" "I" ∈ TT := in_tb (tb_1 (List.mem_of_getElem? (i := 55) rfl)) rfl
theorem tw_180 : Cond.arrayClass FieldType.int ∈ TT := in_tb (tb_1 (List.mem_of_getElem? (i := 58) rfl)) rfl
theorem tw_189 : Cond.fieldLink "ForestCourts$Ground" 16 "ForestCourts$Ground" "marks" "LForestCourts$Table;" ∈ TT := in_tb (tb_1 (List.mem_of_getElem? (i := 67) rfl)) rfl
theorem tw_190 : Cond.fieldLink "ForestCourts" 123 "ForestCourts$Ground" "marks" "LForestCourts$Table;" ∈ TT := in_tb (tb_1 (List.mem_of_getElem? (i := 68) rfl)) rfl
theorem tw_191 : Cond.fieldLink "ForestCourts$Search" 52 "ForestCourts$Ground" "marks" "LForestCourts$Table;" ∈ TT := in_tb (tb_1 (List.mem_of_getElem? (i := 69) rfl)) rfl
theorem tw_192 : Cond.fieldLink "ForestCourts$Ground" 20 "ForestCourts$Ground" "rings" "LForestCourts$Table;" ∈ TT := in_tb (tb_1 (List.mem_of_getElem? (i := 70) rfl)) rfl
theorem tw_193 : Cond.fieldLink "ForestCourts" 145 "ForestCourts$Ground" "rings" "LForestCourts$Table;" ∈ TT := in_tb (tb_1 (List.mem_of_getElem? (i := 71) rfl)) rfl
theorem tw_194 : Cond.fieldLink "ForestCourts$Ground" 23 "ForestCourts$Ground" "row" "[I" ∈ TT := in_tb (tb_1 (List.mem_of_getElem? (i := 72) rfl)) rfl
theorem tw_195 : Cond.fieldLinkNest "ForestCourts" 157 "ForestCourts$Ground" "strip" "I" "ForestCourts" ∈ NN := in_tN (tb_1 (List.mem_of_getElem? (i := 73) rfl)) rfl
theorem tw_196 : Cond.fieldLink "ForestCourts$Ground" 104 "ForestCourts$Ground" "strip" "I" ∈ TT := in_tb (tb_1 (List.mem_of_getElem? (i := 74) rfl)) rfl
theorem tw_197 : Cond.laysFinal "ForestCourts$Ground" "ForestCourts$Ground" "marks" "LForestCourts$Table;" ∈ TT := in_tb (tb_1 (List.mem_of_getElem? (i := 75) rfl)) rfl
theorem tw_199 : Cond.laysFinal "ForestCourts$Ground" "ForestCourts$Ground" "rings" "LForestCourts$Table;" ∈ TT := in_tb (tb_1 (List.mem_of_getElem? (i := 77) rfl)) rfl
theorem tw_201 : Cond.laysFinal "ForestCourts$Ground" "ForestCourts$Ground" "row" "[I" ∈ TT := in_tb (tb_1 (List.mem_of_getElem? (i := 79) rfl)) rfl
theorem tw_203 : Cond.lays "ForestCourts$Ground" "ForestCourts$Ground" "strip" "I" ∈ TT := in_tb (tb_1 (List.mem_of_getElem? (i := 81) rfl)) rfl
theorem tw_212 : Cond.fieldLink "ForestCourts$Search" 9 "ForestCourts$Search" "ground" "LForestCourts$Ground;" ∈ TT := in_tb (tb_1 (List.mem_of_getElem? (i := 90) rfl)) rfl
theorem tw_213 : Cond.fieldLink "ForestCourts$Search" 15 "ForestCourts$Search" "names" "[I" ∈ TT := in_tb (tb_1 (List.mem_of_getElem? (i := 91) rfl)) rfl
theorem tw_214 : Cond.fieldLink "ForestCourts$Search" 19 "ForestCourts$Search" "row" "[I" ∈ TT := in_tb (tb_1 (List.mem_of_getElem? (i := 92) rfl)) rfl
theorem tw_215 : Cond.fieldLink "ForestCourts$Search" 22 "ForestCourts$Search" "best" "[I" ∈ TT := in_tb (tb_1 (List.mem_of_getElem? (i := 93) rfl)) rfl
theorem tw_216 : Cond.fieldLink "ForestCourts$Search" 35 "ForestCourts$Search" "size" "I" ∈ TT := in_tb (tb_1 (List.mem_of_getElem? (i := 94) rfl)) rfl
theorem tw_217 : Cond.fieldLink "ForestCourts$Search" 45 "ForestCourts$Search" "shortest" "I" ∈ TT := in_tb (tb_1 (List.mem_of_getElem? (i := 95) rfl)) rfl
theorem tw_218 : Cond.fieldLink "ForestCourts$Search" 31 "ForestCourts$Search" "found" "I" ∈ TT := in_tb (tb_1 (List.mem_of_getElem? (i := 96) rfl)) rfl
theorem tw_219 : Cond.fieldLinkNest "ForestCourts" 174 "ForestCourts$Search" "found" "I" "ForestCourts" ∈ NN := in_tN (tb_1 (List.mem_of_getElem? (i := 97) rfl)) rfl
theorem tw_220 : Cond.laysFinal "ForestCourts$Search" "ForestCourts$Search" "ground" "LForestCourts$Ground;" ∈ TT := in_tb (tb_1 (List.mem_of_getElem? (i := 98) rfl)) rfl
theorem tw_222 : Cond.laysFinal "ForestCourts$Search" "ForestCourts$Search" "names" "[I" ∈ TT := in_tb (tb_1 (List.mem_of_getElem? (i := 100) rfl)) rfl
theorem tw_224 : Cond.laysFinal "ForestCourts$Search" "ForestCourts$Search" "row" "[I" ∈ TT := in_tb (tb_1 (List.mem_of_getElem? (i := 102) rfl)) rfl
theorem tw_226 : Cond.laysFinal "ForestCourts$Search" "ForestCourts$Search" "best" "[I" ∈ TT := in_tb (tb_1 (List.mem_of_getElem? (i := 104) rfl)) rfl
theorem tw_228 : Cond.lays "ForestCourts$Search" "ForestCourts$Search" "size" "I" ∈ TT := in_tb (tb_1 (List.mem_of_getElem? (i := 106) rfl)) rfl
theorem tw_230 : Cond.lays "ForestCourts$Search" "ForestCourts$Search" "shortest" "I" ∈ TT := in_tb (tb_1 (List.mem_of_getElem? (i := 108) rfl)) rfl
theorem tw_232 : Cond.lays "ForestCourts$Search" "ForestCourts$Search" "found" "I" ∈ TT := in_tb (tb_1 (List.mem_of_getElem? (i := 110) rfl)) rfl
theorem tw_249 : Cond.fieldLink "ForestCourts$Reader" 9 "ForestCourts$Reader" "tape" "LForestCourts$Table;" ∈ TT := in_tb (tb_1 (List.mem_of_getElem? (i := 127) rfl)) rfl
theorem tw_250 : Cond.fieldLink "ForestCourts$Reader" 15 "ForestCourts$Reader" "clauses" "LForestCourts$Table;" ∈ TT := in_tb (tb_1 (List.mem_of_getElem? (i := 128) rfl)) rfl
theorem tw_251 : Cond.fieldLink "ForestCourts$Reader" 18 "ForestCourts$Reader" "code" "LForestCourts$Table;" ∈ TT := in_tb (tb_1 (List.mem_of_getElem? (i := 129) rfl)) rfl
theorem tw_252 : Cond.fieldLink "ForestCourts$Reader" 27 "ForestCourts$Reader" "end" "I" ∈ TT := in_tb (tb_1 (List.mem_of_getElem? (i := 130) rfl)) rfl
theorem tw_253 : Cond.fieldLink "ForestCourts$Reader" 31 "ForestCourts$Reader" "at" "I" ∈ TT := in_tb (tb_1 (List.mem_of_getElem? (i := 131) rfl)) rfl
theorem tw_254 : Cond.fieldLink "ForestCourts$Reader" 34 "ForestCourts$Reader" "text" "I" ∈ TT := in_tb (tb_1 (List.mem_of_getElem? (i := 132) rfl)) rfl
theorem tw_255 : Cond.fieldLink "ForestCourts$Reader" 37 "ForestCourts$Reader" "fault" "I" ∈ TT := in_tb (tb_1 (List.mem_of_getElem? (i := 133) rfl)) rfl
theorem tw_256 : Cond.fieldLinkNest "ForestCourts$Laws" 67 "ForestCourts$Reader" "fault" "I" "ForestCourts" ∈ NN := in_tN (tb_1 (List.mem_of_getElem? (i := 134) rfl)) rfl
theorem tw_257 : Cond.fieldLink "ForestCourts$Reader" 40 "ForestCourts$Reader" "place" "I" ∈ TT := in_tb (tb_1 (List.mem_of_getElem? (i := 135) rfl)) rfl
theorem tw_258 : Cond.fieldLinkNest "ForestCourts$Laws" 70 "ForestCourts$Reader" "place" "I" "ForestCourts" ∈ NN := in_tN (tb_1 (List.mem_of_getElem? (i := 136) rfl)) rfl
theorem tw_259 : Cond.laysFinal "ForestCourts$Reader" "ForestCourts$Reader" "tape" "LForestCourts$Table;" ∈ TT := in_tb (tb_1 (List.mem_of_getElem? (i := 137) rfl)) rfl
theorem tw_261 : Cond.laysFinal "ForestCourts$Reader" "ForestCourts$Reader" "clauses" "LForestCourts$Table;" ∈ TT := in_tb (tb_1 (List.mem_of_getElem? (i := 139) rfl)) rfl
theorem tw_263 : Cond.laysFinal "ForestCourts$Reader" "ForestCourts$Reader" "code" "LForestCourts$Table;" ∈ TT := in_tb (tb_1 (List.mem_of_getElem? (i := 141) rfl)) rfl
theorem tw_265 : Cond.lays "ForestCourts$Reader" "ForestCourts$Reader" "end" "I" ∈ TT := in_tb (tb_1 (List.mem_of_getElem? (i := 143) rfl)) rfl
theorem tw_267 : Cond.lays "ForestCourts$Reader" "ForestCourts$Reader" "at" "I" ∈ TT := in_tb (tb_1 (List.mem_of_getElem? (i := 145) rfl)) rfl
theorem tw_269 : Cond.lays "ForestCourts$Reader" "ForestCourts$Reader" "text" "I" ∈ TT := in_tb (tb_1 (List.mem_of_getElem? (i := 147) rfl)) rfl
theorem tw_271 : Cond.lays "ForestCourts$Reader" "ForestCourts$Reader" "fault" "I" ∈ TT := in_tb (tb_1 (List.mem_of_getElem? (i := 149) rfl)) rfl
theorem tw_273 : Cond.lays "ForestCourts$Reader" "ForestCourts$Reader" "place" "I" ∈ TT := in_tb (tb_1 (List.mem_of_getElem? (i := 151) rfl)) rfl
theorem tw_276 : Cond.fieldLink "ForestCourts$Laws" 16 "ForestCourts$Laws" "texts" "LForestCourts$Table;" ∈ TT := in_tb (tb_1 (List.mem_of_getElem? (i := 154) rfl)) rfl
theorem tw_277 : Cond.fieldLink "ForestCourts$Courts" 116 "ForestCourts$Laws" "texts" "LForestCourts$Table;" ∈ TT := in_tb (tb_1 (List.mem_of_getElem? (i := 155) rfl)) rfl
theorem tw_278 : Cond.fieldLink "ForestCourts" 183 "ForestCourts$Laws" "texts" "LForestCourts$Table;" ∈ TT := in_tb (tb_1 (List.mem_of_getElem? (i := 156) rfl)) rfl
theorem tw_279 : Cond.fieldLink "ForestCourts$Laws" 22 "ForestCourts$Laws" "clauses" "LForestCourts$Table;" ∈ TT := in_tb (tb_1 (List.mem_of_getElem? (i := 157) rfl)) rfl
theorem tw_280 : Cond.fieldLink "ForestCourts$Laws" 25 "ForestCourts$Laws" "code" "LForestCourts$Table;" ∈ TT := in_tb (tb_1 (List.mem_of_getElem? (i := 158) rfl)) rfl
theorem tw_281 : Cond.fieldLink "ForestCourts$Laws" 31 "ForestCourts$Laws" "reader" "LForestCourts$Reader;" ∈ TT := in_tb (tb_1 (List.mem_of_getElem? (i := 159) rfl)) rfl
theorem tw_282 : Cond.fieldLink "ForestCourts$Laws" 35 "ForestCourts$Laws" "held" "[I" ∈ TT := in_tb (tb_1 (List.mem_of_getElem? (i := 160) rfl)) rfl
theorem tw_283 : Cond.fieldLink "ForestCourts$Laws" 39 "ForestCourts$Laws" "faultPlace" "I" ∈ TT := in_tb (tb_1 (List.mem_of_getElem? (i := 161) rfl)) rfl
theorem tw_284 : Cond.fieldLinkNest "ForestCourts" 180 "ForestCourts$Laws" "faultPlace" "I" "ForestCourts" ∈ NN := in_tN (tb_1 (List.mem_of_getElem? (i := 162) rfl)) rfl
theorem tw_285 : Cond.fieldLink "ForestCourts$Laws" 43 "ForestCourts$Laws" "word" "I" ∈ TT := in_tb (tb_1 (List.mem_of_getElem? (i := 163) rfl)) rfl
theorem tw_286 : Cond.fieldLink "ForestCourts$Laws" 46 "ForestCourts$Laws" "saidFine" "I" ∈ TT := in_tb (tb_1 (List.mem_of_getElem? (i := 164) rfl)) rfl
theorem tw_287 : Cond.laysFinal "ForestCourts$Laws" "ForestCourts$Laws" "texts" "LForestCourts$Table;" ∈ TT := in_tb (tb_1 (List.mem_of_getElem? (i := 165) rfl)) rfl
theorem tw_289 : Cond.laysFinal "ForestCourts$Laws" "ForestCourts$Laws" "clauses" "LForestCourts$Table;" ∈ TT := in_tb (tb_1 (List.mem_of_getElem? (i := 167) rfl)) rfl
theorem tw_291 : Cond.laysFinal "ForestCourts$Laws" "ForestCourts$Laws" "code" "LForestCourts$Table;" ∈ TT := in_tb (tb_1 (List.mem_of_getElem? (i := 169) rfl)) rfl
theorem tw_293 : Cond.laysFinal "ForestCourts$Laws" "ForestCourts$Laws" "reader" "LForestCourts$Reader;" ∈ TT := in_tb (tb_1 (List.mem_of_getElem? (i := 171) rfl)) rfl
theorem tw_295 : Cond.laysFinal "ForestCourts$Laws" "ForestCourts$Laws" "held" "[I" ∈ TT := in_tb (tb_1 (List.mem_of_getElem? (i := 173) rfl)) rfl
theorem tw_297 : Cond.lays "ForestCourts$Laws" "ForestCourts$Laws" "faultPlace" "I" ∈ TT := in_tb (tb_1 (List.mem_of_getElem? (i := 175) rfl)) rfl
theorem tw_299 : Cond.lays "ForestCourts$Laws" "ForestCourts$Laws" "word" "I" ∈ TT := in_tb (tb_1 (List.mem_of_getElem? (i := 177) rfl)) rfl
theorem tw_301 : Cond.lays "ForestCourts$Laws" "ForestCourts$Laws" "saidFine" "I" ∈ TT := in_tb (tb_1 (List.mem_of_getElem? (i := 179) rfl)) rfl
theorem tw_312 : Cond.fieldLink "ForestCourts$People" 14 "ForestCourts$People" "rows" "LForestCourts$Table;" ∈ TT := in_tb (tb_1 (List.mem_of_getElem? (i := 190) rfl)) rfl
theorem tw_313 : Cond.fieldLink "ForestCourts$Courts" 67 "ForestCourts$People" "rows" "LForestCourts$Table;" ∈ TT := in_tb (tb_1 (List.mem_of_getElem? (i := 191) rfl)) rfl
theorem tw_314 : Cond.fieldLink "ForestCourts" 194 "ForestCourts$People" "rows" "LForestCourts$Table;" ∈ TT := in_tb (tb_1 (List.mem_of_getElem? (i := 192) rfl)) rfl
theorem tw_315 : Cond.laysFinal "ForestCourts$People" "ForestCourts$People" "rows" "LForestCourts$Table;" ∈ TT := in_tb (tb_1 (List.mem_of_getElem? (i := 193) rfl)) rfl
theorem tw_326 : Cond.fieldLink "ForestCourts$Claims" 24 "ForestCourts$Claims" "rows" "LForestCourts$Table;" ∈ TT := in_tb (tb_1 (List.mem_of_getElem? (i := 204) rfl)) rfl
theorem tw_327 : Cond.fieldLink "ForestCourts" 251 "ForestCourts$Claims" "rows" "LForestCourts$Table;" ∈ TT := in_tb (tb_1 (List.mem_of_getElem? (i := 205) rfl)) rfl
theorem tw_328 : Cond.fieldLink "ForestCourts$Claims" 28 "ForestCourts$Claims" "events" "LForestCourts$Table;" ∈ TT := in_tb (tb_1 (List.mem_of_getElem? (i := 206) rfl)) rfl
theorem tw_329 : Cond.fieldLink "ForestCourts$Claims" 9 "ForestCourts$Claims" "people" "LForestCourts$People;" ∈ TT := in_tb (tb_1 (List.mem_of_getElem? (i := 207) rfl)) rfl
theorem tw_330 : Cond.fieldLink "ForestCourts$Claims" 15 "ForestCourts$Claims" "laws" "LForestCourts$Laws;" ∈ TT := in_tb (tb_1 (List.mem_of_getElem? (i := 208) rfl)) rfl
theorem tw_331 : Cond.laysFinal "ForestCourts$Claims" "ForestCourts$Claims" "rows" "LForestCourts$Table;" ∈ TT := in_tb (tb_1 (List.mem_of_getElem? (i := 209) rfl)) rfl
theorem tw_333 : Cond.laysFinal "ForestCourts$Claims" "ForestCourts$Claims" "events" "LForestCourts$Table;" ∈ TT := in_tb (tb_1 (List.mem_of_getElem? (i := 211) rfl)) rfl
theorem tw_335 : Cond.laysFinal "ForestCourts$Claims" "ForestCourts$Claims" "people" "LForestCourts$People;" ∈ TT := in_tb (tb_1 (List.mem_of_getElem? (i := 213) rfl)) rfl
theorem tw_337 : Cond.laysFinal "ForestCourts$Claims" "ForestCourts$Claims" "laws" "LForestCourts$Laws;" ∈ TT := in_tb (tb_1 (List.mem_of_getElem? (i := 215) rfl)) rfl
theorem tw_348 : Cond.methodLink "ForestCourts$Courts" 45 ⟨"ForestCourts$Table", "add", "()I"⟩ ∈ TT := in_tb (tb_1 (List.mem_of_getElem? (i := 226) rfl)) rfl
theorem tw_349 : Cond.instanceMethod ⟨"ForestCourts$Table", "add", "()I"⟩ ∈ TT := in_tb (tb_1 (List.mem_of_getElem? (i := 227) rfl)) rfl
theorem tw_350 : Cond.selects "ForestCourts$Table" ⟨"ForestCourts$Table", "add", "()I"⟩ ⟨"ForestCourts$Table", "add", "()I"⟩ ∈ TT := in_tb (tb_1 (List.mem_of_getElem? (i := 228) rfl)) rfl
theorem tw_351 : Cond.code ⟨"ForestCourts$Table", "add", "()I"⟩ prog_11_method_5_code 3 (Option.some FieldType.int) ∈ TT := in_tb (tb_1 (List.mem_of_getElem? (i := 229) rfl)) rfl
theorem tw_352 : Cond.methodLink "ForestCourts$Table" 31 ⟨"ForestCourts$Table", "isFull", "()Z"⟩ ∈ TT := in_tb (tb_1 (List.mem_of_getElem? (i := 230) rfl)) rfl
theorem tw_353 : Cond.instanceMethod ⟨"ForestCourts$Table", "isFull", "()Z"⟩ ∈ TT := in_tb (tb_1 (List.mem_of_getElem? (i := 231) rfl)) rfl
theorem tw_354 : Cond.selects "ForestCourts$Table" ⟨"ForestCourts$Table", "isFull", "()Z"⟩ ⟨"ForestCourts$Table", "isFull", "()Z"⟩ ∈ TT := in_tb (tb_1 (List.mem_of_getElem? (i := 232) rfl)) rfl
theorem tw_355 : Cond.code ⟨"ForestCourts$Table", "isFull", "()Z"⟩ prog_11_method_4_code 1 (Option.some FieldType.boolean) ∈ TT := in_tb (tb_1 (List.mem_of_getElem? (i := 233) rfl)) rfl
theorem tw_356 : Cond.methodLink "ForestCourts$Table" 35 ⟨"java/util/Arrays", "copyOf", "([II)[I"⟩ ∈ TT := in_tb (tb_1 (List.mem_of_getElem? (i := 234) rfl)) rfl
theorem tw_357 : Cond.static ⟨"java/util/Arrays", "copyOf", "([II)[I"⟩ ∈ TT := in_tb (tb_1 (List.mem_of_getElem? (i := 235) rfl)) rfl
theorem tw_358 : Cond.code ⟨"java/util/Arrays", "copyOf", "([II)[I"⟩ prog_28_method_123_code 3 (Option.some (FieldType.array FieldType.int)) ∈ TT := in_tb (tb_1 (List.mem_of_getElem? (i := 236) rfl)) rfl
theorem tw_366 : Cond.methodLink "java/util/Arrays" 304 ⟨"java/lang/Math", "min", "(II)I"⟩ ∈ TT := in_tb (tb_2 (List.mem_of_getElem? (i := 4) rfl)) rfl
theorem tw_367 : Cond.static ⟨"java/lang/Math", "min", "(II)I"⟩ ∈ TT := in_tb (tb_2 (List.mem_of_getElem? (i := 5) rfl)) rfl
theorem tw_368 : Cond.code ⟨"java/lang/Math", "min", "(II)I"⟩ prog_21_method_69_code 2 (Option.some FieldType.int) ∈ TT := in_tb (tb_2 (List.mem_of_getElem? (i := 6) rfl)) rfl
theorem tw_369 : Cond.methodLink "java/util/Arrays" 150 ⟨"java/lang/System", "arraycopy", "(Ljava/lang/Object;ILjava/lang/Object;II)V"⟩ ∈ TT := in_tb (tb_2 (List.mem_of_getElem? (i := 7) rfl)) rfl
theorem tw_370 : Cond.static ⟨"java/lang/System", "arraycopy", "(Ljava/lang/Object;ILjava/lang/Object;II)V"⟩ ∈ TT := in_tb (tb_2 (List.mem_of_getElem? (i := 8) rfl)) rfl
theorem tw_371 : Cond.native ⟨"java/lang/System", "arraycopy", "(Ljava/lang/Object;ILjava/lang/Object;II)V"⟩ ∈ TT := in_tb (tb_2 (List.mem_of_getElem? (i := 9) rfl)) rfl
theorem tw_372 : Cond.methodLink "ForestCourts$Table" 41 ⟨"ForestCourts$Table", "put", "(III)V"⟩ ∈ TT := in_tb (tb_2 (List.mem_of_getElem? (i := 10) rfl)) rfl
theorem tw_373 : Cond.instanceMethod ⟨"ForestCourts$Table", "put", "(III)V"⟩ ∈ TT := in_tb (tb_2 (List.mem_of_getElem? (i := 11) rfl)) rfl
theorem tw_374 : Cond.selects "ForestCourts$Table" ⟨"ForestCourts$Table", "put", "(III)V"⟩ ⟨"ForestCourts$Table", "put", "(III)V"⟩ ∈ TT := in_tb (tb_2 (List.mem_of_getElem? (i := 12) rfl)) rfl
theorem tw_375 : Cond.code ⟨"ForestCourts$Table", "put", "(III)V"⟩ prog_11_method_8_code 5 (Option.none : Option FieldType) ∈ TT := in_tb (tb_2 (List.mem_of_getElem? (i := 13) rfl)) rfl
theorem tw_376 : Cond.fieldLink "ForestCourts$Courts" 32 "ForestCourts$Courts" "wardens" "LForestCourts$Table;" ∈ TT := in_tb (tb_2 (List.mem_of_getElem? (i := 14) rfl)) rfl
theorem tw_377 : Cond.fieldLink "ForestCourts" 77 "ForestCourts$Courts" "wardens" "LForestCourts$Table;" ∈ TT := in_tb (tb_2 (List.mem_of_getElem? (i := 15) rfl)) rfl
theorem tw_378 : Cond.fieldLink "ForestCourts$Courts" 36 "ForestCourts$Courts" "deeds" "LForestCourts$Table;" ∈ TT := in_tb (tb_2 (List.mem_of_getElem? (i := 16) rfl)) rfl
theorem tw_379 : Cond.fieldLink "ForestCourts" 223 "ForestCourts$Courts" "deeds" "LForestCourts$Table;" ∈ TT := in_tb (tb_2 (List.mem_of_getElem? (i := 17) rfl)) rfl
theorem tw_380 : Cond.fieldLink "ForestCourts$Courts" 39 "ForestCourts$Courts" "presentments" "LForestCourts$Table;" ∈ TT := in_tb (tb_2 (List.mem_of_getElem? (i := 18) rfl)) rfl
theorem tw_381 : Cond.fieldLink "ForestCourts" 242 "ForestCourts$Courts" "presentments" "LForestCourts$Table;" ∈ TT := in_tb (tb_2 (List.mem_of_getElem? (i := 19) rfl)) rfl
theorem tw_382 : Cond.fieldLink "ForestCourts$Courts" 9 "ForestCourts$Courts" "ground" "LForestCourts$Ground;" ∈ TT := in_tb (tb_2 (List.mem_of_getElem? (i := 20) rfl)) rfl
theorem tw_383 : Cond.fieldLink "ForestCourts$Courts" 15 "ForestCourts$Courts" "laws" "LForestCourts$Laws;" ∈ TT := in_tb (tb_2 (List.mem_of_getElem? (i := 21) rfl)) rfl
theorem tw_384 : Cond.fieldLink "ForestCourts$Courts" 19 "ForestCourts$Courts" "people" "LForestCourts$People;" ∈ TT := in_tb (tb_2 (List.mem_of_getElem? (i := 22) rfl)) rfl
theorem tw_385 : Cond.fieldLink "ForestCourts$Courts" 23 "ForestCourts$Courts" "claims" "LForestCourts$Claims;" ∈ TT := in_tb (tb_2 (List.mem_of_getElem? (i := 23) rfl)) rfl
theorem tw_386 : Cond.fieldLink "ForestCourts$Courts" 42 "ForestCourts$Courts" "facts" "LForestCourts$Table;" ∈ TT := in_tb (tb_2 (List.mem_of_getElem? (i := 24) rfl)) rfl
theorem tw_387 : Cond.fieldLink "ForestCourts$Courts" 49 "ForestCourts$Courts" "every" "[I" ∈ TT := in_tb (tb_2 (List.mem_of_getElem? (i := 25) rfl)) rfl
theorem tw_388 : Cond.fieldLink "ForestCourts$Courts" 113 "ForestCourts$Courts" "changeDay" "I" ∈ TT := in_tb (tb_2 (List.mem_of_getElem? (i := 26) rfl)) rfl
theorem tw_389 : Cond.fieldLink "ForestCourts$Courts" 122 "ForestCourts$Courts" "textsThen" "I" ∈ TT := in_tb (tb_2 (List.mem_of_getElem? (i := 27) rfl)) rfl
theorem tw_390 : Cond.fieldLinkNest "ForestCourts" 100 "ForestCourts$Courts" "today" "I" "ForestCourts" ∈ NN := in_tN (tb_2 (List.mem_of_getElem? (i := 28) rfl)) rfl
theorem tw_391 : Cond.fieldLink "ForestCourts$Courts" 106 "ForestCourts$Courts" "today" "I" ∈ TT := in_tb (tb_2 (List.mem_of_getElem? (i := 29) rfl)) rfl
theorem tw_392 : Cond.fieldLink "ForestCourts$Courts" 172 "ForestCourts$Courts" "chest" "I" ∈ TT := in_tb (tb_2 (List.mem_of_getElem? (i := 30) rfl)) rfl
theorem tw_393 : Cond.fieldLinkNest "ForestCourts" 306 "ForestCourts$Courts" "chest" "I" "ForestCourts" ∈ NN := in_tN (tb_2 (List.mem_of_getElem? (i := 31) rfl)) rfl
theorem tw_394 : Cond.laysFinal "ForestCourts$Courts" "ForestCourts$Courts" "wardens" "LForestCourts$Table;" ∈ TT := in_tb (tb_2 (List.mem_of_getElem? (i := 32) rfl)) rfl
theorem tw_396 : Cond.laysFinal "ForestCourts$Courts" "ForestCourts$Courts" "deeds" "LForestCourts$Table;" ∈ TT := in_tb (tb_2 (List.mem_of_getElem? (i := 34) rfl)) rfl
theorem tw_398 : Cond.laysFinal "ForestCourts$Courts" "ForestCourts$Courts" "presentments" "LForestCourts$Table;" ∈ TT := in_tb (tb_2 (List.mem_of_getElem? (i := 36) rfl)) rfl
theorem tw_400 : Cond.laysFinal "ForestCourts$Courts" "ForestCourts$Courts" "ground" "LForestCourts$Ground;" ∈ TT := in_tb (tb_2 (List.mem_of_getElem? (i := 38) rfl)) rfl
theorem tw_402 : Cond.laysFinal "ForestCourts$Courts" "ForestCourts$Courts" "laws" "LForestCourts$Laws;" ∈ TT := in_tb (tb_2 (List.mem_of_getElem? (i := 40) rfl)) rfl
theorem tw_404 : Cond.laysFinal "ForestCourts$Courts" "ForestCourts$Courts" "people" "LForestCourts$People;" ∈ TT := in_tb (tb_2 (List.mem_of_getElem? (i := 42) rfl)) rfl
theorem tw_406 : Cond.laysFinal "ForestCourts$Courts" "ForestCourts$Courts" "claims" "LForestCourts$Claims;" ∈ TT := in_tb (tb_2 (List.mem_of_getElem? (i := 44) rfl)) rfl
theorem tw_408 : Cond.laysFinal "ForestCourts$Courts" "ForestCourts$Courts" "facts" "LForestCourts$Table;" ∈ TT := in_tb (tb_2 (List.mem_of_getElem? (i := 46) rfl)) rfl
theorem tw_410 : Cond.laysFinal "ForestCourts$Courts" "ForestCourts$Courts" "every" "[I" ∈ TT := in_tb (tb_2 (List.mem_of_getElem? (i := 48) rfl)) rfl
theorem tw_412 : Cond.lays "ForestCourts$Courts" "ForestCourts$Courts" "changeDay" "I" ∈ TT := in_tb (tb_2 (List.mem_of_getElem? (i := 50) rfl)) rfl
theorem tw_414 : Cond.lays "ForestCourts$Courts" "ForestCourts$Courts" "textsThen" "I" ∈ TT := in_tb (tb_2 (List.mem_of_getElem? (i := 52) rfl)) rfl
theorem tw_416 : Cond.lays "ForestCourts$Courts" "ForestCourts$Courts" "today" "I" ∈ TT := in_tb (tb_2 (List.mem_of_getElem? (i := 54) rfl)) rfl
theorem tw_418 : Cond.lays "ForestCourts$Courts" "ForestCourts$Courts" "chest" "I" ∈ TT := in_tb (tb_2 (List.mem_of_getElem? (i := 56) rfl)) rfl
theorem tw_429 : Cond.fieldLink "ForestCourts$Rolls" 16 "ForestCourts$Rolls" "entries" "LForestCourts$Table;" ∈ TT := in_tb (tb_2 (List.mem_of_getElem? (i := 67) rfl)) rfl
theorem tw_430 : Cond.fieldLink "ForestCourts$Rolls" 20 "ForestCourts$Rolls" "listed" "[I" ∈ TT := in_tb (tb_2 (List.mem_of_getElem? (i := 68) rfl)) rfl
theorem tw_431 : Cond.fieldLink "ForestCourts$Rolls" 24 "ForestCourts$Rolls" "against" "[I" ∈ TT := in_tb (tb_2 (List.mem_of_getElem? (i := 69) rfl)) rfl
theorem tw_432 : Cond.fieldLink "ForestCourts$Rolls" 27 "ForestCourts$Rolls" "least" "[I" ∈ TT := in_tb (tb_2 (List.mem_of_getElem? (i := 70) rfl)) rfl
theorem tw_433 : Cond.fieldLink "ForestCourts$Rolls" 30 "ForestCourts$Rolls" "order" "[I" ∈ TT := in_tb (tb_2 (List.mem_of_getElem? (i := 71) rfl)) rfl
theorem tw_434 : Cond.fieldLink "ForestCourts$Rolls" 58 "ForestCourts$Rolls" "size" "I" ∈ TT := in_tb (tb_2 (List.mem_of_getElem? (i := 72) rfl)) rfl
theorem tw_435 : Cond.fieldLink "ForestCourts$Rolls" 55 "ForestCourts$Rolls" "tooMany" "Z" ∈ TT := in_tb (tb_2 (List.mem_of_getElem? (i := 73) rfl)) rfl
theorem tw_436 : Cond.fieldLink "ForestCourts$Rolls" 48 "ForestCourts$Rolls" "stale" "Z" ∈ TT := in_tb (tb_2 (List.mem_of_getElem? (i := 74) rfl)) rfl
theorem tw_437 : Cond.laysFinal "ForestCourts$Rolls" "ForestCourts$Rolls" "entries" "LForestCourts$Table;" ∈ TT := in_tb (tb_2 (List.mem_of_getElem? (i := 75) rfl)) rfl
theorem tw_439 : Cond.laysFinal "ForestCourts$Rolls" "ForestCourts$Rolls" "listed" "[I" ∈ TT := in_tb (tb_2 (List.mem_of_getElem? (i := 77) rfl)) rfl
theorem tw_441 : Cond.laysFinal "ForestCourts$Rolls" "ForestCourts$Rolls" "against" "[I" ∈ TT := in_tb (tb_2 (List.mem_of_getElem? (i := 79) rfl)) rfl
theorem tw_443 : Cond.laysFinal "ForestCourts$Rolls" "ForestCourts$Rolls" "least" "[I" ∈ TT := in_tb (tb_2 (List.mem_of_getElem? (i := 81) rfl)) rfl
theorem tw_445 : Cond.laysFinal "ForestCourts$Rolls" "ForestCourts$Rolls" "order" "[I" ∈ TT := in_tb (tb_2 (List.mem_of_getElem? (i := 83) rfl)) rfl
theorem tw_447 : Cond.lays "ForestCourts$Rolls" "ForestCourts$Rolls" "size" "I" ∈ TT := in_tb (tb_2 (List.mem_of_getElem? (i := 85) rfl)) rfl
theorem tw_449 : Cond.lays "ForestCourts$Rolls" "ForestCourts$Rolls" "tooMany" "Z" ∈ TT := in_tb (tb_2 (List.mem_of_getElem? (i := 87) rfl)) rfl
theorem tw_451 : Cond.lays "ForestCourts$Rolls" "ForestCourts$Rolls" "stale" "Z" ∈ TT := in_tb (tb_2 (List.mem_of_getElem? (i := 89) rfl)) rfl
theorem tw_462 : Cond.fieldLink "ForestCourts$Patrols" 11 "ForestCourts$Patrols" "wardens" "LForestCourts$Table;" ∈ TT := in_tb (tb_2 (List.mem_of_getElem? (i := 100) rfl)) rfl
theorem tw_463 : Cond.fieldLink "ForestCourts$Patrols" 20 "ForestCourts$Patrols" "spots" "LForestCourts$Table;" ∈ TT := in_tb (tb_2 (List.mem_of_getElem? (i := 101) rfl)) rfl
theorem tw_464 : Cond.fieldLink "ForestCourts" 283 "ForestCourts$Patrols" "spots" "LForestCourts$Table;" ∈ TT := in_tb (tb_2 (List.mem_of_getElem? (i := 102) rfl)) rfl
theorem tw_465 : Cond.fieldLink "ForestCourts$Patrols" 23 "ForestCourts$Patrols" "path" "[I" ∈ TT := in_tb (tb_2 (List.mem_of_getElem? (i := 103) rfl)) rfl
theorem tw_466 : Cond.fieldLink "ForestCourts$Patrols" 27 "ForestCourts$Patrols" "firstGoes" "[Z" ∈ TT := in_tb (tb_2 (List.mem_of_getElem? (i := 104) rfl)) rfl
theorem tw_467 : Cond.fieldLink "ForestCourts$Patrols" 31 "ForestCourts$Patrols" "secondGoes" "[Z" ∈ TT := in_tb (tb_2 (List.mem_of_getElem? (i := 105) rfl)) rfl
theorem tw_468 : Cond.fieldLink "ForestCourts$Patrols" 34 "ForestCourts$Patrols" "given" "[I" ∈ TT := in_tb (tb_2 (List.mem_of_getElem? (i := 106) rfl)) rfl
theorem tw_469 : Cond.fieldLink "ForestCourts$Patrols" 37 "ForestCourts$Patrols" "tried" "[I" ∈ TT := in_tb (tb_2 (List.mem_of_getElem? (i := 107) rfl)) rfl
theorem tw_470 : Cond.fieldLink "ForestCourts$Patrols" 92 "ForestCourts$Patrols" "worth" "I" ∈ TT := in_tb (tb_2 (List.mem_of_getElem? (i := 108) rfl)) rfl
theorem tw_471 : Cond.fieldLinkNest "ForestCourts" 280 "ForestCourts$Patrols" "worth" "I" "ForestCourts" ∈ NN := in_tN (tb_2 (List.mem_of_getElem? (i := 109) rfl)) rfl
theorem tw_472 : Cond.fieldLink "ForestCourts$Patrols" 40 "ForestCourts$Patrols" "stale" "Z" ∈ TT := in_tb (tb_2 (List.mem_of_getElem? (i := 110) rfl)) rfl
theorem tw_473 : Cond.laysFinal "ForestCourts$Patrols" "ForestCourts$Patrols" "wardens" "LForestCourts$Table;" ∈ TT := in_tb (tb_2 (List.mem_of_getElem? (i := 111) rfl)) rfl
theorem tw_475 : Cond.laysFinal "ForestCourts$Patrols" "ForestCourts$Patrols" "spots" "LForestCourts$Table;" ∈ TT := in_tb (tb_2 (List.mem_of_getElem? (i := 113) rfl)) rfl
theorem tw_477 : Cond.laysFinal "ForestCourts$Patrols" "ForestCourts$Patrols" "path" "[I" ∈ TT := in_tb (tb_2 (List.mem_of_getElem? (i := 115) rfl)) rfl
theorem tw_479 : Cond.laysFinal "ForestCourts$Patrols" "ForestCourts$Patrols" "firstGoes" "[Z" ∈ TT := in_tb (tb_2 (List.mem_of_getElem? (i := 117) rfl)) rfl
theorem tw_481 : Cond.laysFinal "ForestCourts$Patrols" "ForestCourts$Patrols" "secondGoes" "[Z" ∈ TT := in_tb (tb_2 (List.mem_of_getElem? (i := 119) rfl)) rfl
theorem tw_483 : Cond.laysFinal "ForestCourts$Patrols" "ForestCourts$Patrols" "given" "[I" ∈ TT := in_tb (tb_2 (List.mem_of_getElem? (i := 121) rfl)) rfl
theorem tw_485 : Cond.laysFinal "ForestCourts$Patrols" "ForestCourts$Patrols" "tried" "[I" ∈ TT := in_tb (tb_2 (List.mem_of_getElem? (i := 123) rfl)) rfl
theorem tw_487 : Cond.lays "ForestCourts$Patrols" "ForestCourts$Patrols" "worth" "I" ∈ TT := in_tb (tb_2 (List.mem_of_getElem? (i := 125) rfl)) rfl
theorem tw_489 : Cond.lays "ForestCourts$Patrols" "ForestCourts$Patrols" "stale" "Z" ∈ TT := in_tb (tb_2 (List.mem_of_getElem? (i := 127) rfl)) rfl
theorem tw_501 : Cond.fieldLink "ForestCourts$Woods" 14 "ForestCourts$Woods" "rows" "LForestCourts$Table;" ∈ TT := in_tb (tb_2 (List.mem_of_getElem? (i := 139) rfl)) rfl
theorem tw_502 : Cond.fieldLink "ForestCourts" 295 "ForestCourts$Woods" "rows" "LForestCourts$Table;" ∈ TT := in_tb (tb_2 (List.mem_of_getElem? (i := 140) rfl)) rfl
theorem tw_503 : Cond.fieldLink "ForestCourts$Woods" 20 "ForestCourts$Woods" "takings" "LForestCourts$Table;" ∈ TT := in_tb (tb_2 (List.mem_of_getElem? (i := 141) rfl)) rfl
theorem tw_504 : Cond.fieldLink "ForestCourts" 309 "ForestCourts$Woods" "takings" "LForestCourts$Table;" ∈ TT := in_tb (tb_2 (List.mem_of_getElem? (i := 142) rfl)) rfl
theorem tw_505 : Cond.laysFinal "ForestCourts$Woods" "ForestCourts$Woods" "rows" "LForestCourts$Table;" ∈ TT := in_tb (tb_2 (List.mem_of_getElem? (i := 143) rfl)) rfl
theorem tw_507 : Cond.laysFinal "ForestCourts$Woods" "ForestCourts$Woods" "takings" "LForestCourts$Table;" ∈ TT := in_tb (tb_2 (List.mem_of_getElem? (i := 145) rfl)) rfl
theorem tw_510 : Cond.fieldLink "ForestCourts" 14 "ForestCourts" "tape" "LForestCourts$Table;" ∈ TT := in_tb (tb_2 (List.mem_of_getElem? (i := 148) rfl)) rfl
theorem tw_511 : Cond.fieldLink "ForestCourts" 21 "ForestCourts" "ground" "LForestCourts$Ground;" ∈ TT := in_tb (tb_2 (List.mem_of_getElem? (i := 149) rfl)) rfl
theorem tw_512 : Cond.fieldLink "ForestCourts" 30 "ForestCourts" "search" "LForestCourts$Search;" ∈ TT := in_tb (tb_2 (List.mem_of_getElem? (i := 150) rfl)) rfl
theorem tw_513 : Cond.fieldLink "ForestCourts" 39 "ForestCourts" "laws" "LForestCourts$Laws;" ∈ TT := in_tb (tb_2 (List.mem_of_getElem? (i := 151) rfl)) rfl
theorem tw_514 : Cond.fieldLink "ForestCourts" 46 "ForestCourts" "people" "LForestCourts$People;" ∈ TT := in_tb (tb_2 (List.mem_of_getElem? (i := 152) rfl)) rfl
theorem tw_515 : Cond.fieldLink "ForestCourts" 55 "ForestCourts" "claims" "LForestCourts$Claims;" ∈ TT := in_tb (tb_2 (List.mem_of_getElem? (i := 153) rfl)) rfl
theorem tw_516 : Cond.fieldLink "ForestCourts" 64 "ForestCourts" "courts" "LForestCourts$Courts;" ∈ TT := in_tb (tb_2 (List.mem_of_getElem? (i := 154) rfl)) rfl
theorem tw_517 : Cond.fieldLink "ForestCourts" 71 "ForestCourts" "rolls" "LForestCourts$Rolls;" ∈ TT := in_tb (tb_2 (List.mem_of_getElem? (i := 155) rfl)) rfl
theorem tw_518 : Cond.fieldLink "ForestCourts" 81 "ForestCourts" "patrols" "LForestCourts$Patrols;" ∈ TT := in_tb (tb_2 (List.mem_of_getElem? (i := 156) rfl)) rfl
theorem tw_519 : Cond.fieldLink "ForestCourts" 88 "ForestCourts" "woods" "LForestCourts$Woods;" ∈ TT := in_tb (tb_2 (List.mem_of_getElem? (i := 157) rfl)) rfl
theorem tw_520 : Cond.laysFinal "ForestCourts" "ForestCourts" "tape" "LForestCourts$Table;" ∈ TT := in_tb (tb_2 (List.mem_of_getElem? (i := 158) rfl)) rfl
theorem tw_522 : Cond.laysFinal "ForestCourts" "ForestCourts" "ground" "LForestCourts$Ground;" ∈ TT := in_tb (tb_2 (List.mem_of_getElem? (i := 160) rfl)) rfl
theorem tw_524 : Cond.laysFinal "ForestCourts" "ForestCourts" "search" "LForestCourts$Search;" ∈ TT := in_tb (tb_2 (List.mem_of_getElem? (i := 162) rfl)) rfl
theorem tw_526 : Cond.laysFinal "ForestCourts" "ForestCourts" "laws" "LForestCourts$Laws;" ∈ TT := in_tb (tb_2 (List.mem_of_getElem? (i := 164) rfl)) rfl
theorem tw_528 : Cond.laysFinal "ForestCourts" "ForestCourts" "people" "LForestCourts$People;" ∈ TT := in_tb (tb_2 (List.mem_of_getElem? (i := 166) rfl)) rfl
theorem tw_530 : Cond.laysFinal "ForestCourts" "ForestCourts" "claims" "LForestCourts$Claims;" ∈ TT := in_tb (tb_2 (List.mem_of_getElem? (i := 168) rfl)) rfl
theorem tw_532 : Cond.laysFinal "ForestCourts" "ForestCourts" "courts" "LForestCourts$Courts;" ∈ TT := in_tb (tb_2 (List.mem_of_getElem? (i := 170) rfl)) rfl
theorem tw_534 : Cond.laysFinal "ForestCourts" "ForestCourts" "rolls" "LForestCourts$Rolls;" ∈ TT := in_tb (tb_2 (List.mem_of_getElem? (i := 172) rfl)) rfl
theorem tw_536 : Cond.laysFinal "ForestCourts" "ForestCourts" "patrols" "LForestCourts$Patrols;" ∈ TT := in_tb (tb_2 (List.mem_of_getElem? (i := 174) rfl)) rfl
theorem tw_538 : Cond.laysFinal "ForestCourts" "ForestCourts" "woods" "LForestCourts$Woods;" ∈ TT := in_tb (tb_2 (List.mem_of_getElem? (i := 176) rfl)) rfl
theorem tw_541 : Cond.methodLink "ForestCourtsLaw" 142 ⟨"ForestCourts", "feed", "(IIIII)I"⟩ ∈ TT := in_tb (tb_2 (List.mem_of_getElem? (i := 179) rfl)) rfl
theorem tw_542 : Cond.instanceMethod ⟨"ForestCourts", "feed", "(IIIII)I"⟩ ∈ TT := in_tb (tb_2 (List.mem_of_getElem? (i := 180) rfl)) rfl
theorem tw_543 : Cond.selects "ForestCourts" ⟨"ForestCourts", "feed", "(IIIII)I"⟩ ⟨"ForestCourts", "feed", "(IIIII)I"⟩ ∈ TT := in_tb (tb_2 (List.mem_of_getElem? (i := 181) rfl)) rfl
theorem tw_544 : Cond.code ⟨"ForestCourts", "feed", "(IIIII)I"⟩ prog_1_method_3_code 6 (Option.some FieldType.int) ∈ TT := in_tb (tb_2 (List.mem_of_getElem? (i := 182) rfl)) rfl
theorem tw_545 : Cond.methodLink "ForestCourts" 111 ⟨"ForestCourts$Table", "size", "()I"⟩ ∈ TT := in_tb (tb_2 (List.mem_of_getElem? (i := 183) rfl)) rfl
theorem tw_546 : Cond.instanceMethod ⟨"ForestCourts$Table", "size", "()I"⟩ ∈ TT := in_tb (tb_2 (List.mem_of_getElem? (i := 184) rfl)) rfl
theorem tw_547 : Cond.selects "ForestCourts$Table" ⟨"ForestCourts$Table", "size", "()I"⟩ ⟨"ForestCourts$Table", "size", "()I"⟩ ∈ TT := in_tb (tb_2 (List.mem_of_getElem? (i := 185) rfl)) rfl
theorem tw_548 : Cond.code ⟨"ForestCourts$Table", "size", "()I"⟩ prog_11_method_2_code 1 (Option.some FieldType.int) ∈ TT := in_tb (tb_2 (List.mem_of_getElem? (i := 186) rfl)) rfl
theorem tw_549 : Cond.methodLink "ForestCourts" 115 ⟨"ForestCourts", "addBytes", "(I)V"⟩ ∈ TT := in_tb (tb_2 (List.mem_of_getElem? (i := 187) rfl)) rfl
theorem tw_551 : Cond.instanceMethod ⟨"ForestCourts", "addBytes", "(I)V"⟩ ∈ TT := in_tb (tb_2 (List.mem_of_getElem? (i := 189) rfl)) rfl
theorem tw_552 : Cond.code ⟨"ForestCourts", "addBytes", "(I)V"⟩ prog_1_method_43_code 3 (Option.none : Option FieldType) ∈ TT := in_tb (tb_2 (List.mem_of_getElem? (i := 190) rfl)) rfl
theorem tw_553 : Cond.methodLink "ForestCourts" 312 ⟨"ForestCourts$Table", "add", "()I"⟩ ∈ TT := in_tb (tb_2 (List.mem_of_getElem? (i := 191) rfl)) rfl
theorem tw_554 : Cond.methodLink "ForestCourts" 203 ⟨"ForestCourts$Table", "put", "(III)V"⟩ ∈ TT := in_tb (tb_2 (List.mem_of_getElem? (i := 192) rfl)) rfl
theorem tw_555 : Cond.methodLink "ForestCourtsLaw" 166 ⟨"ForestCourts", "walked", "(I)I"⟩ ∈ TT := in_tb (tb_2 (List.mem_of_getElem? (i := 193) rfl)) rfl
theorem tw_556 : Cond.instanceMethod ⟨"ForestCourts", "walked", "(I)I"⟩ ∈ TT := in_tb (tb_2 (List.mem_of_getElem? (i := 194) rfl)) rfl
theorem tw_557 : Cond.selects "ForestCourts" ⟨"ForestCourts", "walked", "(I)I"⟩ ⟨"ForestCourts", "walked", "(I)I"⟩ ∈ TT := in_tb (tb_2 (List.mem_of_getElem? (i := 195) rfl)) rfl
theorem tw_558 : Cond.code ⟨"ForestCourts", "walked", "(I)I"⟩ prog_1_method_11_code 2 (Option.some FieldType.int) ∈ TT := in_tb (tb_2 (List.mem_of_getElem? (i := 196) rfl)) rfl
theorem tw_559 : Cond.methodLink "ForestCourts" 171 ⟨"ForestCourts$Search", "markAt", "(I)I"⟩ ∈ TT := in_tb (tb_2 (List.mem_of_getElem? (i := 197) rfl)) rfl
theorem tw_560 : Cond.instanceMethod ⟨"ForestCourts$Search", "markAt", "(I)I"⟩ ∈ TT := in_tb (tb_2 (List.mem_of_getElem? (i := 198) rfl)) rfl
theorem tw_561 : Cond.selects "ForestCourts$Search" ⟨"ForestCourts$Search", "markAt", "(I)I"⟩ ⟨"ForestCourts$Search", "markAt", "(I)I"⟩ ∈ TT := in_tb (tb_2 (List.mem_of_getElem? (i := 199) rfl)) rfl
theorem tw_562 : Cond.code ⟨"ForestCourts$Search", "markAt", "(I)I"⟩ prog_10_method_3_code 2 (Option.some FieldType.int) ∈ TT := in_tb (tb_2 (List.mem_of_getElem? (i := 200) rfl)) rfl
theorem tw_563 : Cond.methodLink "ForestCourtsLaw" 170 ⟨"ForestCourts", "rivals", "()I"⟩ ∈ TT := in_tb (tb_2 (List.mem_of_getElem? (i := 201) rfl)) rfl
theorem tw_564 : Cond.instanceMethod ⟨"ForestCourts", "rivals", "()I"⟩ ∈ TT := in_tb (tb_2 (List.mem_of_getElem? (i := 202) rfl)) rfl
theorem tw_565 : Cond.selects "ForestCourts" ⟨"ForestCourts", "rivals", "()I"⟩ ⟨"ForestCourts", "rivals", "()I"⟩ ∈ TT := in_tb (tb_2 (List.mem_of_getElem? (i := 203) rfl)) rfl
theorem tw_566 : Cond.code ⟨"ForestCourts", "rivals", "()I"⟩ prog_1_method_12_code 1 (Option.some FieldType.int) ∈ TT := in_tb (tb_2 (List.mem_of_getElem? (i := 204) rfl)) rfl
theorem tw_567 : Cond.methodLink "ForestCourtsLaw" 177 ⟨"ForestCourts", "fault", "()I"⟩ ∈ TT := in_tb (tb_2 (List.mem_of_getElem? (i := 205) rfl)) rfl
theorem tw_568 : Cond.instanceMethod ⟨"ForestCourts", "fault", "()I"⟩ ∈ TT := in_tb (tb_2 (List.mem_of_getElem? (i := 206) rfl)) rfl
theorem tw_569 : Cond.selects "ForestCourts" ⟨"ForestCourts", "fault", "()I"⟩ ⟨"ForestCourts", "fault", "()I"⟩ ∈ TT := in_tb (tb_2 (List.mem_of_getElem? (i := 207) rfl)) rfl
theorem tw_570 : Cond.code ⟨"ForestCourts", "fault", "()I"⟩ prog_1_method_14_code 1 (Option.some FieldType.int) ∈ TT := in_tb (tb_2 (List.mem_of_getElem? (i := 208) rfl)) rfl
theorem tw_571 : Cond.methodLink "ForestCourtsLaw" 237 ⟨"ForestCourts", "quarrel", "()I"⟩ ∈ TT := in_tb (tb_2 (List.mem_of_getElem? (i := 209) rfl)) rfl
theorem tw_572 : Cond.instanceMethod ⟨"ForestCourts", "quarrel", "()I"⟩ ∈ TT := in_tb (tb_2 (List.mem_of_getElem? (i := 210) rfl)) rfl
theorem tw_573 : Cond.selects "ForestCourts" ⟨"ForestCourts", "quarrel", "()I"⟩ ⟨"ForestCourts", "quarrel", "()I"⟩ ∈ TT := in_tb (tb_2 (List.mem_of_getElem? (i := 211) rfl)) rfl
theorem tw_574 : Cond.code ⟨"ForestCourts", "quarrel", "()I"⟩ prog_1_method_33_code 1 (Option.some FieldType.int) ∈ TT := in_tb (tb_2 (List.mem_of_getElem? (i := 212) rfl)) rfl
theorem tw_575 : Cond.methodLink "ForestCourts" 261 ⟨"ForestCourts$Rolls", "leastQuarrel", "()I"⟩ ∈ TT := in_tb (tb_2 (List.mem_of_getElem? (i := 213) rfl)) rfl
theorem tw_576 : Cond.instanceMethod ⟨"ForestCourts$Rolls", "leastQuarrel", "()I"⟩ ∈ TT := in_tb (tb_2 (List.mem_of_getElem? (i := 214) rfl)) rfl
theorem tw_577 : Cond.selects "ForestCourts$Rolls" ⟨"ForestCourts$Rolls", "leastQuarrel", "()I"⟩ ⟨"ForestCourts$Rolls", "leastQuarrel", "()I"⟩ ∈ TT := in_tb (tb_2 (List.mem_of_getElem? (i := 215) rfl)) rfl
theorem tw_578 : Cond.code ⟨"ForestCourts$Rolls", "leastQuarrel", "()I"⟩ prog_9_method_3_code 1 (Option.some FieldType.int) ∈ TT := in_tb (tb_2 (List.mem_of_getElem? (i := 216) rfl)) rfl
theorem tw_579 : Cond.methodLink "ForestCourts$Rolls" 52 ⟨"ForestCourts$Rolls", "join", "()V"⟩ ∈ TT := in_tb (tb_2 (List.mem_of_getElem? (i := 217) rfl)) rfl
theorem tw_581 : Cond.instanceMethod ⟨"ForestCourts$Rolls", "join", "()V"⟩ ∈ TT := in_tb (tb_2 (List.mem_of_getElem? (i := 219) rfl)) rfl
theorem tw_582 : Cond.code ⟨"ForestCourts$Rolls", "join", "()V"⟩ prog_9_method_7_code 1 (Option.none : Option FieldType) ∈ TT := in_tb (tb_2 (List.mem_of_getElem? (i := 220) rfl)) rfl
theorem tw_583 : Cond.methodLink "ForestCourts$Rolls" 73 ⟨"ForestCourts$Rolls", "list", "()V"⟩ ∈ TT := in_tb (tb_2 (List.mem_of_getElem? (i := 221) rfl)) rfl
theorem tw_585 : Cond.instanceMethod ⟨"ForestCourts$Rolls", "list", "()V"⟩ ∈ TT := in_tb (tb_2 (List.mem_of_getElem? (i := 223) rfl)) rfl
theorem tw_586 : Cond.code ⟨"ForestCourts$Rolls", "list", "()V"⟩ prog_9_method_8_code 4 (Option.none : Option FieldType) ∈ TT := in_tb (tb_2 (List.mem_of_getElem? (i := 224) rfl)) rfl
theorem tw_587 : Cond.methodLink "ForestCourts$Rolls" 33 ⟨"ForestCourts$Table", "size", "()I"⟩ ∈ TT := in_tb (tb_2 (List.mem_of_getElem? (i := 225) rfl)) rfl
theorem tw_588 : Cond.methodLink "ForestCourts$Rolls" 37 ⟨"ForestCourts$Table", "get", "(II)I"⟩ ∈ TT := in_tb (tb_2 (List.mem_of_getElem? (i := 226) rfl)) rfl
theorem tw_589 : Cond.instanceMethod ⟨"ForestCourts$Table", "get", "(II)I"⟩ ∈ TT := in_tb (tb_2 (List.mem_of_getElem? (i := 227) rfl)) rfl
theorem tw_590 : Cond.selects "ForestCourts$Table" ⟨"ForestCourts$Table", "get", "(II)I"⟩ ⟨"ForestCourts$Table", "get", "(II)I"⟩ ∈ TT := in_tb (tb_2 (List.mem_of_getElem? (i := 228) rfl)) rfl
theorem tw_591 : Cond.code ⟨"ForestCourts$Table", "get", "(II)I"⟩ prog_11_method_7_code 4 (Option.some FieldType.int) ∈ TT := in_tb (tb_2 (List.mem_of_getElem? (i := 229) rfl)) rfl
theorem tw_592 : Cond.methodLink "ForestCourts$Rolls" 76 ⟨"ForestCourts$Rolls", "weigh", "()V"⟩ ∈ TT := in_tb (tb_2 (List.mem_of_getElem? (i := 230) rfl)) rfl
theorem tw_594 : Cond.instanceMethod ⟨"ForestCourts$Rolls", "weigh", "()V"⟩ ∈ TT := in_tb (tb_2 (List.mem_of_getElem? (i := 232) rfl)) rfl
theorem tw_595 : Cond.code ⟨"ForestCourts$Rolls", "weigh", "()V"⟩ prog_9_method_9_code 4 (Option.none : Option FieldType) ∈ TT := in_tb (tb_2 (List.mem_of_getElem? (i := 233) rfl)) rfl
theorem tw_596 : Cond.methodLink "ForestCourts$Rolls" 87 ⟨"java/util/Arrays", "fill", "([II)V"⟩ ∈ TT := in_tb (tb_2 (List.mem_of_getElem? (i := 234) rfl)) rfl
theorem tw_597 : Cond.static ⟨"java/util/Arrays", "fill", "([II)V"⟩ ∈ TT := in_tb (tb_2 (List.mem_of_getElem? (i := 235) rfl)) rfl
theorem tw_598 : Cond.code ⟨"java/util/Arrays", "fill", "([II)V"⟩ prog_28_method_103_code 4 (Option.none : Option FieldType) ∈ TT := in_tb (tb_2 (List.mem_of_getElem? (i := 236) rfl)) rfl
theorem tw_599 : Cond.methodLink "ForestCourts$Rolls" 93 ⟨"ForestCourts$Rolls", "placeOf", "(I)I"⟩ ∈ TT := in_tb (tb_2 (List.mem_of_getElem? (i := 237) rfl)) rfl
theorem tw_601 : Cond.instanceMethod ⟨"ForestCourts$Rolls", "placeOf", "(I)I"⟩ ∈ TT := in_tb (tb_2 (List.mem_of_getElem? (i := 239) rfl)) rfl
theorem tw_602 : Cond.code ⟨"ForestCourts$Rolls", "placeOf", "(I)I"⟩ prog_9_method_10_code 3 (Option.some FieldType.int) ∈ TT := in_tb (tb_3 (List.mem_of_getElem? (i := 0) rfl)) rfl
theorem tw_603 : Cond.methodLink "ForestCourts$Rolls" 79 ⟨"ForestCourts$Rolls", "measure", "()V"⟩ ∈ TT := in_tb (tb_3 (List.mem_of_getElem? (i := 1) rfl)) rfl
theorem tw_605 : Cond.instanceMethod ⟨"ForestCourts$Rolls", "measure", "()V"⟩ ∈ TT := in_tb (tb_3 (List.mem_of_getElem? (i := 3) rfl)) rfl
theorem tw_606 : Cond.code ⟨"ForestCourts$Rolls", "measure", "()V"⟩ prog_9_method_11_code 5 (Option.none : Option FieldType) ∈ TT := in_tb (tb_3 (List.mem_of_getElem? (i := 4) rfl)) rfl
theorem tw_607 : Cond.methodLink "ForestCourts$Rolls" 96 ⟨"java/lang/Math", "min", "(II)I"⟩ ∈ TT := in_tb (tb_3 (List.mem_of_getElem? (i := 5) rfl)) rfl
theorem tw_608 : Cond.methodLink "ForestCourts$Rolls" 99 ⟨"ForestCourts$Rolls", "quarrelOf", "(II)I"⟩ ∈ TT := in_tb (tb_3 (List.mem_of_getElem? (i := 6) rfl)) rfl
theorem tw_610 : Cond.instanceMethod ⟨"ForestCourts$Rolls", "quarrelOf", "(II)I"⟩ ∈ TT := in_tb (tb_3 (List.mem_of_getElem? (i := 8) rfl)) rfl
theorem tw_611 : Cond.code ⟨"ForestCourts$Rolls", "quarrelOf", "(II)I"⟩ prog_9_method_12_code 7 (Option.some FieldType.int) ∈ TT := in_tb (tb_3 (List.mem_of_getElem? (i := 9) rfl)) rfl
theorem tw_612 : Cond.methodLink "ForestCourts$Rolls" 82 ⟨"ForestCourts$Rolls", "choose", "()V"⟩ ∈ TT := in_tb (tb_3 (List.mem_of_getElem? (i := 10) rfl)) rfl
theorem tw_614 : Cond.instanceMethod ⟨"ForestCourts$Rolls", "choose", "()V"⟩ ∈ TT := in_tb (tb_3 (List.mem_of_getElem? (i := 12) rfl)) rfl
theorem tw_615 : Cond.code ⟨"ForestCourts$Rolls", "choose", "()V"⟩ prog_9_method_13_code 4 (Option.none : Option FieldType) ∈ TT := in_tb (tb_3 (List.mem_of_getElem? (i := 13) rfl)) rfl
theorem tw_616 : Cond.methodLink "ForestCourtsLaw" 250 ⟨"ForestCourts", "beats", "()I"⟩ ∈ TT := in_tb (tb_3 (List.mem_of_getElem? (i := 14) rfl)) rfl
theorem tw_617 : Cond.instanceMethod ⟨"ForestCourts", "beats", "()I"⟩ ∈ TT := in_tb (tb_3 (List.mem_of_getElem? (i := 15) rfl)) rfl
theorem tw_618 : Cond.selects "ForestCourts" ⟨"ForestCourts", "beats", "()I"⟩ ⟨"ForestCourts", "beats", "()I"⟩ ∈ TT := in_tb (tb_3 (List.mem_of_getElem? (i := 16) rfl)) rfl
theorem tw_619 : Cond.code ⟨"ForestCourts", "beats", "()I"⟩ prog_1_method_37_code 1 (Option.some FieldType.int) ∈ TT := in_tb (tb_3 (List.mem_of_getElem? (i := 17) rfl)) rfl
theorem tw_620 : Cond.methodLink "ForestCourts" 277 ⟨"ForestCourts$Patrols", "plan", "()V"⟩ ∈ TT := in_tb (tb_3 (List.mem_of_getElem? (i := 18) rfl)) rfl
theorem tw_621 : Cond.instanceMethod ⟨"ForestCourts$Patrols", "plan", "()V"⟩ ∈ TT := in_tb (tb_3 (List.mem_of_getElem? (i := 19) rfl)) rfl
theorem tw_622 : Cond.selects "ForestCourts$Patrols" ⟨"ForestCourts$Patrols", "plan", "()V"⟩ ⟨"ForestCourts$Patrols", "plan", "()V"⟩ ∈ TT := in_tb (tb_3 (List.mem_of_getElem? (i := 20) rfl)) rfl
theorem tw_623 : Cond.code ⟨"ForestCourts$Patrols", "plan", "()V"⟩ prog_6_method_5_code 3 (Option.none : Option FieldType) ∈ TT := in_tb (tb_3 (List.mem_of_getElem? (i := 21) rfl)) rfl
theorem tw_624 : Cond.methodLink "ForestCourts$Patrols" 54 ⟨"ForestCourts$Patrols", "nextWithLodge", "(I)I"⟩ ∈ TT := in_tb (tb_3 (List.mem_of_getElem? (i := 22) rfl)) rfl
theorem tw_626 : Cond.instanceMethod ⟨"ForestCourts$Patrols", "nextWithLodge", "(I)I"⟩ ∈ TT := in_tb (tb_3 (List.mem_of_getElem? (i := 24) rfl)) rfl
theorem tw_627 : Cond.code ⟨"ForestCourts$Patrols", "nextWithLodge", "(I)I"⟩ prog_6_method_6_code 3 (Option.some FieldType.int) ∈ TT := in_tb (tb_3 (List.mem_of_getElem? (i := 25) rfl)) rfl
theorem tw_628 : Cond.methodLink "ForestCourts$Patrols" 65 ⟨"ForestCourts$Table", "size", "()I"⟩ ∈ TT := in_tb (tb_3 (List.mem_of_getElem? (i := 26) rfl)) rfl
theorem tw_629 : Cond.methodLink "ForestCourts$Patrols" 68 ⟨"ForestCourts$Table", "get", "(II)I"⟩ ∈ TT := in_tb (tb_3 (List.mem_of_getElem? (i := 27) rfl)) rfl
theorem tw_630 : Cond.methodLink "ForestCourts$Patrols" 58 ⟨"ForestCourts$Patrols", "measure", "(I[Z)V"⟩ ∈ TT := in_tb (tb_3 (List.mem_of_getElem? (i := 28) rfl)) rfl
theorem tw_632 : Cond.instanceMethod ⟨"ForestCourts$Patrols", "measure", "(I[Z)V"⟩ ∈ TT := in_tb (tb_3 (List.mem_of_getElem? (i := 30) rfl)) rfl
theorem tw_633 : Cond.code ⟨"ForestCourts$Patrols", "measure", "(I[Z)V"⟩ prog_6_method_7_code 5 (Option.none : Option FieldType) ∈ TT := in_tb (tb_3 (List.mem_of_getElem? (i := 31) rfl)) rfl
theorem tw_634 : Cond.methodLink "ForestCourts$Patrols" 72 ⟨"ForestCourts$Patrols", "roundOf", "(II)I"⟩ ∈ TT := in_tb (tb_3 (List.mem_of_getElem? (i := 32) rfl)) rfl
theorem tw_636 : Cond.instanceMethod ⟨"ForestCourts$Patrols", "roundOf", "(II)I"⟩ ∈ TT := in_tb (tb_3 (List.mem_of_getElem? (i := 34) rfl)) rfl
theorem tw_637 : Cond.code ⟨"ForestCourts$Patrols", "roundOf", "(II)I"⟩ prog_6_method_8_code 6 (Option.some FieldType.int) ∈ TT := in_tb (tb_3 (List.mem_of_getElem? (i := 35) rfl)) rfl
theorem tw_638 : Cond.constant "ForestCourts$Patrols" 75 (1000000) ∈ TT := in_tb (tb_3 (List.mem_of_getElem? (i := 36) rfl)) rfl
theorem tw_639 : Cond.methodLink "ForestCourts$Patrols" 76 ⟨"ForestCourts$Patrols", "pathTo", "(III)I"⟩ ∈ TT := in_tb (tb_3 (List.mem_of_getElem? (i := 37) rfl)) rfl
theorem tw_641 : Cond.instanceMethod ⟨"ForestCourts$Patrols", "pathTo", "(III)I"⟩ ∈ TT := in_tb (tb_3 (List.mem_of_getElem? (i := 39) rfl)) rfl
theorem tw_642 : Cond.code ⟨"ForestCourts$Patrols", "pathTo", "(III)I"⟩ prog_6_method_9_code 9 (Option.some FieldType.int) ∈ TT := in_tb (tb_3 (List.mem_of_getElem? (i := 40) rfl)) rfl
theorem tw_643 : Cond.methodLink "ForestCourts$Patrols" 80 ⟨"ForestCourts$Patrols", "wayFromLodge", "(II)I"⟩ ∈ TT := in_tb (tb_3 (List.mem_of_getElem? (i := 41) rfl)) rfl
theorem tw_645 : Cond.instanceMethod ⟨"ForestCourts$Patrols", "wayFromLodge", "(II)I"⟩ ∈ TT := in_tb (tb_3 (List.mem_of_getElem? (i := 43) rfl)) rfl
theorem tw_646 : Cond.code ⟨"ForestCourts$Patrols", "wayFromLodge", "(II)I"⟩ prog_6_method_10_code 3 (Option.some FieldType.int) ∈ TT := in_tb (tb_3 (List.mem_of_getElem? (i := 44) rfl)) rfl
theorem tw_647 : Cond.methodLinkNest "ForestCourts$Patrols" 88 ⟨"ForestCourts", "wayBetween", "(IIII)I"⟩ "ForestCourts" ∈ NN := in_tN (tb_3 (List.mem_of_getElem? (i := 45) rfl)) rfl
theorem tw_648 : Cond.static ⟨"ForestCourts", "wayBetween", "(IIII)I"⟩ ∈ TT := in_tb (tb_3 (List.mem_of_getElem? (i := 46) rfl)) rfl
theorem tw_649 : Cond.code ⟨"ForestCourts", "wayBetween", "(IIII)I"⟩ prog_1_method_49_code 4 (Option.some FieldType.int) ∈ TT := in_tb (tb_3 (List.mem_of_getElem? (i := 47) rfl)) rfl
theorem tw_650 : Cond.methodLink "ForestCourts" 315 ⟨"java/lang/Math", "abs", "(I)I"⟩ ∈ TT := in_tb (tb_3 (List.mem_of_getElem? (i := 48) rfl)) rfl
theorem tw_651 : Cond.static ⟨"java/lang/Math", "abs", "(I)I"⟩ ∈ TT := in_tb (tb_3 (List.mem_of_getElem? (i := 49) rfl)) rfl
theorem tw_652 : Cond.code ⟨"java/lang/Math", "abs", "(I)I"⟩ prog_21_method_59_code 1 (Option.some FieldType.int) ∈ TT := in_tb (tb_3 (List.mem_of_getElem? (i := 50) rfl)) rfl
theorem tw_653 : Cond.methodLink "ForestCourts$Patrols" 83 ⟨"java/lang/Math", "min", "(II)I"⟩ ∈ TT := in_tb (tb_3 (List.mem_of_getElem? (i := 51) rfl)) rfl
theorem tw_654 : Cond.methodLink "ForestCourts$Patrols" 62 ⟨"ForestCourts$Patrols", "choose", "(II)V"⟩ ∈ TT := in_tb (tb_3 (List.mem_of_getElem? (i := 52) rfl)) rfl
theorem tw_656 : Cond.instanceMethod ⟨"ForestCourts$Patrols", "choose", "(II)V"⟩ ∈ TT := in_tb (tb_3 (List.mem_of_getElem? (i := 54) rfl)) rfl
theorem tw_657 : Cond.code ⟨"ForestCourts$Patrols", "choose", "(II)V"⟩ prog_6_method_11_code 7 (Option.none : Option FieldType) ∈ TT := in_tb (tb_3 (List.mem_of_getElem? (i := 55) rfl)) rfl
theorem tw_658 : Cond.methodLink "ForestCourts$Patrols" 96 ⟨"ForestCourts$Patrols", "tryWay", "(I)I"⟩ ∈ TT := in_tb (tb_3 (List.mem_of_getElem? (i := 56) rfl)) rfl
theorem tw_660 : Cond.instanceMethod ⟨"ForestCourts$Patrols", "tryWay", "(I)I"⟩ ∈ TT := in_tb (tb_3 (List.mem_of_getElem? (i := 58) rfl)) rfl
theorem tw_661 : Cond.code ⟨"ForestCourts$Patrols", "tryWay", "(I)I"⟩ prog_6_method_12_code 7 (Option.some FieldType.int) ∈ TT := in_tb (tb_3 (List.mem_of_getElem? (i := 59) rfl)) rfl
theorem tw_662 : Cond.methodLink "ForestCourtsLaw" 266 ⟨"ForestCourts", "count", "(I)I"⟩ ∈ TT := in_tb (tb_3 (List.mem_of_getElem? (i := 60) rfl)) rfl
theorem tw_663 : Cond.instanceMethod ⟨"ForestCourts", "count", "(I)I"⟩ ∈ TT := in_tb (tb_3 (List.mem_of_getElem? (i := 61) rfl)) rfl
theorem tw_664 : Cond.selects "ForestCourts" ⟨"ForestCourts", "count", "(I)I"⟩ ⟨"ForestCourts", "count", "(I)I"⟩ ∈ TT := in_tb (tb_3 (List.mem_of_getElem? (i := 62) rfl)) rfl
theorem tw_665 : Cond.code ⟨"ForestCourts", "count", "(I)I"⟩ prog_1_method_42_code 2 (Option.some FieldType.int) ∈ TT := in_tb (tb_3 (List.mem_of_getElem? (i := 63) rfl)) rfl
theorem tw_666 : Cond.methodLink "ForestCourtsLaw" 128 ⟨"ForestCourtsLaw", "wait", "(LForestCourts;I[J)I"⟩ ∈ TT := in_tb (tb_3 (List.mem_of_getElem? (i := 64) rfl)) rfl
theorem tw_667 : Cond.static ⟨"ForestCourtsLaw", "wait", "(LForestCourts;I[J)I"⟩ ∈ TT := in_tb (tb_3 (List.mem_of_getElem? (i := 65) rfl)) rfl
theorem tw_668 : Cond.codeWith ⟨"ForestCourtsLaw", "wait", "(LForestCourts;I[J)I"⟩ method_3_code 4 (Option.some FieldType.int) [(0, 9, 12, 13), (0, 9, 15, 15)] ∈ TT := in_tb (tb_3 (List.mem_of_getElem? (i := 66) rfl)) rfl
theorem tw_669 : Cond.classLink "ForestCourtsLaw" 13 "java/lang/IllegalArgumentException" ∈ TT := in_tb (tb_3 (List.mem_of_getElem? (i := 67) rfl)) rfl
theorem tw_670 : Cond.classLink "ForestCourtsLaw" 15 "java/lang/IllegalStateException" ∈ TT := in_tb (tb_3 (List.mem_of_getElem? (i := 68) rfl)) rfl
theorem tw_671 : Cond.methodLink "ForestCourtsLaw" 7 ⟨"ForestCourts", "wait", "(I)I"⟩ ∈ TT := in_tb (tb_3 (List.mem_of_getElem? (i := 69) rfl)) rfl
theorem tw_672 : Cond.instanceMethod ⟨"ForestCourts", "wait", "(I)I"⟩ ∈ TT := in_tb (tb_3 (List.mem_of_getElem? (i := 70) rfl)) rfl
theorem tw_673 : Cond.selects "ForestCourts" ⟨"ForestCourts", "wait", "(I)I"⟩ ⟨"ForestCourts", "wait", "(I)I"⟩ ∈ TT := in_tb (tb_3 (List.mem_of_getElem? (i := 71) rfl)) rfl
theorem tw_674 : Cond.code ⟨"ForestCourts", "wait", "(I)I"⟩ prog_1_method_2_code 3 (Option.some FieldType.int) ∈ TT := in_tb (tb_3 (List.mem_of_getElem? (i := 72) rfl)) rfl
theorem tw_675 : Cond.methodLink "ForestCourts" 92 ⟨"ForestCourts", "within", "(III)Z"⟩ ∈ TT := in_tb (tb_3 (List.mem_of_getElem? (i := 73) rfl)) rfl
theorem tw_676 : Cond.static ⟨"ForestCourts", "within", "(III)Z"⟩ ∈ TT := in_tb (tb_3 (List.mem_of_getElem? (i := 74) rfl)) rfl
theorem tw_677 : Cond.code ⟨"ForestCourts", "within", "(III)Z"⟩ prog_1_method_44_code 3 (Option.some FieldType.boolean) ∈ TT := in_tb (tb_3 (List.mem_of_getElem? (i := 75) rfl)) rfl
theorem tw_678 : Cond.methodLink "ForestCourts" 96 ⟨"ForestCourts", "checkArgument", "(Z)V"⟩ ∈ TT := in_tb (tb_3 (List.mem_of_getElem? (i := 76) rfl)) rfl
theorem tw_679 : Cond.static ⟨"ForestCourts", "checkArgument", "(Z)V"⟩ ∈ TT := in_tb (tb_3 (List.mem_of_getElem? (i := 77) rfl)) rfl
theorem tw_680 : Cond.code ⟨"ForestCourts", "checkArgument", "(Z)V"⟩ prog_1_method_50_code 1 (Option.none : Option FieldType) ∈ TT := in_tb (tb_3 (List.mem_of_getElem? (i := 78) rfl)) rfl
theorem tw_681 : Cond.classLink "ForestCourts" 320 "java/lang/IllegalArgumentException" ∈ TT := in_tb (tb_3 (List.mem_of_getElem? (i := 79) rfl)) rfl
theorem tw_683 : Cond.castable "java/lang/IllegalArgumentException" "java/lang/IllegalArgumentException" ∈ NN := in_tN (tb_3 (List.mem_of_getElem? (i := 81) rfl)) rfl
theorem tw_749 : Cond.constant "ForestCourts" 104 (100000) ∈ TT := in_tb (tb_3 (List.mem_of_getElem? (i := 147) rfl)) rfl
theorem tw_750 : Cond.methodLink "ForestCourts" 105 ⟨"ForestCourts", "checkState", "(Z)V"⟩ ∈ TT := in_tb (tb_3 (List.mem_of_getElem? (i := 148) rfl)) rfl
theorem tw_751 : Cond.static ⟨"ForestCourts", "checkState", "(Z)V"⟩ ∈ TT := in_tb (tb_3 (List.mem_of_getElem? (i := 149) rfl)) rfl
theorem tw_752 : Cond.code ⟨"ForestCourts", "checkState", "(Z)V"⟩ prog_1_method_52_code 1 (Option.none : Option FieldType) ∈ TT := in_tb (tb_3 (List.mem_of_getElem? (i := 150) rfl)) rfl
theorem tw_753 : Cond.classLink "ForestCourts" 332 "java/lang/IllegalStateException" ∈ TT := in_tb (tb_3 (List.mem_of_getElem? (i := 151) rfl)) rfl
theorem tw_755 : Cond.castable "java/lang/IllegalStateException" "java/lang/IllegalStateException" ∈ NN := in_tN (tb_3 (List.mem_of_getElem? (i := 153) rfl)) rfl
theorem tw_769 : Cond.methodLink "ForestCourts" 108 ⟨"ForestCourts$Courts", "beginDay", "()V"⟩ ∈ TT := in_tb (tb_3 (List.mem_of_getElem? (i := 167) rfl)) rfl
theorem tw_770 : Cond.instanceMethod ⟨"ForestCourts$Courts", "beginDay", "()V"⟩ ∈ TT := in_tb (tb_3 (List.mem_of_getElem? (i := 168) rfl)) rfl
theorem tw_771 : Cond.selects "ForestCourts$Courts" ⟨"ForestCourts$Courts", "beginDay", "()V"⟩ ⟨"ForestCourts$Courts", "beginDay", "()V"⟩ ∈ TT := in_tb (tb_3 (List.mem_of_getElem? (i := 169) rfl)) rfl
theorem tw_772 : Cond.code ⟨"ForestCourts$Courts", "beginDay", "()V"⟩ prog_3_method_9_code 4 (Option.none : Option FieldType) ∈ TT := in_tb (tb_3 (List.mem_of_getElem? (i := 170) rfl)) rfl
theorem tw_773 : Cond.methodLink "ForestCourts$Courts" 119 ⟨"ForestCourts$Table", "size", "()I"⟩ ∈ TT := in_tb (tb_3 (List.mem_of_getElem? (i := 171) rfl)) rfl
theorem tw_774 : Cond.methodLink "ForestCourts$Courts" 125 ⟨"ForestCourts$Courts", "readRules", "()V"⟩ ∈ TT := in_tb (tb_3 (List.mem_of_getElem? (i := 172) rfl)) rfl
theorem tw_776 : Cond.instanceMethod ⟨"ForestCourts$Courts", "readRules", "()V"⟩ ∈ TT := in_tb (tb_3 (List.mem_of_getElem? (i := 174) rfl)) rfl
theorem tw_777 : Cond.code ⟨"ForestCourts$Courts", "readRules", "()V"⟩ prog_3_method_10_code 2 (Option.none : Option FieldType) ∈ TT := in_tb (tb_3 (List.mem_of_getElem? (i := 175) rfl)) rfl
theorem tw_778 : Cond.methodLink "ForestCourts$Courts" 144 ⟨"ForestCourts$Laws", "ruleOn", "(II)I"⟩ ∈ TT := in_tb (tb_3 (List.mem_of_getElem? (i := 176) rfl)) rfl
theorem tw_779 : Cond.instanceMethod ⟨"ForestCourts$Laws", "ruleOn", "(II)I"⟩ ∈ TT := in_tb (tb_3 (List.mem_of_getElem? (i := 177) rfl)) rfl
theorem tw_780 : Cond.selects "ForestCourts$Laws" ⟨"ForestCourts$Laws", "ruleOn", "(II)I"⟩ ⟨"ForestCourts$Laws", "ruleOn", "(II)I"⟩ ∈ TT := in_tb (tb_3 (List.mem_of_getElem? (i := 178) rfl)) rfl
theorem tw_781 : Cond.code ⟨"ForestCourts$Laws", "ruleOn", "(II)I"⟩ prog_5_method_6_code 6 (Option.some FieldType.int) ∈ TT := in_tb (tb_3 (List.mem_of_getElem? (i := 179) rfl)) rfl
theorem tw_782 : Cond.fieldLink "ForestCourts$Laws" 91 "ForestCourts$Laws" "PLAIN_RULES" "[I" ∈ TT := in_tb (tb_3 (List.mem_of_getElem? (i := 180) rfl)) rfl
theorem tw_784 : Cond.methodLink "ForestCourts$Laws" 94 ⟨"ForestCourts$Laws", "forceOn", "(I)I"⟩ ∈ TT := in_tb (tb_3 (List.mem_of_getElem? (i := 182) rfl)) rfl
theorem tw_785 : Cond.instanceMethod ⟨"ForestCourts$Laws", "forceOn", "(I)I"⟩ ∈ TT := in_tb (tb_3 (List.mem_of_getElem? (i := 183) rfl)) rfl
theorem tw_786 : Cond.selects "ForestCourts$Laws" ⟨"ForestCourts$Laws", "forceOn", "(I)I"⟩ ⟨"ForestCourts$Laws", "forceOn", "(I)I"⟩ ∈ TT := in_tb (tb_3 (List.mem_of_getElem? (i := 184) rfl)) rfl
theorem tw_787 : Cond.code ⟨"ForestCourts$Laws", "forceOn", "(I)I"⟩ prog_5_method_4_code 5 (Option.some FieldType.int) ∈ TT := in_tb (tb_3 (List.mem_of_getElem? (i := 185) rfl)) rfl
theorem tw_788 : Cond.methodLink "ForestCourts$Laws" 53 ⟨"ForestCourts$Table", "size", "()I"⟩ ∈ TT := in_tb (tb_3 (List.mem_of_getElem? (i := 186) rfl)) rfl
theorem tw_789 : Cond.methodLink "ForestCourts$Laws" 86 ⟨"ForestCourts$Table", "get", "(II)I"⟩ ∈ TT := in_tb (tb_3 (List.mem_of_getElem? (i := 187) rfl)) rfl
theorem tw_790 : Cond.methodLink "ForestCourts$Courts" 147 ⟨"ForestCourts$Laws", "nextChange", "(I)I"⟩ ∈ TT := in_tb (tb_3 (List.mem_of_getElem? (i := 188) rfl)) rfl
theorem tw_791 : Cond.instanceMethod ⟨"ForestCourts$Laws", "nextChange", "(I)I"⟩ ∈ TT := in_tb (tb_3 (List.mem_of_getElem? (i := 189) rfl)) rfl
theorem tw_792 : Cond.selects "ForestCourts$Laws" ⟨"ForestCourts$Laws", "nextChange", "(I)I"⟩ ⟨"ForestCourts$Laws", "nextChange", "(I)I"⟩ ∈ TT := in_tb (tb_3 (List.mem_of_getElem? (i := 190) rfl)) rfl
theorem tw_793 : Cond.code ⟨"ForestCourts$Laws", "nextChange", "(I)I"⟩ prog_5_method_5_code 5 (Option.some FieldType.int) ∈ TT := in_tb (tb_3 (List.mem_of_getElem? (i := 191) rfl)) rfl
theorem tw_794 : Cond.constant "ForestCourts$Laws" 90 (100001) ∈ TT := in_tb (tb_3 (List.mem_of_getElem? (i := 192) rfl)) rfl
theorem tw_795 : Cond.methodLink "ForestCourts$Courts" 128 ⟨"ForestCourts$Courts", "comesUp", "(II)Z"⟩ ∈ TT := in_tb (tb_3 (List.mem_of_getElem? (i := 193) rfl)) rfl
theorem tw_797 : Cond.instanceMethod ⟨"ForestCourts$Courts", "comesUp", "(II)Z"⟩ ∈ TT := in_tb (tb_3 (List.mem_of_getElem? (i := 195) rfl)) rfl
theorem tw_798 : Cond.code ⟨"ForestCourts$Courts", "comesUp", "(II)Z"⟩ prog_3_method_11_code 5 (Option.some FieldType.boolean) ∈ TT := in_tb (tb_3 (List.mem_of_getElem? (i := 196) rfl)) rfl
theorem tw_799 : Cond.methodLink "ForestCourts$Courts" 57 ⟨"ForestCourts$Table", "get", "(II)I"⟩ ∈ TT := in_tb (tb_3 (List.mem_of_getElem? (i := 197) rfl)) rfl
theorem tw_800 : Cond.methodLink "ForestCourts$Courts" 132 ⟨"ForestCourts$Courts", "findAccused", "(I)Z"⟩ ∈ TT := in_tb (tb_3 (List.mem_of_getElem? (i := 198) rfl)) rfl
theorem tw_802 : Cond.instanceMethod ⟨"ForestCourts$Courts", "findAccused", "(I)Z"⟩ ∈ TT := in_tb (tb_3 (List.mem_of_getElem? (i := 200) rfl)) rfl
theorem tw_803 : Cond.code ⟨"ForestCourts$Courts", "findAccused", "(I)Z"⟩ prog_3_method_15_code 5 (Option.some FieldType.boolean) ∈ TT := in_tb (tb_3 (List.mem_of_getElem? (i := 201) rfl)) rfl
theorem tw_804 : Cond.methodLink "ForestCourts$Courts" 103 ⟨"ForestCourts$People", "lives", "(I)Z"⟩ ∈ TT := in_tb (tb_3 (List.mem_of_getElem? (i := 202) rfl)) rfl
theorem tw_805 : Cond.instanceMethod ⟨"ForestCourts$People", "lives", "(I)Z"⟩ ∈ TT := in_tb (tb_3 (List.mem_of_getElem? (i := 203) rfl)) rfl
theorem tw_806 : Cond.selects "ForestCourts$People" ⟨"ForestCourts$People", "lives", "(I)Z"⟩ ⟨"ForestCourts$People", "lives", "(I)Z"⟩ ∈ TT := in_tb (tb_3 (List.mem_of_getElem? (i := 204) rfl)) rfl
theorem tw_807 : Cond.code ⟨"ForestCourts$People", "lives", "(I)Z"⟩ prog_7_method_3_code 2 (Option.some FieldType.boolean) ∈ TT := in_tb (tb_3 (List.mem_of_getElem? (i := 205) rfl)) rfl
theorem tw_808 : Cond.methodLink "ForestCourts$People" 28 ⟨"ForestCourts$Table", "has", "(I)Z"⟩ ∈ TT := in_tb (tb_3 (List.mem_of_getElem? (i := 206) rfl)) rfl
theorem tw_809 : Cond.instanceMethod ⟨"ForestCourts$Table", "has", "(I)Z"⟩ ∈ TT := in_tb (tb_3 (List.mem_of_getElem? (i := 207) rfl)) rfl
theorem tw_810 : Cond.selects "ForestCourts$Table" ⟨"ForestCourts$Table", "has", "(I)Z"⟩ ⟨"ForestCourts$Table", "has", "(I)Z"⟩ ∈ TT := in_tb (tb_3 (List.mem_of_getElem? (i := 208) rfl)) rfl
theorem tw_811 : Cond.code ⟨"ForestCourts$Table", "has", "(I)Z"⟩ prog_11_method_3_code 2 (Option.some FieldType.boolean) ∈ TT := in_tb (tb_3 (List.mem_of_getElem? (i := 209) rfl)) rfl
theorem tw_812 : Cond.methodLink "ForestCourts$People" 32 ⟨"ForestCourts$Table", "get", "(II)I"⟩ ∈ TT := in_tb (tb_3 (List.mem_of_getElem? (i := 210) rfl)) rfl
theorem tw_813 : Cond.methodLink "ForestCourts$Courts" 153 ⟨"ForestCourts$People", "heirOf", "(I)I"⟩ ∈ TT := in_tb (tb_3 (List.mem_of_getElem? (i := 211) rfl)) rfl
theorem tw_814 : Cond.instanceMethod ⟨"ForestCourts$People", "heirOf", "(I)I"⟩ ∈ TT := in_tb (tb_3 (List.mem_of_getElem? (i := 212) rfl)) rfl
theorem tw_815 : Cond.selects "ForestCourts$People" ⟨"ForestCourts$People", "heirOf", "(I)I"⟩ ⟨"ForestCourts$People", "heirOf", "(I)I"⟩ ∈ TT := in_tb (tb_3 (List.mem_of_getElem? (i := 213) rfl)) rfl
theorem tw_816 : Cond.code ⟨"ForestCourts$People", "heirOf", "(I)I"⟩ prog_7_method_4_code 4 (Option.some FieldType.int) ∈ TT := in_tb (tb_3 (List.mem_of_getElem? (i := 214) rfl)) rfl
theorem tw_817 : Cond.methodLink "ForestCourts$People" 36 ⟨"ForestCourts$Table", "size", "()I"⟩ ∈ TT := in_tb (tb_3 (List.mem_of_getElem? (i := 215) rfl)) rfl
theorem tw_818 : Cond.methodLink "ForestCourts$People" 39 ⟨"ForestCourts$People", "lives", "(I)Z"⟩ ∈ TT := in_tb (tb_3 (List.mem_of_getElem? (i := 216) rfl)) rfl
theorem tw_819 : Cond.methodLink "ForestCourts$Courts" 150 ⟨"ForestCourts$Courts", "settle", "(II)V"⟩ ∈ TT := in_tb (tb_3 (List.mem_of_getElem? (i := 217) rfl)) rfl
theorem tw_821 : Cond.instanceMethod ⟨"ForestCourts$Courts", "settle", "(II)V"⟩ ∈ TT := in_tb (tb_3 (List.mem_of_getElem? (i := 219) rfl)) rfl
theorem tw_822 : Cond.code ⟨"ForestCourts$Courts", "settle", "(II)V"⟩ prog_3_method_14_code 3 (Option.none : Option FieldType) ∈ TT := in_tb (tb_3 (List.mem_of_getElem? (i := 220) rfl)) rfl
theorem tw_823 : Cond.methodLink "ForestCourts$Courts" 53 ⟨"ForestCourts$Table", "put", "(III)V"⟩ ∈ TT := in_tb (tb_3 (List.mem_of_getElem? (i := 221) rfl)) rfl
theorem tw_824 : Cond.methodLink "ForestCourts$Courts" 135 ⟨"ForestCourts$Courts", "attach", "(I)V"⟩ ∈ TT := in_tb (tb_3 (List.mem_of_getElem? (i := 222) rfl)) rfl
theorem tw_826 : Cond.instanceMethod ⟨"ForestCourts$Courts", "attach", "(I)V"⟩ ∈ TT := in_tb (tb_3 (List.mem_of_getElem? (i := 224) rfl)) rfl
theorem tw_827 : Cond.code ⟨"ForestCourts$Courts", "attach", "(I)V"⟩ prog_3_method_12_code 3 (Option.none : Option FieldType) ∈ TT := in_tb (tb_3 (List.mem_of_getElem? (i := 225) rfl)) rfl
theorem tw_828 : Cond.methodLink "ForestCourts$Courts" 138 ⟨"ForestCourts$Courts", "find", "(I)V"⟩ ∈ TT := in_tb (tb_3 (List.mem_of_getElem? (i := 226) rfl)) rfl
theorem tw_830 : Cond.instanceMethod ⟨"ForestCourts$Courts", "find", "(I)V"⟩ ∈ TT := in_tb (tb_3 (List.mem_of_getElem? (i := 228) rfl)) rfl
theorem tw_831 : Cond.code ⟨"ForestCourts$Courts", "find", "(I)V"⟩ prog_3_method_13_code 4 (Option.none : Option FieldType) ∈ TT := in_tb (tb_3 (List.mem_of_getElem? (i := 229) rfl)) rfl
theorem tw_832 : Cond.methodLink "ForestCourts$Courts" 61 ⟨"ForestCourts$Ground", "placeOn", "(III)I"⟩ ∈ TT := in_tb (tb_3 (List.mem_of_getElem? (i := 230) rfl)) rfl
theorem tw_833 : Cond.instanceMethod ⟨"ForestCourts$Ground", "placeOn", "(III)I"⟩ ∈ TT := in_tb (tb_3 (List.mem_of_getElem? (i := 231) rfl)) rfl
theorem tw_834 : Cond.selects "ForestCourts$Ground" ⟨"ForestCourts$Ground", "placeOn", "(III)I"⟩ ⟨"ForestCourts$Ground", "placeOn", "(III)I"⟩ ∈ TT := in_tb (tb_3 (List.mem_of_getElem? (i := 232) rfl)) rfl
theorem tw_835 : Cond.code ⟨"ForestCourts$Ground", "placeOn", "(III)I"⟩ prog_4_method_15_code 10 (Option.some FieldType.int) ∈ TT := in_tb (tb_3 (List.mem_of_getElem? (i := 233) rfl)) rfl
theorem tw_836 : Cond.methodLink "ForestCourts$Ground" 94 ⟨"ForestCourts$Ground", "boundsOn", "(I)I"⟩ ∈ TT := in_tb (tb_3 (List.mem_of_getElem? (i := 234) rfl)) rfl
theorem tw_837 : Cond.instanceMethod ⟨"ForestCourts$Ground", "boundsOn", "(I)I"⟩ ∈ TT := in_tb (tb_3 (List.mem_of_getElem? (i := 235) rfl)) rfl
theorem tw_838 : Cond.selects "ForestCourts$Ground" ⟨"ForestCourts$Ground", "boundsOn", "(I)I"⟩ ⟨"ForestCourts$Ground", "boundsOn", "(I)I"⟩ ∈ TT := in_tb (tb_3 (List.mem_of_getElem? (i := 236) rfl)) rfl
theorem tw_839 : Cond.code ⟨"ForestCourts$Ground", "boundsOn", "(I)I"⟩ prog_4_method_14_code 7 (Option.some FieldType.int) ∈ TT := in_tb (tb_3 (List.mem_of_getElem? (i := 237) rfl)) rfl
theorem tw_840 : Cond.methodLink "ForestCourts$Ground" 27 ⟨"ForestCourts$Table", "size", "()I"⟩ ∈ TT := in_tb (tb_3 (List.mem_of_getElem? (i := 238) rfl)) rfl
theorem tw_841 : Cond.methodLink "ForestCourts$Ground" 31 ⟨"ForestCourts$Table", "get", "(II)I"⟩ ∈ TT := in_tb (tb_3 (List.mem_of_getElem? (i := 239) rfl)) rfl
theorem tw_842 : Cond.methodLink "ForestCourts$Ground" 98 ⟨"ForestCourts$Ground", "isNear", "(IIII)Z"⟩ ∈ TT := in_tb (tb_4 (List.mem_of_getElem? (i := 0) rfl)) rfl
theorem tw_844 : Cond.instanceMethod ⟨"ForestCourts$Ground", "isNear", "(IIII)Z"⟩ ∈ TT := in_tb (tb_4 (List.mem_of_getElem? (i := 2) rfl)) rfl
theorem tw_845 : Cond.code ⟨"ForestCourts$Ground", "isNear", "(IIII)Z"⟩ prog_4_method_16_code 21 (Option.some FieldType.boolean) ∈ TT := in_tb (tb_4 (List.mem_of_getElem? (i := 3) rfl)) rfl
theorem tw_846 : Cond.methodLink "ForestCourts$Ground" 101 ⟨"ForestCourts$Ground", "isLeftOf", "(IIII)Z"⟩ ∈ TT := in_tb (tb_4 (List.mem_of_getElem? (i := 4) rfl)) rfl
theorem tw_848 : Cond.instanceMethod ⟨"ForestCourts$Ground", "isLeftOf", "(IIII)Z"⟩ ∈ TT := in_tb (tb_4 (List.mem_of_getElem? (i := 6) rfl)) rfl
theorem tw_849 : Cond.code ⟨"ForestCourts$Ground", "isLeftOf", "(IIII)Z"⟩ prog_4_method_17_code 9 (Option.some FieldType.boolean) ∈ TT := in_tb (tb_4 (List.mem_of_getElem? (i := 7) rfl)) rfl
theorem tw_850 : Cond.methodLink "ForestCourts$Ground" 87 ⟨"ForestCourts$Ground", "handOf", "(IIII)I"⟩ ∈ TT := in_tb (tb_4 (List.mem_of_getElem? (i := 8) rfl)) rfl
theorem tw_851 : Cond.static ⟨"ForestCourts$Ground", "handOf", "(IIII)I"⟩ ∈ TT := in_tb (tb_4 (List.mem_of_getElem? (i := 9) rfl)) rfl
theorem tw_852 : Cond.code ⟨"ForestCourts$Ground", "handOf", "(IIII)I"⟩ prog_4_method_12_code 5 (Option.some FieldType.int) ∈ TT := in_tb (tb_4 (List.mem_of_getElem? (i := 10) rfl)) rfl
theorem tw_853 : Cond.methodLink "ForestCourts$Courts" 141 ⟨"ForestCourts$Courts", "askFor", "(I)V"⟩ ∈ TT := in_tb (tb_4 (List.mem_of_getElem? (i := 11) rfl)) rfl
theorem tw_855 : Cond.instanceMethod ⟨"ForestCourts$Courts", "askFor", "(I)V"⟩ ∈ TT := in_tb (tb_4 (List.mem_of_getElem? (i := 13) rfl)) rfl
theorem tw_856 : Cond.code ⟨"ForestCourts$Courts", "askFor", "(I)V"⟩ prog_3_method_16_code 6 (Option.none : Option FieldType) ∈ TT := in_tb (tb_4 (List.mem_of_getElem? (i := 14) rfl)) rfl
theorem tw_857 : Cond.methodLink "ForestCourts$Courts" 156 ⟨"ForestCourts$Courts", "fineOf", "(I)I"⟩ ∈ TT := in_tb (tb_4 (List.mem_of_getElem? (i := 15) rfl)) rfl
theorem tw_858 : Cond.instanceMethod ⟨"ForestCourts$Courts", "fineOf", "(I)I"⟩ ∈ TT := in_tb (tb_4 (List.mem_of_getElem? (i := 16) rfl)) rfl
theorem tw_859 : Cond.selects "ForestCourts$Courts" ⟨"ForestCourts$Courts", "fineOf", "(I)I"⟩ ⟨"ForestCourts$Courts", "fineOf", "(I)I"⟩ ∈ TT := in_tb (tb_4 (List.mem_of_getElem? (i := 17) rfl)) rfl
theorem tw_860 : Cond.code ⟨"ForestCourts$Courts", "fineOf", "(I)I"⟩ prog_3_method_5_code 2 (Option.some FieldType.int) ∈ TT := in_tb (tb_4 (List.mem_of_getElem? (i := 18) rfl)) rfl
theorem tw_861 : Cond.methodLink "ForestCourts$Courts" 78 ⟨"ForestCourts$Courts", "hearLaws", "(I)V"⟩ ∈ TT := in_tb (tb_4 (List.mem_of_getElem? (i := 19) rfl)) rfl
theorem tw_862 : Cond.instanceMethod ⟨"ForestCourts$Courts", "hearLaws", "(I)V"⟩ ∈ TT := in_tb (tb_4 (List.mem_of_getElem? (i := 20) rfl)) rfl
theorem tw_863 : Cond.selects "ForestCourts$Courts" ⟨"ForestCourts$Courts", "hearLaws", "(I)V"⟩ ⟨"ForestCourts$Courts", "hearLaws", "(I)V"⟩ ∈ TT := in_tb (tb_4 (List.mem_of_getElem? (i := 21) rfl)) rfl
theorem tw_864 : Cond.code ⟨"ForestCourts$Courts", "hearLaws", "(I)V"⟩ prog_3_method_4_code 4 (Option.none : Option FieldType) ∈ TT := in_tb (tb_4 (List.mem_of_getElem? (i := 22) rfl)) rfl
theorem tw_865 : Cond.methodLink "ForestCourts$Courts" 72 ⟨"ForestCourts$Laws", "hear", "(IILForestCourts$Table;)V"⟩ ∈ TT := in_tb (tb_4 (List.mem_of_getElem? (i := 23) rfl)) rfl
theorem tw_866 : Cond.instanceMethod ⟨"ForestCourts$Laws", "hear", "(IILForestCourts$Table;)V"⟩ ∈ TT := in_tb (tb_4 (List.mem_of_getElem? (i := 24) rfl)) rfl
theorem tw_867 : Cond.selects "ForestCourts$Laws" ⟨"ForestCourts$Laws", "hear", "(IILForestCourts$Table;)V"⟩ ⟨"ForestCourts$Laws", "hear", "(IILForestCourts$Table;)V"⟩ ∈ TT := in_tb (tb_4 (List.mem_of_getElem? (i := 25) rfl)) rfl
theorem tw_868 : Cond.code ⟨"ForestCourts$Laws", "hear", "(IILForestCourts$Table;)V"⟩ prog_5_method_7_code 7 (Option.none : Option FieldType) ∈ TT := in_tb (tb_4 (List.mem_of_getElem? (i := 26) rfl)) rfl
theorem tw_869 : Cond.methodLink "ForestCourts$Laws" 98 ⟨"ForestCourts$Laws", "valueOf", "(ILForestCourts$Table;)I"⟩ ∈ TT := in_tb (tb_4 (List.mem_of_getElem? (i := 27) rfl)) rfl
theorem tw_871 : Cond.instanceMethod ⟨"ForestCourts$Laws", "valueOf", "(ILForestCourts$Table;)I"⟩ ∈ TT := in_tb (tb_4 (List.mem_of_getElem? (i := 29) rfl)) rfl
theorem tw_872 : Cond.code ⟨"ForestCourts$Laws", "valueOf", "(ILForestCourts$Table;)I"⟩ prog_5_method_12_code 6 (Option.some FieldType.int) ∈ TT := in_tb (tb_4 (List.mem_of_getElem? (i := 30) rfl)) rfl
theorem tw_873 : Cond.methodLink "ForestCourts$Laws" 114 ⟨"ForestCourts$Laws", "join", "(III)I"⟩ ∈ TT := in_tb (tb_4 (List.mem_of_getElem? (i := 31) rfl)) rfl
theorem tw_874 : Cond.static ⟨"ForestCourts$Laws", "join", "(III)I"⟩ ∈ TT := in_tb (tb_4 (List.mem_of_getElem? (i := 32) rfl)) rfl
theorem tw_875 : Cond.code ⟨"ForestCourts$Laws", "join", "(III)I"⟩ prog_5_method_13_code 3 (Option.some FieldType.int) ∈ TT := in_tb (tb_4 (List.mem_of_getElem? (i := 33) rfl)) rfl
theorem tw_876 : Cond.methodLink "ForestCourts$Laws" 102 ⟨"java/lang/Math", "min", "(II)I"⟩ ∈ TT := in_tb (tb_4 (List.mem_of_getElem? (i := 34) rfl)) rfl
theorem tw_877 : Cond.methodLink "ForestCourts$Laws" 107 ⟨"java/lang/Math", "max", "(II)I"⟩ ∈ TT := in_tb (tb_4 (List.mem_of_getElem? (i := 35) rfl)) rfl
theorem tw_878 : Cond.methodLink "ForestCourts$Laws" 110 ⟨"ForestCourts$Laws", "isWithoutIf", "(I)Z"⟩ ∈ TT := in_tb (tb_4 (List.mem_of_getElem? (i := 36) rfl)) rfl
theorem tw_880 : Cond.instanceMethod ⟨"ForestCourts$Laws", "isWithoutIf", "(I)Z"⟩ ∈ TT := in_tb (tb_4 (List.mem_of_getElem? (i := 38) rfl)) rfl
theorem tw_881 : Cond.code ⟨"ForestCourts$Laws", "isWithoutIf", "(I)Z"⟩ prog_5_method_11_code 2 (Option.some FieldType.boolean) ∈ TT := in_tb (tb_4 (List.mem_of_getElem? (i := 39) rfl)) rfl
theorem tw_882 : Cond.methodLink "ForestCourts$Courts" 82 ⟨"ForestCourts$Laws", "fineOr", "(I)I"⟩ ∈ TT := in_tb (tb_4 (List.mem_of_getElem? (i := 40) rfl)) rfl
theorem tw_883 : Cond.instanceMethod ⟨"ForestCourts$Laws", "fineOr", "(I)I"⟩ ∈ TT := in_tb (tb_4 (List.mem_of_getElem? (i := 41) rfl)) rfl
theorem tw_884 : Cond.selects "ForestCourts$Laws" ⟨"ForestCourts$Laws", "fineOr", "(I)I"⟩ ⟨"ForestCourts$Laws", "fineOr", "(I)I"⟩ ∈ TT := in_tb (tb_4 (List.mem_of_getElem? (i := 42) rfl)) rfl
theorem tw_885 : Cond.code ⟨"ForestCourts$Laws", "fineOr", "(I)I"⟩ prog_5_method_10_code 2 (Option.some FieldType.int) ∈ TT := in_tb (tb_4 (List.mem_of_getElem? (i := 43) rfl)) rfl
theorem tw_886 : Cond.methodLink "ForestCourts$Courts" 159 ⟨"ForestCourts$Courts", "charge", "(IIII)I"⟩ ∈ TT := in_tb (tb_4 (List.mem_of_getElem? (i := 44) rfl)) rfl
theorem tw_888 : Cond.instanceMethod ⟨"ForestCourts$Courts", "charge", "(IIII)I"⟩ ∈ TT := in_tb (tb_4 (List.mem_of_getElem? (i := 46) rfl)) rfl
theorem tw_889 : Cond.code ⟨"ForestCourts$Courts", "charge", "(IIII)I"⟩ prog_3_method_18_code 9 (Option.some FieldType.int) ∈ TT := in_tb (tb_4 (List.mem_of_getElem? (i := 47) rfl)) rfl
theorem tw_890 : Cond.methodLink "ForestCourts$Courts" 166 ⟨"ForestCourts$People", "pay", "(II)I"⟩ ∈ TT := in_tb (tb_4 (List.mem_of_getElem? (i := 48) rfl)) rfl
theorem tw_891 : Cond.instanceMethod ⟨"ForestCourts$People", "pay", "(II)I"⟩ ∈ TT := in_tb (tb_4 (List.mem_of_getElem? (i := 49) rfl)) rfl
theorem tw_892 : Cond.selects "ForestCourts$People" ⟨"ForestCourts$People", "pay", "(II)I"⟩ ⟨"ForestCourts$People", "pay", "(II)I"⟩ ∈ TT := in_tb (tb_4 (List.mem_of_getElem? (i := 50) rfl)) rfl
theorem tw_893 : Cond.code ⟨"ForestCourts$People", "pay", "(II)I"⟩ prog_7_method_5_code 4 (Option.some FieldType.int) ∈ TT := in_tb (tb_4 (List.mem_of_getElem? (i := 51) rfl)) rfl
theorem tw_894 : Cond.methodLink "ForestCourts$People" 42 ⟨"java/lang/Math", "min", "(II)I"⟩ ∈ TT := in_tb (tb_4 (List.mem_of_getElem? (i := 52) rfl)) rfl
theorem tw_895 : Cond.methodLink "ForestCourts$People" 47 ⟨"java/lang/Math", "max", "(II)I"⟩ ∈ TT := in_tb (tb_4 (List.mem_of_getElem? (i := 53) rfl)) rfl
theorem tw_896 : Cond.methodLink "ForestCourts$People" 50 ⟨"ForestCourts$Table", "raise", "(III)I"⟩ ∈ TT := in_tb (tb_4 (List.mem_of_getElem? (i := 54) rfl)) rfl
theorem tw_897 : Cond.instanceMethod ⟨"ForestCourts$Table", "raise", "(III)I"⟩ ∈ TT := in_tb (tb_4 (List.mem_of_getElem? (i := 55) rfl)) rfl
theorem tw_898 : Cond.selects "ForestCourts$Table" ⟨"ForestCourts$Table", "raise", "(III)I"⟩ ⟨"ForestCourts$Table", "raise", "(III)I"⟩ ∈ TT := in_tb (tb_4 (List.mem_of_getElem? (i := 56) rfl)) rfl
theorem tw_899 : Cond.code ⟨"ForestCourts$Table", "raise", "(III)I"⟩ prog_11_method_10_code 4 (Option.some FieldType.int) ∈ TT := in_tb (tb_4 (List.mem_of_getElem? (i := 57) rfl)) rfl
theorem tw_900 : Cond.methodLink "ForestCourts$Table" 45 ⟨"ForestCourts$Table", "get", "(II)I"⟩ ∈ TT := in_tb (tb_4 (List.mem_of_getElem? (i := 58) rfl)) rfl
theorem tw_901 : Cond.methodLink "ForestCourts$Courts" 169 ⟨"ForestCourts$People", "give", "(II)V"⟩ ∈ TT := in_tb (tb_4 (List.mem_of_getElem? (i := 59) rfl)) rfl
theorem tw_902 : Cond.instanceMethod ⟨"ForestCourts$People", "give", "(II)V"⟩ ∈ TT := in_tb (tb_4 (List.mem_of_getElem? (i := 60) rfl)) rfl
theorem tw_903 : Cond.selects "ForestCourts$People" ⟨"ForestCourts$People", "give", "(II)V"⟩ ⟨"ForestCourts$People", "give", "(II)V"⟩ ∈ TT := in_tb (tb_4 (List.mem_of_getElem? (i := 61) rfl)) rfl
theorem tw_904 : Cond.code ⟨"ForestCourts$People", "give", "(II)V"⟩ prog_7_method_6_code 3 (Option.none : Option FieldType) ∈ TT := in_tb (tb_4 (List.mem_of_getElem? (i := 62) rfl)) rfl
theorem tw_905 : Cond.constant "ForestCourts$People" 54 (1000000) ∈ TT := in_tb (tb_4 (List.mem_of_getElem? (i := 63) rfl)) rfl
theorem tw_906 : Cond.methodLink "ForestCourts$People" 24 ⟨"ForestCourts$Table", "put", "(III)V"⟩ ∈ TT := in_tb (tb_4 (List.mem_of_getElem? (i := 64) rfl)) rfl
theorem tw_907 : Cond.methodLink "ForestCourts$Courts" 110 ⟨"ForestCourts$Table", "raise", "(III)I"⟩ ∈ TT := in_tb (tb_4 (List.mem_of_getElem? (i := 65) rfl)) rfl
theorem tw_908 : Cond.methodLink "ForestCourts$Courts" 163 ⟨"ForestCourts$Courts", "whoPaysFor", "(I)I"⟩ ∈ TT := in_tb (tb_4 (List.mem_of_getElem? (i := 66) rfl)) rfl
theorem tw_910 : Cond.instanceMethod ⟨"ForestCourts$Courts", "whoPaysFor", "(I)I"⟩ ∈ TT := in_tb (tb_4 (List.mem_of_getElem? (i := 68) rfl)) rfl
theorem tw_911 : Cond.code ⟨"ForestCourts$Courts", "whoPaysFor", "(I)I"⟩ prog_3_method_17_code 2 (Option.some FieldType.int) ∈ TT := in_tb (tb_4 (List.mem_of_getElem? (i := 69) rfl)) rfl
theorem tw_912 : Cond.methodLink "ForestCourtsLaw" 138 ⟨"ForestCourtsLaw", "mark", "(LForestCourts;III[J)I"⟩ ∈ TT := in_tb (tb_4 (List.mem_of_getElem? (i := 70) rfl)) rfl
theorem tw_913 : Cond.static ⟨"ForestCourtsLaw", "mark", "(LForestCourts;III[J)I"⟩ ∈ TT := in_tb (tb_4 (List.mem_of_getElem? (i := 71) rfl)) rfl
theorem tw_914 : Cond.codeWith ⟨"ForestCourtsLaw", "mark", "(LForestCourts;III[J)I"⟩ method_4_code 6 (Option.some FieldType.int) [(0, 12, 15, 13), (0, 12, 19, 15)] ∈ TT := in_tb (tb_4 (List.mem_of_getElem? (i := 72) rfl)) rfl
theorem tw_915 : Cond.methodLink "ForestCourtsLaw" 17 ⟨"ForestCourts", "mark", "(III)I"⟩ ∈ TT := in_tb (tb_4 (List.mem_of_getElem? (i := 73) rfl)) rfl
theorem tw_916 : Cond.instanceMethod ⟨"ForestCourts", "mark", "(III)I"⟩ ∈ TT := in_tb (tb_4 (List.mem_of_getElem? (i := 74) rfl)) rfl
theorem tw_917 : Cond.selects "ForestCourts" ⟨"ForestCourts", "mark", "(III)I"⟩ ⟨"ForestCourts", "mark", "(III)I"⟩ ∈ TT := in_tb (tb_4 (List.mem_of_getElem? (i := 75) rfl)) rfl
theorem tw_918 : Cond.code ⟨"ForestCourts", "mark", "(III)I"⟩ prog_1_method_4_code 4 (Option.some FieldType.int) ∈ TT := in_tb (tb_4 (List.mem_of_getElem? (i := 76) rfl)) rfl
theorem tw_919 : Cond.methodLink "ForestCourts" 119 ⟨"ForestCourts", "isPlace", "(II)Z"⟩ ∈ TT := in_tb (tb_4 (List.mem_of_getElem? (i := 77) rfl)) rfl
theorem tw_920 : Cond.static ⟨"ForestCourts", "isPlace", "(II)Z"⟩ ∈ TT := in_tb (tb_4 (List.mem_of_getElem? (i := 78) rfl)) rfl
theorem tw_921 : Cond.code ⟨"ForestCourts", "isPlace", "(II)Z"⟩ prog_1_method_47_code 2 (Option.some FieldType.boolean) ∈ TT := in_tb (tb_4 (List.mem_of_getElem? (i := 79) rfl)) rfl
theorem tw_922 : Cond.methodLink "ForestCourts" 126 ⟨"ForestCourts$Table", "isFull", "()Z"⟩ ∈ TT := in_tb (tb_4 (List.mem_of_getElem? (i := 80) rfl)) rfl
theorem tw_923 : Cond.methodLink "ForestCourts" 130 ⟨"ForestCourts$Ground", "addMark", "(III)I"⟩ ∈ TT := in_tb (tb_4 (List.mem_of_getElem? (i := 81) rfl)) rfl
theorem tw_924 : Cond.instanceMethod ⟨"ForestCourts$Ground", "addMark", "(III)I"⟩ ∈ TT := in_tb (tb_4 (List.mem_of_getElem? (i := 82) rfl)) rfl
theorem tw_925 : Cond.selects "ForestCourts$Ground" ⟨"ForestCourts$Ground", "addMark", "(III)I"⟩ ⟨"ForestCourts$Ground", "addMark", "(III)I"⟩ ∈ TT := in_tb (tb_4 (List.mem_of_getElem? (i := 83) rfl)) rfl
theorem tw_926 : Cond.code ⟨"ForestCourts$Ground", "addMark", "(III)I"⟩ prog_4_method_2_code 6 (Option.some FieldType.int) ∈ TT := in_tb (tb_4 (List.mem_of_getElem? (i := 84) rfl)) rfl
theorem tw_927 : Cond.methodLink "ForestCourts$Ground" 35 ⟨"ForestCourts$Table", "add", "()I"⟩ ∈ TT := in_tb (tb_4 (List.mem_of_getElem? (i := 85) rfl)) rfl
theorem tw_928 : Cond.methodLink "ForestCourts$Ground" 38 ⟨"ForestCourts$Table", "put", "(III)V"⟩ ∈ TT := in_tb (tb_4 (List.mem_of_getElem? (i := 86) rfl)) rfl
theorem tw_929 : Cond.methodLink "ForestCourtsLaw" 147 ⟨"ForestCourtsLaw", "ring", "(LForestCourts;II[J)I"⟩ ∈ TT := in_tb (tb_4 (List.mem_of_getElem? (i := 87) rfl)) rfl
theorem tw_930 : Cond.static ⟨"ForestCourtsLaw", "ring", "(LForestCourts;II[J)I"⟩ ∈ TT := in_tb (tb_4 (List.mem_of_getElem? (i := 88) rfl)) rfl
theorem tw_931 : Cond.codeWith ⟨"ForestCourtsLaw", "ring", "(LForestCourts;II[J)I"⟩ method_5_code 5 (Option.some FieldType.int) [(0, 10, 13, 13)] ∈ TT := in_tb (tb_4 (List.mem_of_getElem? (i := 89) rfl)) rfl
theorem tw_932 : Cond.methodLink "ForestCourtsLaw" 21 ⟨"ForestCourts", "ring", "(II)I"⟩ ∈ TT := in_tb (tb_4 (List.mem_of_getElem? (i := 90) rfl)) rfl
theorem tw_933 : Cond.instanceMethod ⟨"ForestCourts", "ring", "(II)I"⟩ ∈ TT := in_tb (tb_4 (List.mem_of_getElem? (i := 91) rfl)) rfl
theorem tw_934 : Cond.selects "ForestCourts" ⟨"ForestCourts", "ring", "(II)I"⟩ ⟨"ForestCourts", "ring", "(II)I"⟩ ∈ TT := in_tb (tb_4 (List.mem_of_getElem? (i := 92) rfl)) rfl
theorem tw_935 : Cond.code ⟨"ForestCourts", "ring", "(II)I"⟩ prog_1_method_5_code 4 (Option.some FieldType.int) ∈ TT := in_tb (tb_4 (List.mem_of_getElem? (i := 93) rfl)) rfl
theorem tw_936 : Cond.methodLink "ForestCourts" 134 ⟨"ForestCourts", "isDay", "(I)Z"⟩ ∈ TT := in_tb (tb_4 (List.mem_of_getElem? (i := 94) rfl)) rfl
theorem tw_937 : Cond.static ⟨"ForestCourts", "isDay", "(I)Z"⟩ ∈ TT := in_tb (tb_4 (List.mem_of_getElem? (i := 95) rfl)) rfl
theorem tw_938 : Cond.code ⟨"ForestCourts", "isDay", "(I)Z"⟩ prog_1_method_45_code 1 (Option.some FieldType.boolean) ∈ TT := in_tb (tb_4 (List.mem_of_getElem? (i := 96) rfl)) rfl
theorem tw_939 : Cond.methodLink "ForestCourts" 138 ⟨"ForestCourts$Table", "cut", "(I)V"⟩ ∈ TT := in_tb (tb_4 (List.mem_of_getElem? (i := 97) rfl)) rfl
theorem tw_940 : Cond.instanceMethod ⟨"ForestCourts$Table", "cut", "(I)V"⟩ ∈ TT := in_tb (tb_4 (List.mem_of_getElem? (i := 98) rfl)) rfl
theorem tw_941 : Cond.selects "ForestCourts$Table" ⟨"ForestCourts$Table", "cut", "(I)V"⟩ ⟨"ForestCourts$Table", "cut", "(I)V"⟩ ∈ TT := in_tb (tb_4 (List.mem_of_getElem? (i := 99) rfl)) rfl
theorem tw_942 : Cond.code ⟨"ForestCourts$Table", "cut", "(I)V"⟩ prog_11_method_6_code 2 (Option.none : Option FieldType) ∈ TT := in_tb (tb_4 (List.mem_of_getElem? (i := 100) rfl)) rfl
theorem tw_943 : Cond.methodLink "ForestCourts" 141 ⟨"ForestCourts$Ground", "addRing", "(ILForestCourts$Table;)I"⟩ ∈ TT := in_tb (tb_4 (List.mem_of_getElem? (i := 101) rfl)) rfl
theorem tw_944 : Cond.instanceMethod ⟨"ForestCourts$Ground", "addRing", "(ILForestCourts$Table;)I"⟩ ∈ TT := in_tb (tb_4 (List.mem_of_getElem? (i := 102) rfl)) rfl
theorem tw_945 : Cond.selects "ForestCourts$Ground" ⟨"ForestCourts$Ground", "addRing", "(ILForestCourts$Table;)I"⟩ ⟨"ForestCourts$Ground", "addRing", "(ILForestCourts$Table;)I"⟩ ∈ TT := in_tb (tb_4 (List.mem_of_getElem? (i := 103) rfl)) rfl
theorem tw_946 : Cond.code ⟨"ForestCourts$Ground", "addRing", "(ILForestCourts$Table;)I"⟩ prog_4_method_3_code 6 (Option.some FieldType.int) ∈ TT := in_tb (tb_4 (List.mem_of_getElem? (i := 104) rfl)) rfl
theorem tw_947 : Cond.methodLink "ForestCourts$Ground" 42 ⟨"ForestCourts$Table", "isFull", "()Z"⟩ ∈ TT := in_tb (tb_4 (List.mem_of_getElem? (i := 105) rfl)) rfl
theorem tw_948 : Cond.methodLink "ForestCourts$Ground" 46 ⟨"ForestCourts$Table", "has", "(I)Z"⟩ ∈ TT := in_tb (tb_4 (List.mem_of_getElem? (i := 106) rfl)) rfl
theorem tw_949 : Cond.methodLink "ForestCourts$Ground" 50 ⟨"ForestCourts$Ground", "isSimple", "(I)Z"⟩ ∈ TT := in_tb (tb_4 (List.mem_of_getElem? (i := 107) rfl)) rfl
theorem tw_951 : Cond.instanceMethod ⟨"ForestCourts$Ground", "isSimple", "(I)Z"⟩ ∈ TT := in_tb (tb_4 (List.mem_of_getElem? (i := 109) rfl)) rfl
theorem tw_952 : Cond.code ⟨"ForestCourts$Ground", "isSimple", "(I)Z"⟩ prog_4_method_4_code 3 (Option.some FieldType.boolean) ∈ TT := in_tb (tb_4 (List.mem_of_getElem? (i := 110) rfl)) rfl
theorem tw_953 : Cond.methodLink "ForestCourts$Ground" 53 ⟨"ForestCourts$Ground", "follows", "([II)Z"⟩ ∈ TT := in_tb (tb_4 (List.mem_of_getElem? (i := 111) rfl)) rfl
theorem tw_954 : Cond.instanceMethod ⟨"ForestCourts$Ground", "follows", "([II)Z"⟩ ∈ TT := in_tb (tb_4 (List.mem_of_getElem? (i := 112) rfl)) rfl
theorem tw_955 : Cond.selects "ForestCourts$Ground" ⟨"ForestCourts$Ground", "follows", "([II)Z"⟩ ⟨"ForestCourts$Ground", "follows", "([II)Z"⟩ ∈ TT := in_tb (tb_4 (List.mem_of_getElem? (i := 113) rfl)) rfl
theorem tw_956 : Cond.code ⟨"ForestCourts$Ground", "follows", "([II)Z"⟩ prog_4_method_5_code 4 (Option.some FieldType.boolean) ∈ TT := in_tb (tb_4 (List.mem_of_getElem? (i := 114) rfl)) rfl
theorem tw_957 : Cond.methodLink "ForestCourts$Ground" 60 ⟨"ForestCourts$Ground", "isSamePlace", "(II)Z"⟩ ∈ TT := in_tb (tb_4 (List.mem_of_getElem? (i := 115) rfl)) rfl
theorem tw_959 : Cond.instanceMethod ⟨"ForestCourts$Ground", "isSamePlace", "(II)Z"⟩ ∈ TT := in_tb (tb_4 (List.mem_of_getElem? (i := 117) rfl)) rfl
theorem tw_960 : Cond.code ⟨"ForestCourts$Ground", "isSamePlace", "(II)Z"⟩ prog_4_method_7_code 3 (Option.some FieldType.boolean) ∈ TT := in_tb (tb_4 (List.mem_of_getElem? (i := 118) rfl)) rfl
theorem tw_961 : Cond.methodLink "ForestCourts$Ground" 64 ⟨"ForestCourts$Ground", "foldsBack", "(III)Z"⟩ ∈ TT := in_tb (tb_4 (List.mem_of_getElem? (i := 119) rfl)) rfl
theorem tw_963 : Cond.instanceMethod ⟨"ForestCourts$Ground", "foldsBack", "(III)Z"⟩ ∈ TT := in_tb (tb_4 (List.mem_of_getElem? (i := 121) rfl)) rfl
theorem tw_964 : Cond.code ⟨"ForestCourts$Ground", "foldsBack", "(III)Z"⟩ prog_4_method_8_code 7 (Option.some FieldType.boolean) ∈ TT := in_tb (tb_4 (List.mem_of_getElem? (i := 122) rfl)) rfl
theorem tw_965 : Cond.methodLink "ForestCourts$Ground" 72 ⟨"ForestCourts$Ground", "turn", "(III)I"⟩ ∈ TT := in_tb (tb_4 (List.mem_of_getElem? (i := 123) rfl)) rfl
theorem tw_967 : Cond.instanceMethod ⟨"ForestCourts$Ground", "turn", "(III)I"⟩ ∈ TT := in_tb (tb_4 (List.mem_of_getElem? (i := 125) rfl)) rfl
theorem tw_968 : Cond.code ⟨"ForestCourts$Ground", "turn", "(III)I"⟩ prog_4_method_11_code 6 (Option.some FieldType.int) ∈ TT := in_tb (tb_4 (List.mem_of_getElem? (i := 126) rfl)) rfl
theorem tw_969 : Cond.methodLink "ForestCourts$Ground" 68 ⟨"ForestCourts$Ground", "touch", "(IIII)Z"⟩ ∈ TT := in_tb (tb_4 (List.mem_of_getElem? (i := 127) rfl)) rfl
theorem tw_971 : Cond.instanceMethod ⟨"ForestCourts$Ground", "touch", "(IIII)Z"⟩ ∈ TT := in_tb (tb_4 (List.mem_of_getElem? (i := 129) rfl)) rfl
theorem tw_972 : Cond.code ⟨"ForestCourts$Ground", "touch", "(IIII)Z"⟩ prog_4_method_9_code 5 (Option.some FieldType.boolean) ∈ TT := in_tb (tb_4 (List.mem_of_getElem? (i := 130) rfl)) rfl
theorem tw_973 : Cond.methodLink "ForestCourts$Ground" 76 ⟨"ForestCourts$Ground", "overlap", "(IIII)Z"⟩ ∈ TT := in_tb (tb_4 (List.mem_of_getElem? (i := 131) rfl)) rfl
theorem tw_974 : Cond.static ⟨"ForestCourts$Ground", "overlap", "(IIII)Z"⟩ ∈ TT := in_tb (tb_4 (List.mem_of_getElem? (i := 132) rfl)) rfl
theorem tw_975 : Cond.code ⟨"ForestCourts$Ground", "overlap", "(IIII)Z"⟩ prog_4_method_10_code 4 (Option.some FieldType.boolean) ∈ TT := in_tb (tb_4 (List.mem_of_getElem? (i := 133) rfl)) rfl
theorem tw_976 : Cond.methodLink "ForestCourts$Ground" 79 ⟨"java/lang/Math", "max", "(II)I"⟩ ∈ TT := in_tb (tb_4 (List.mem_of_getElem? (i := 134) rfl)) rfl
theorem tw_977 : Cond.methodLink "ForestCourts$Ground" 84 ⟨"java/lang/Math", "min", "(II)I"⟩ ∈ TT := in_tb (tb_4 (List.mem_of_getElem? (i := 135) rfl)) rfl
theorem tw_978 : Cond.methodLink "ForestCourts$Ground" 57 ⟨"ForestCourts$Ground", "closes", "([II)Z"⟩ ∈ TT := in_tb (tb_4 (List.mem_of_getElem? (i := 136) rfl)) rfl
theorem tw_979 : Cond.instanceMethod ⟨"ForestCourts$Ground", "closes", "([II)Z"⟩ ∈ TT := in_tb (tb_4 (List.mem_of_getElem? (i := 137) rfl)) rfl
theorem tw_980 : Cond.selects "ForestCourts$Ground" ⟨"ForestCourts$Ground", "closes", "([II)Z"⟩ ⟨"ForestCourts$Ground", "closes", "([II)Z"⟩ ∈ TT := in_tb (tb_4 (List.mem_of_getElem? (i := 138) rfl)) rfl
theorem tw_981 : Cond.code ⟨"ForestCourts$Ground", "closes", "([II)Z"⟩ prog_4_method_6_code 5 (Option.some FieldType.boolean) ∈ TT := in_tb (tb_4 (List.mem_of_getElem? (i := 139) rfl)) rfl
theorem tw_982 : Cond.methodLink "ForestCourtsLaw" 151 ⟨"ForestCourtsLaw", "unring", "(LForestCourts;II[J)I"⟩ ∈ TT := in_tb (tb_4 (List.mem_of_getElem? (i := 140) rfl)) rfl
theorem tw_983 : Cond.static ⟨"ForestCourtsLaw", "unring", "(LForestCourts;II[J)I"⟩ ∈ TT := in_tb (tb_4 (List.mem_of_getElem? (i := 141) rfl)) rfl
theorem tw_984 : Cond.codeWith ⟨"ForestCourtsLaw", "unring", "(LForestCourts;II[J)I"⟩ method_6_code 5 (Option.some FieldType.int) [(0, 10, 13, 28), (0, 10, 17, 13)] ∈ TT := in_tb (tb_4 (List.mem_of_getElem? (i := 142) rfl)) rfl
theorem tw_985 : Cond.classLink "ForestCourtsLaw" 28 "java/lang/IndexOutOfBoundsException" ∈ TT := in_tb (tb_4 (List.mem_of_getElem? (i := 143) rfl)) rfl
theorem tw_986 : Cond.methodLink "ForestCourtsLaw" 25 ⟨"ForestCourts", "unring", "(II)I"⟩ ∈ TT := in_tb (tb_4 (List.mem_of_getElem? (i := 144) rfl)) rfl
theorem tw_987 : Cond.instanceMethod ⟨"ForestCourts", "unring", "(II)I"⟩ ∈ TT := in_tb (tb_4 (List.mem_of_getElem? (i := 145) rfl)) rfl
theorem tw_988 : Cond.selects "ForestCourts" ⟨"ForestCourts", "unring", "(II)I"⟩ ⟨"ForestCourts", "unring", "(II)I"⟩ ∈ TT := in_tb (tb_4 (List.mem_of_getElem? (i := 146) rfl)) rfl
theorem tw_989 : Cond.code ⟨"ForestCourts", "unring", "(II)I"⟩ prog_1_method_6_code 3 (Option.some FieldType.int) ∈ TT := in_tb (tb_4 (List.mem_of_getElem? (i := 147) rfl)) rfl
theorem tw_990 : Cond.methodLink "ForestCourts" 148 ⟨"ForestCourts$Table", "has", "(I)Z"⟩ ∈ TT := in_tb (tb_4 (List.mem_of_getElem? (i := 148) rfl)) rfl
theorem tw_991 : Cond.methodLink "ForestCourts" 151 ⟨"ForestCourts", "checkIndex", "(Z)V"⟩ ∈ TT := in_tb (tb_4 (List.mem_of_getElem? (i := 149) rfl)) rfl
theorem tw_992 : Cond.static ⟨"ForestCourts", "checkIndex", "(Z)V"⟩ ∈ TT := in_tb (tb_4 (List.mem_of_getElem? (i := 150) rfl)) rfl
theorem tw_993 : Cond.code ⟨"ForestCourts", "checkIndex", "(Z)V"⟩ prog_1_method_51_code 1 (Option.none : Option FieldType) ∈ TT := in_tb (tb_4 (List.mem_of_getElem? (i := 151) rfl)) rfl
theorem tw_994 : Cond.classLink "ForestCourts" 327 "java/lang/IndexOutOfBoundsException" ∈ TT := in_tb (tb_4 (List.mem_of_getElem? (i := 152) rfl)) rfl
theorem tw_996 : Cond.castable "java/lang/IndexOutOfBoundsException" "java/lang/IndexOutOfBoundsException" ∈ NN := in_tN (tb_4 (List.mem_of_getElem? (i := 154) rfl)) rfl
theorem tw_1010 : Cond.methodLink "ForestCourts" 154 ⟨"ForestCourts$Table", "swap", "(III)I"⟩ ∈ TT := in_tb (tb_4 (List.mem_of_getElem? (i := 168) rfl)) rfl
theorem tw_1011 : Cond.instanceMethod ⟨"ForestCourts$Table", "swap", "(III)I"⟩ ∈ TT := in_tb (tb_4 (List.mem_of_getElem? (i := 169) rfl)) rfl
theorem tw_1012 : Cond.selects "ForestCourts$Table" ⟨"ForestCourts$Table", "swap", "(III)I"⟩ ⟨"ForestCourts$Table", "swap", "(III)I"⟩ ∈ TT := in_tb (tb_4 (List.mem_of_getElem? (i := 170) rfl)) rfl
theorem tw_1013 : Cond.code ⟨"ForestCourts$Table", "swap", "(III)I"⟩ prog_11_method_9_code 5 (Option.some FieldType.int) ∈ TT := in_tb (tb_4 (List.mem_of_getElem? (i := 171) rfl)) rfl
theorem tw_1014 : Cond.methodLink "ForestCourtsLaw" 154 ⟨"ForestCourtsLaw", "strip", "(LForestCourts;I[J)I"⟩ ∈ TT := in_tb (tb_4 (List.mem_of_getElem? (i := 172) rfl)) rfl
theorem tw_1015 : Cond.static ⟨"ForestCourtsLaw", "strip", "(LForestCourts;I[J)I"⟩ ∈ TT := in_tb (tb_4 (List.mem_of_getElem? (i := 173) rfl)) rfl
theorem tw_1016 : Cond.codeWith ⟨"ForestCourtsLaw", "strip", "(LForestCourts;I[J)I"⟩ method_7_code 4 (Option.some FieldType.int) [(0, 9, 12, 13)] ∈ TT := in_tb (tb_4 (List.mem_of_getElem? (i := 174) rfl)) rfl
theorem tw_1017 : Cond.methodLink "ForestCourtsLaw" 30 ⟨"ForestCourts", "strip", "(I)I"⟩ ∈ TT := in_tb (tb_4 (List.mem_of_getElem? (i := 175) rfl)) rfl
theorem tw_1018 : Cond.instanceMethod ⟨"ForestCourts", "strip", "(I)I"⟩ ∈ TT := in_tb (tb_4 (List.mem_of_getElem? (i := 176) rfl)) rfl
theorem tw_1019 : Cond.selects "ForestCourts" ⟨"ForestCourts", "strip", "(I)I"⟩ ⟨"ForestCourts", "strip", "(I)I"⟩ ∈ TT := in_tb (tb_4 (List.mem_of_getElem? (i := 177) rfl)) rfl
theorem tw_1020 : Cond.code ⟨"ForestCourts", "strip", "(I)I"⟩ prog_1_method_7_code 3 (Option.some FieldType.int) ∈ TT := in_tb (tb_4 (List.mem_of_getElem? (i := 178) rfl)) rfl
theorem tw_1021 : Cond.methodLink "ForestCourtsLaw" 157 ⟨"ForestCourtsLaw", "bounds", "(LForestCourts;I[J)I"⟩ ∈ TT := in_tb (tb_4 (List.mem_of_getElem? (i := 179) rfl)) rfl
theorem tw_1022 : Cond.static ⟨"ForestCourtsLaw", "bounds", "(LForestCourts;I[J)I"⟩ ∈ TT := in_tb (tb_4 (List.mem_of_getElem? (i := 180) rfl)) rfl
theorem tw_1023 : Cond.codeWith ⟨"ForestCourtsLaw", "bounds", "(LForestCourts;I[J)I"⟩ method_8_code 4 (Option.some FieldType.int) [(0, 9, 12, 13)] ∈ TT := in_tb (tb_4 (List.mem_of_getElem? (i := 181) rfl)) rfl
theorem tw_1024 : Cond.methodLink "ForestCourtsLaw" 33 ⟨"ForestCourts", "bounds", "(I)I"⟩ ∈ TT := in_tb (tb_4 (List.mem_of_getElem? (i := 182) rfl)) rfl
theorem tw_1025 : Cond.instanceMethod ⟨"ForestCourts", "bounds", "(I)I"⟩ ∈ TT := in_tb (tb_4 (List.mem_of_getElem? (i := 183) rfl)) rfl
theorem tw_1026 : Cond.selects "ForestCourts" ⟨"ForestCourts", "bounds", "(I)I"⟩ ⟨"ForestCourts", "bounds", "(I)I"⟩ ∈ TT := in_tb (tb_4 (List.mem_of_getElem? (i := 184) rfl)) rfl
theorem tw_1027 : Cond.code ⟨"ForestCourts", "bounds", "(I)I"⟩ prog_1_method_8_code 2 (Option.some FieldType.int) ∈ TT := in_tb (tb_4 (List.mem_of_getElem? (i := 185) rfl)) rfl
theorem tw_1028 : Cond.methodLink "ForestCourts" 160 ⟨"ForestCourts$Ground", "boundsOn", "(I)I"⟩ ∈ TT := in_tb (tb_4 (List.mem_of_getElem? (i := 186) rfl)) rfl
theorem tw_1029 : Cond.methodLink "ForestCourtsLaw" 160 ⟨"ForestCourtsLaw", "where", "(LForestCourts;III[J)I"⟩ ∈ TT := in_tb (tb_4 (List.mem_of_getElem? (i := 187) rfl)) rfl
theorem tw_1030 : Cond.static ⟨"ForestCourtsLaw", "where", "(LForestCourts;III[J)I"⟩ ∈ TT := in_tb (tb_4 (List.mem_of_getElem? (i := 188) rfl)) rfl
theorem tw_1031 : Cond.codeWith ⟨"ForestCourtsLaw", "where", "(LForestCourts;III[J)I"⟩ method_9_code 6 (Option.some FieldType.int) [(0, 12, 15, 13)] ∈ TT := in_tb (tb_4 (List.mem_of_getElem? (i := 189) rfl)) rfl
theorem tw_1032 : Cond.methodLink "ForestCourtsLaw" 36 ⟨"ForestCourts", "where", "(III)I"⟩ ∈ TT := in_tb (tb_4 (List.mem_of_getElem? (i := 190) rfl)) rfl
theorem tw_1033 : Cond.instanceMethod ⟨"ForestCourts", "where", "(III)I"⟩ ∈ TT := in_tb (tb_4 (List.mem_of_getElem? (i := 191) rfl)) rfl
theorem tw_1034 : Cond.selects "ForestCourts" ⟨"ForestCourts", "where", "(III)I"⟩ ⟨"ForestCourts", "where", "(III)I"⟩ ∈ TT := in_tb (tb_4 (List.mem_of_getElem? (i := 192) rfl)) rfl
theorem tw_1035 : Cond.code ⟨"ForestCourts", "where", "(III)I"⟩ prog_1_method_9_code 4 (Option.some FieldType.int) ∈ TT := in_tb (tb_4 (List.mem_of_getElem? (i := 193) rfl)) rfl
theorem tw_1036 : Cond.methodLink "ForestCourts" 164 ⟨"ForestCourts$Ground", "placeOn", "(III)I"⟩ ∈ TT := in_tb (tb_4 (List.mem_of_getElem? (i := 194) rfl)) rfl
theorem tw_1037 : Cond.methodLink "ForestCourtsLaw" 163 ⟨"ForestCourtsLaw", "walk", "(LForestCourts;I[J)I"⟩ ∈ TT := in_tb (tb_4 (List.mem_of_getElem? (i := 195) rfl)) rfl
theorem tw_1038 : Cond.static ⟨"ForestCourtsLaw", "walk", "(LForestCourts;I[J)I"⟩ ∈ TT := in_tb (tb_4 (List.mem_of_getElem? (i := 196) rfl)) rfl
theorem tw_1039 : Cond.codeWith ⟨"ForestCourtsLaw", "walk", "(LForestCourts;I[J)I"⟩ method_10_code 4 (Option.some FieldType.int) [(0, 9, 12, 13)] ∈ TT := in_tb (tb_4 (List.mem_of_getElem? (i := 197) rfl)) rfl
theorem tw_1040 : Cond.methodLink "ForestCourtsLaw" 39 ⟨"ForestCourts", "walk", "(I)I"⟩ ∈ TT := in_tb (tb_4 (List.mem_of_getElem? (i := 198) rfl)) rfl
theorem tw_1041 : Cond.instanceMethod ⟨"ForestCourts", "walk", "(I)I"⟩ ∈ TT := in_tb (tb_4 (List.mem_of_getElem? (i := 199) rfl)) rfl
theorem tw_1042 : Cond.selects "ForestCourts" ⟨"ForestCourts", "walk", "(I)I"⟩ ⟨"ForestCourts", "walk", "(I)I"⟩ ∈ TT := in_tb (tb_4 (List.mem_of_getElem? (i := 200) rfl)) rfl
theorem tw_1043 : Cond.code ⟨"ForestCourts", "walk", "(I)I"⟩ prog_1_method_10_code 3 (Option.some FieldType.int) ∈ TT := in_tb (tb_4 (List.mem_of_getElem? (i := 201) rfl)) rfl
theorem tw_1044 : Cond.methodLink "ForestCourts" 167 ⟨"ForestCourts$Search", "go", "(LForestCourts$Table;)I"⟩ ∈ TT := in_tb (tb_4 (List.mem_of_getElem? (i := 202) rfl)) rfl
theorem tw_1045 : Cond.instanceMethod ⟨"ForestCourts$Search", "go", "(LForestCourts$Table;)I"⟩ ∈ TT := in_tb (tb_4 (List.mem_of_getElem? (i := 203) rfl)) rfl
theorem tw_1046 : Cond.selects "ForestCourts$Search" ⟨"ForestCourts$Search", "go", "(LForestCourts$Table;)I"⟩ ⟨"ForestCourts$Search", "go", "(LForestCourts$Table;)I"⟩ ∈ TT := in_tb (tb_4 (List.mem_of_getElem? (i := 204) rfl)) rfl
theorem tw_1047 : Cond.code ⟨"ForestCourts$Search", "go", "(LForestCourts$Table;)I"⟩ prog_10_method_2_code 4 (Option.some FieldType.int) ∈ TT := in_tb (tb_4 (List.mem_of_getElem? (i := 205) rfl)) rfl
theorem tw_1048 : Cond.methodLink "ForestCourts$Search" 25 ⟨"ForestCourts$Table", "size", "()I"⟩ ∈ TT := in_tb (tb_4 (List.mem_of_getElem? (i := 206) rfl)) rfl
theorem tw_1049 : Cond.methodLink "ForestCourts$Search" 37 ⟨"ForestCourts$Table", "get", "(II)I"⟩ ∈ TT := in_tb (tb_4 (List.mem_of_getElem? (i := 207) rfl)) rfl
theorem tw_1050 : Cond.methodLink "ForestCourts$Search" 41 ⟨"ForestCourts$Search", "tryMarks", "(II)V"⟩ ∈ TT := in_tb (tb_4 (List.mem_of_getElem? (i := 208) rfl)) rfl
theorem tw_1052 : Cond.instanceMethod ⟨"ForestCourts$Search", "tryMarks", "(II)V"⟩ ∈ TT := in_tb (tb_4 (List.mem_of_getElem? (i := 210) rfl)) rfl
theorem tw_1053 : Cond.code ⟨"ForestCourts$Search", "tryMarks", "(II)V"⟩ prog_10_method_4_code 4 (Option.none : Option FieldType) ∈ TT := in_tb (tb_4 (List.mem_of_getElem? (i := 211) rfl)) rfl
theorem tw_1054 : Cond.methodLink "ForestCourts$Search" 48 ⟨"ForestCourts$Search", "tryRing", "(I)V"⟩ ∈ TT := in_tb (tb_4 (List.mem_of_getElem? (i := 212) rfl)) rfl
theorem tw_1056 : Cond.instanceMethod ⟨"ForestCourts$Search", "tryRing", "(I)V"⟩ ∈ TT := in_tb (tb_4 (List.mem_of_getElem? (i := 214) rfl)) rfl
theorem tw_1057 : Cond.code ⟨"ForestCourts$Search", "tryRing", "(I)V"⟩ prog_10_method_5_code 4 (Option.none : Option FieldType) ∈ TT := in_tb (tb_4 (List.mem_of_getElem? (i := 215) rfl)) rfl
theorem tw_1058 : Cond.methodLink "ForestCourts$Search" 65 ⟨"ForestCourts$Ground", "closes", "([II)Z"⟩ ∈ TT := in_tb (tb_4 (List.mem_of_getElem? (i := 216) rfl)) rfl
theorem tw_1059 : Cond.methodLink "ForestCourts$Search" 62 ⟨"ForestCourts$Ground", "wayOf", "(II)I"⟩ ∈ TT := in_tb (tb_4 (List.mem_of_getElem? (i := 217) rfl)) rfl
theorem tw_1060 : Cond.instanceMethod ⟨"ForestCourts$Ground", "wayOf", "(II)I"⟩ ∈ TT := in_tb (tb_4 (List.mem_of_getElem? (i := 218) rfl)) rfl
theorem tw_1061 : Cond.selects "ForestCourts$Ground" ⟨"ForestCourts$Ground", "wayOf", "(II)I"⟩ ⟨"ForestCourts$Ground", "wayOf", "(II)I"⟩ ∈ TT := in_tb (tb_4 (List.mem_of_getElem? (i := 219) rfl)) rfl
theorem tw_1062 : Cond.code ⟨"ForestCourts$Ground", "wayOf", "(II)I"⟩ prog_4_method_13_code 3 (Option.some FieldType.int) ∈ TT := in_tb (tb_4 (List.mem_of_getElem? (i := 220) rfl)) rfl
theorem tw_1063 : Cond.methodLinkNest "ForestCourts$Ground" 91 ⟨"ForestCourts", "wayBetween", "(IIII)I"⟩ "ForestCourts" ∈ NN := in_tN (tb_4 (List.mem_of_getElem? (i := 221) rfl)) rfl
theorem tw_1064 : Cond.methodLink "ForestCourts$Search" 58 ⟨"ForestCourts$Ground", "follows", "([II)Z"⟩ ∈ TT := in_tb (tb_4 (List.mem_of_getElem? (i := 222) rfl)) rfl
theorem tw_1065 : Cond.methodLink "ForestCourtsLaw" 174 ⟨"ForestCourtsLaw", "text", "(LForestCourts;II[J)I"⟩ ∈ TT := in_tb (tb_4 (List.mem_of_getElem? (i := 223) rfl)) rfl
theorem tw_1066 : Cond.static ⟨"ForestCourtsLaw", "text", "(LForestCourts;II[J)I"⟩ ∈ TT := in_tb (tb_4 (List.mem_of_getElem? (i := 224) rfl)) rfl
theorem tw_1067 : Cond.codeWith ⟨"ForestCourtsLaw", "text", "(LForestCourts;II[J)I"⟩ method_11_code 5 (Option.some FieldType.int) [(0, 10, 13, 13)] ∈ TT := in_tb (tb_4 (List.mem_of_getElem? (i := 225) rfl)) rfl
theorem tw_1068 : Cond.methodLink "ForestCourtsLaw" 42 ⟨"ForestCourts", "text", "(II)I"⟩ ∈ TT := in_tb (tb_4 (List.mem_of_getElem? (i := 226) rfl)) rfl
theorem tw_1069 : Cond.instanceMethod ⟨"ForestCourts", "text", "(II)I"⟩ ∈ TT := in_tb (tb_4 (List.mem_of_getElem? (i := 227) rfl)) rfl
theorem tw_1070 : Cond.selects "ForestCourts" ⟨"ForestCourts", "text", "(II)I"⟩ ⟨"ForestCourts", "text", "(II)I"⟩ ∈ TT := in_tb (tb_4 (List.mem_of_getElem? (i := 228) rfl)) rfl
theorem tw_1071 : Cond.code ⟨"ForestCourts", "text", "(II)I"⟩ prog_1_method_13_code 4 (Option.some FieldType.int) ∈ TT := in_tb (tb_4 (List.mem_of_getElem? (i := 229) rfl)) rfl
theorem tw_1072 : Cond.methodLink "ForestCourts" 177 ⟨"ForestCourts$Laws", "addText", "(I)I"⟩ ∈ TT := in_tb (tb_4 (List.mem_of_getElem? (i := 230) rfl)) rfl
theorem tw_1073 : Cond.instanceMethod ⟨"ForestCourts$Laws", "addText", "(I)I"⟩ ∈ TT := in_tb (tb_4 (List.mem_of_getElem? (i := 231) rfl)) rfl
theorem tw_1074 : Cond.selects "ForestCourts$Laws" ⟨"ForestCourts$Laws", "addText", "(I)I"⟩ ⟨"ForestCourts$Laws", "addText", "(I)I"⟩ ∈ TT := in_tb (tb_4 (List.mem_of_getElem? (i := 232) rfl)) rfl
theorem tw_1075 : Cond.code ⟨"ForestCourts$Laws", "addText", "(I)I"⟩ prog_5_method_2_code 6 (Option.some FieldType.int) ∈ TT := in_tb (tb_4 (List.mem_of_getElem? (i := 233) rfl)) rfl
theorem tw_1076 : Cond.methodLink "ForestCourts$Laws" 49 ⟨"ForestCourts$Table", "isFull", "()Z"⟩ ∈ TT := in_tb (tb_4 (List.mem_of_getElem? (i := 234) rfl)) rfl
theorem tw_1077 : Cond.methodLink "ForestCourts$Laws" 57 ⟨"ForestCourts$Reader", "begin", "(I)V"⟩ ∈ TT := in_tb (tb_4 (List.mem_of_getElem? (i := 235) rfl)) rfl
theorem tw_1078 : Cond.instanceMethod ⟨"ForestCourts$Reader", "begin", "(I)V"⟩ ∈ TT := in_tb (tb_4 (List.mem_of_getElem? (i := 236) rfl)) rfl
theorem tw_1079 : Cond.selects "ForestCourts$Reader" ⟨"ForestCourts$Reader", "begin", "(I)V"⟩ ⟨"ForestCourts$Reader", "begin", "(I)V"⟩ ∈ TT := in_tb (tb_4 (List.mem_of_getElem? (i := 237) rfl)) rfl
theorem tw_1080 : Cond.code ⟨"ForestCourts$Reader", "begin", "(I)V"⟩ prog_8_method_2_code 2 (Option.none : Option FieldType) ∈ TT := in_tb (tb_4 (List.mem_of_getElem? (i := 238) rfl)) rfl
theorem tw_1081 : Cond.methodLink "ForestCourts$Reader" 21 ⟨"ForestCourts$Table", "size", "()I"⟩ ∈ TT := in_tb (tb_4 (List.mem_of_getElem? (i := 239) rfl)) rfl
theorem tw_1082 : Cond.methodLink "ForestCourts$Laws" 61 ⟨"ForestCourts$Reader", "goesOn", "()Z"⟩ ∈ TT := in_tb (tb_5 (List.mem_of_getElem? (i := 0) rfl)) rfl
theorem tw_1083 : Cond.instanceMethod ⟨"ForestCourts$Reader", "goesOn", "()Z"⟩ ∈ TT := in_tb (tb_5 (List.mem_of_getElem? (i := 1) rfl)) rfl
theorem tw_1084 : Cond.selects "ForestCourts$Reader" ⟨"ForestCourts$Reader", "goesOn", "()Z"⟩ ⟨"ForestCourts$Reader", "goesOn", "()Z"⟩ ∈ TT := in_tb (tb_5 (List.mem_of_getElem? (i := 2) rfl)) rfl
theorem tw_1085 : Cond.code ⟨"ForestCourts$Reader", "goesOn", "()Z"⟩ prog_8_method_3_code 1 (Option.some FieldType.boolean) ∈ TT := in_tb (tb_5 (List.mem_of_getElem? (i := 3) rfl)) rfl
theorem tw_1086 : Cond.methodLink "ForestCourts$Reader" 43 ⟨"ForestCourts$Reader", "skipBlanks", "()V"⟩ ∈ TT := in_tb (tb_5 (List.mem_of_getElem? (i := 4) rfl)) rfl
theorem tw_1088 : Cond.instanceMethod ⟨"ForestCourts$Reader", "skipBlanks", "()V"⟩ ∈ TT := in_tb (tb_5 (List.mem_of_getElem? (i := 6) rfl)) rfl
theorem tw_1089 : Cond.code ⟨"ForestCourts$Reader", "skipBlanks", "()V"⟩ prog_8_method_18_code 2 (Option.none : Option FieldType) ∈ TT := in_tb (tb_5 (List.mem_of_getElem? (i := 7) rfl)) rfl
theorem tw_1090 : Cond.methodLink "ForestCourts$Reader" 122 ⟨"ForestCourts$Table", "get", "(II)I"⟩ ∈ TT := in_tb (tb_5 (List.mem_of_getElem? (i := 8) rfl)) rfl
theorem tw_1091 : Cond.methodLink "ForestCourts$Laws" 64 ⟨"ForestCourts$Reader", "readClause", "(I)V"⟩ ∈ TT := in_tb (tb_5 (List.mem_of_getElem? (i := 9) rfl)) rfl
theorem tw_1092 : Cond.instanceMethod ⟨"ForestCourts$Reader", "readClause", "(I)V"⟩ ∈ TT := in_tb (tb_5 (List.mem_of_getElem? (i := 10) rfl)) rfl
theorem tw_1093 : Cond.selects "ForestCourts$Reader" ⟨"ForestCourts$Reader", "readClause", "(I)V"⟩ ⟨"ForestCourts$Reader", "readClause", "(I)V"⟩ ∈ TT := in_tb (tb_5 (List.mem_of_getElem? (i := 11) rfl)) rfl
theorem tw_1094 : Cond.code ⟨"ForestCourts$Reader", "readClause", "(I)V"⟩ prog_8_method_4_code 6 (Option.none : Option FieldType) ∈ TT := in_tb (tb_5 (List.mem_of_getElem? (i := 12) rfl)) rfl
theorem tw_1096 : Cond.methodLink "ForestCourts$Reader" 48 ⟨"ForestCourts$Reader", "takeWord", "(Ljava/lang/String;)I"⟩ ∈ TT := in_tb (tb_5 (List.mem_of_getElem? (i := 14) rfl)) rfl
theorem tw_1098 : Cond.instanceMethod ⟨"ForestCourts$Reader", "takeWord", "(Ljava/lang/String;)I"⟩ ∈ TT := in_tb (tb_5 (List.mem_of_getElem? (i := 16) rfl)) rfl
theorem tw_1099 : Cond.code ⟨"ForestCourts$Reader", "takeWord", "(Ljava/lang/String;)I"⟩ prog_8_method_23_code 6 (Option.some FieldType.int) ∈ TT := in_tb (tb_5 (List.mem_of_getElem? (i := 17) rfl)) rfl
theorem tw_1100 : Cond.methodLink "ForestCourts$Reader" 148 ⟨"ForestCourts$Reader", "isLetter", "(I)Z"⟩ ∈ TT := in_tb (tb_5 (List.mem_of_getElem? (i := 18) rfl)) rfl
theorem tw_1101 : Cond.static ⟨"ForestCourts$Reader", "isLetter", "(I)Z"⟩ ∈ TT := in_tb (tb_5 (List.mem_of_getElem? (i := 19) rfl)) rfl
theorem tw_1102 : Cond.code ⟨"ForestCourts$Reader", "isLetter", "(I)Z"⟩ prog_8_method_26_code 1 (Option.some FieldType.boolean) ∈ TT := in_tb (tb_5 (List.mem_of_getElem? (i := 20) rfl)) rfl
theorem tw_1103 : Cond.methodLinkNest "ForestCourts$Reader" 144 ⟨"ForestCourts", "within", "(III)Z"⟩ "ForestCourts" ∈ NN := in_tN (tb_5 (List.mem_of_getElem? (i := 21) rfl)) rfl
theorem tw_1104 : Cond.methodLink "ForestCourts$Reader" 151 ⟨"java/lang/String", "length", "()I"⟩ ∈ TT := in_tb (tb_5 (List.mem_of_getElem? (i := 22) rfl)) rfl
theorem tw_1105 : Cond.instanceMethod ⟨"java/lang/String", "length", "()I"⟩ ∈ TT := in_tb (tb_5 (List.mem_of_getElem? (i := 23) rfl)) rfl
theorem tw_1106 : Cond.selects "java/lang/String" ⟨"java/lang/String", "length", "()I"⟩ ⟨"java/lang/String", "length", "()I"⟩ ∈ TT := in_tb (tb_5 (List.mem_of_getElem? (i := 24) rfl)) rfl
theorem tw_1107 : Cond.code ⟨"java/lang/String", "length", "()I"⟩ prog_23_method_54_code 1 (Option.some FieldType.int) ∈ TT := in_tb (tb_5 (List.mem_of_getElem? (i := 25) rfl)) rfl
theorem tw_1108 : Cond.methodLink "java/lang/String" 335 ⟨"java/lang/String", "coder", "()B"⟩ ∈ TT := in_tb (tb_5 (List.mem_of_getElem? (i := 26) rfl)) rfl
theorem tw_1109 : Cond.instanceMethod ⟨"java/lang/String", "coder", "()B"⟩ ∈ TT := in_tb (tb_5 (List.mem_of_getElem? (i := 27) rfl)) rfl
theorem tw_1110 : Cond.selects "java/lang/String" ⟨"java/lang/String", "coder", "()B"⟩ ⟨"java/lang/String", "coder", "()B"⟩ ∈ TT := in_tb (tb_5 (List.mem_of_getElem? (i := 28) rfl)) rfl
theorem tw_1111 : Cond.code ⟨"java/lang/String", "coder", "()B"⟩ prog_23_method_152_code 1 (Option.some FieldType.byte) ∈ TT := in_tb (tb_5 (List.mem_of_getElem? (i := 29) rfl)) rfl
theorem tw_1112 : Cond.fieldLink "java/lang/String" 38 "java/lang/String" "COMPACT_STRINGS" "Z" ∈ TT := in_tb (tb_5 (List.mem_of_getElem? (i := 30) rfl)) rfl
theorem tw_1114 : Cond.methodLink "ForestCourts$Reader" 156 ⟨"java/lang/String", "charAt", "(I)C"⟩ ∈ TT := in_tb (tb_5 (List.mem_of_getElem? (i := 32) rfl)) rfl
theorem tw_1115 : Cond.instanceMethod ⟨"java/lang/String", "charAt", "(I)C"⟩ ∈ TT := in_tb (tb_5 (List.mem_of_getElem? (i := 33) rfl)) rfl
theorem tw_1116 : Cond.selects "java/lang/String" ⟨"java/lang/String", "charAt", "(I)C"⟩ ⟨"java/lang/String", "charAt", "(I)C"⟩ ∈ TT := in_tb (tb_5 (List.mem_of_getElem? (i := 34) rfl)) rfl
theorem tw_1117 : Cond.code ⟨"java/lang/String", "charAt", "(I)C"⟩ prog_23_method_56_code 2 (Option.some FieldType.char) ∈ TT := in_tb (tb_5 (List.mem_of_getElem? (i := 35) rfl)) rfl
theorem tw_1118 : Cond.methodLink "java/lang/String" 492 ⟨"java/lang/String", "isLatin1", "()Z"⟩ ∈ TT := in_tb (tb_5 (List.mem_of_getElem? (i := 36) rfl)) rfl
theorem tw_1119 : Cond.instanceMethod ⟨"java/lang/String", "isLatin1", "()Z"⟩ ∈ TT := in_tb (tb_5 (List.mem_of_getElem? (i := 37) rfl)) rfl
theorem tw_1120 : Cond.selects "java/lang/String" ⟨"java/lang/String", "isLatin1", "()Z"⟩ ⟨"java/lang/String", "isLatin1", "()Z"⟩ ∈ TT := in_tb (tb_5 (List.mem_of_getElem? (i := 38) rfl)) rfl
theorem tw_1121 : Cond.code ⟨"java/lang/String", "isLatin1", "()Z"⟩ prog_23_method_154_code 1 (Option.some FieldType.boolean) ∈ TT := in_tb (tb_5 (List.mem_of_getElem? (i := 39) rfl)) rfl
theorem tw_1122 : Cond.methodLink "java/lang/String" 495 ⟨"java/lang/StringLatin1", "charAt", "([BI)C"⟩ ∈ TT := in_tb (tb_5 (List.mem_of_getElem? (i := 40) rfl)) rfl
theorem tw_1123 : Cond.static ⟨"java/lang/StringLatin1", "charAt", "([BI)C"⟩ ∈ TT := in_tb (tb_5 (List.mem_of_getElem? (i := 41) rfl)) rfl
theorem tw_1124 : Cond.code ⟨"java/lang/StringLatin1", "charAt", "([BI)C"⟩ prog_24_method_2_code 2 (Option.some FieldType.char) ∈ TT := in_tb (tb_5 (List.mem_of_getElem? (i := 42) rfl)) rfl
theorem tw_1125 : Cond.methodLink "java/lang/StringLatin1" 9 ⟨"java/lang/String", "checkIndex", "(II)V"⟩ ∈ TT := in_tb (tb_5 (List.mem_of_getElem? (i := 43) rfl)) rfl
theorem tw_1126 : Cond.static ⟨"java/lang/String", "checkIndex", "(II)V"⟩ ∈ TT := in_tb (tb_5 (List.mem_of_getElem? (i := 44) rfl)) rfl
theorem tw_1127 : Cond.code ⟨"java/lang/String", "checkIndex", "(II)V"⟩ prog_23_method_155_code 2 (Option.none : Option FieldType) ∈ TT := in_tb (tb_5 (List.mem_of_getElem? (i := 45) rfl)) rfl
theorem tw_1128 : Cond.fieldLink "java/lang/String" 1053 "jdk/internal/util/Preconditions" "SIOOBE_FORMATTER" "Ljava/util/function/BiFunction;" ∈ TT := in_tb (tb_5 (List.mem_of_getElem? (i := 46) rfl)) rfl
theorem tw_1130 : Cond.methodLink "java/lang/String" 1059 ⟨"jdk/internal/util/Preconditions", "checkIndex", "(IILjava/util/function/BiFunction;)I"⟩ ∈ TT := in_tb (tb_5 (List.mem_of_getElem? (i := 48) rfl)) rfl
theorem tw_1131 : Cond.static ⟨"jdk/internal/util/Preconditions", "checkIndex", "(IILjava/util/function/BiFunction;)I"⟩ ∈ TT := in_tb (tb_5 (List.mem_of_getElem? (i := 49) rfl)) rfl
theorem tw_1132 : Cond.code ⟨"jdk/internal/util/Preconditions", "checkIndex", "(IILjava/util/function/BiFunction;)I"⟩ prog_29_method_11_code 3 (Option.some FieldType.int) ∈ TT := in_tb (tb_5 (List.mem_of_getElem? (i := 50) rfl)) rfl
theorem tw_1152 : Cond.methodLink "ForestCourts$Reader" 160 ⟨"ForestCourts$Reader", "isWord", "(Ljava/lang/String;III)Z"⟩ ∈ TT := in_tb (tb_5 (List.mem_of_getElem? (i := 70) rfl)) rfl
theorem tw_1154 : Cond.instanceMethod ⟨"ForestCourts$Reader", "isWord", "(Ljava/lang/String;III)Z"⟩ ∈ TT := in_tb (tb_5 (List.mem_of_getElem? (i := 72) rfl)) rfl
theorem tw_1155 : Cond.code ⟨"ForestCourts$Reader", "isWord", "(Ljava/lang/String;III)Z"⟩ prog_8_method_24_code 6 (Option.some FieldType.boolean) ∈ TT := in_tb (tb_5 (List.mem_of_getElem? (i := 73) rfl)) rfl
theorem tw_1156 : Cond.methodLink "ForestCourts$Reader" 52 ⟨"ForestCourts$Reader", "fail", "(II)Z"⟩ ∈ TT := in_tb (tb_5 (List.mem_of_getElem? (i := 74) rfl)) rfl
theorem tw_1158 : Cond.instanceMethod ⟨"ForestCourts$Reader", "fail", "(II)Z"⟩ ∈ TT := in_tb (tb_5 (List.mem_of_getElem? (i := 76) rfl)) rfl
theorem tw_1159 : Cond.code ⟨"ForestCourts$Reader", "fail", "(II)Z"⟩ prog_8_method_17_code 3 (Option.some FieldType.boolean) ∈ TT := in_tb (tb_5 (List.mem_of_getElem? (i := 77) rfl)) rfl
theorem tw_1160 : Cond.methodLink "ForestCourts$Reader" 56 ⟨"ForestCourts$Table", "add", "()I"⟩ ∈ TT := in_tb (tb_5 (List.mem_of_getElem? (i := 78) rfl)) rfl
theorem tw_1161 : Cond.methodLink "ForestCourts$Reader" 61 ⟨"ForestCourts$Table", "put", "(III)V"⟩ ∈ TT := in_tb (tb_5 (List.mem_of_getElem? (i := 79) rfl)) rfl
theorem tw_1162 : Cond.methodLink "ForestCourts$Reader" 65 ⟨"ForestCourts$Reader", "readAct", "(I)Z"⟩ ∈ TT := in_tb (tb_5 (List.mem_of_getElem? (i := 80) rfl)) rfl
theorem tw_1164 : Cond.instanceMethod ⟨"ForestCourts$Reader", "readAct", "(I)Z"⟩ ∈ TT := in_tb (tb_5 (List.mem_of_getElem? (i := 82) rfl)) rfl
theorem tw_1165 : Cond.code ⟨"ForestCourts$Reader", "readAct", "(I)Z"⟩ prog_8_method_5_code 3 (Option.some FieldType.boolean) ∈ TT := in_tb (tb_5 (List.mem_of_getElem? (i := 83) rfl)) rfl
theorem tw_1168 : Cond.methodLink "ForestCourts$Reader" 71 ⟨"ForestCourts$Reader", "readEither", "(I)Z"⟩ ∈ TT := in_tb (tb_5 (List.mem_of_getElem? (i := 86) rfl)) rfl
theorem tw_1170 : Cond.instanceMethod ⟨"ForestCourts$Reader", "readEither", "(I)Z"⟩ ∈ TT := in_tb (tb_5 (List.mem_of_getElem? (i := 88) rfl)) rfl
theorem tw_1171 : Cond.code ⟨"ForestCourts$Reader", "readEither", "(I)Z"⟩ prog_8_method_8_code 4 (Option.some FieldType.boolean) ∈ TT := in_tb (tb_5 (List.mem_of_getElem? (i := 89) rfl)) rfl
theorem tw_1172 : Cond.methodLink "ForestCourts$Reader" 95 ⟨"ForestCourts$Reader", "readBoth", "(I)Z"⟩ ∈ TT := in_tb (tb_5 (List.mem_of_getElem? (i := 90) rfl)) rfl
theorem tw_1174 : Cond.instanceMethod ⟨"ForestCourts$Reader", "readBoth", "(I)Z"⟩ ∈ TT := in_tb (tb_5 (List.mem_of_getElem? (i := 92) rfl)) rfl
theorem tw_1175 : Cond.code ⟨"ForestCourts$Reader", "readBoth", "(I)Z"⟩ prog_8_method_9_code 4 (Option.some FieldType.boolean) ∈ TT := in_tb (tb_5 (List.mem_of_getElem? (i := 93) rfl)) rfl
theorem tw_1176 : Cond.methodLink "ForestCourts$Reader" 103 ⟨"ForestCourts$Reader", "readTest", "(I)Z"⟩ ∈ TT := in_tb (tb_5 (List.mem_of_getElem? (i := 94) rfl)) rfl
theorem tw_1178 : Cond.instanceMethod ⟨"ForestCourts$Reader", "readTest", "(I)Z"⟩ ∈ TT := in_tb (tb_5 (List.mem_of_getElem? (i := 96) rfl)) rfl
theorem tw_1179 : Cond.code ⟨"ForestCourts$Reader", "readTest", "(I)Z"⟩ prog_8_method_10_code 3 (Option.some FieldType.boolean) ∈ TT := in_tb (tb_5 (List.mem_of_getElem? (i := 97) rfl)) rfl
theorem tw_1181 : Cond.methodLink "ForestCourts$Reader" 110 ⟨"ForestCourts$Reader", "mayOpen", "(II)Z"⟩ ∈ TT := in_tb (tb_5 (List.mem_of_getElem? (i := 99) rfl)) rfl
theorem tw_1183 : Cond.instanceMethod ⟨"ForestCourts$Reader", "mayOpen", "(II)Z"⟩ ∈ TT := in_tb (tb_5 (List.mem_of_getElem? (i := 101) rfl)) rfl
theorem tw_1184 : Cond.code ⟨"ForestCourts$Reader", "mayOpen", "(II)Z"⟩ prog_8_method_15_code 3 (Option.some FieldType.boolean) ∈ TT := in_tb (tb_5 (List.mem_of_getElem? (i := 102) rfl)) rfl
theorem tw_1185 : Cond.methodLink "ForestCourts$Reader" 100 ⟨"ForestCourts$Reader", "emit", "(I)Z"⟩ ∈ TT := in_tb (tb_5 (List.mem_of_getElem? (i := 103) rfl)) rfl
theorem tw_1187 : Cond.instanceMethod ⟨"ForestCourts$Reader", "emit", "(I)Z"⟩ ∈ TT := in_tb (tb_5 (List.mem_of_getElem? (i := 105) rfl)) rfl
theorem tw_1188 : Cond.code ⟨"ForestCourts$Reader", "emit", "(I)Z"⟩ prog_8_method_16_code 2 (Option.some FieldType.boolean) ∈ TT := in_tb (tb_5 (List.mem_of_getElem? (i := 106) rfl)) rfl
theorem tw_1189 : Cond.methodLink "ForestCourts$Reader" 113 ⟨"ForestCourts$Reader", "takeSign", "(I)Z"⟩ ∈ TT := in_tb (tb_5 (List.mem_of_getElem? (i := 107) rfl)) rfl
theorem tw_1191 : Cond.instanceMethod ⟨"ForestCourts$Reader", "takeSign", "(I)Z"⟩ ∈ TT := in_tb (tb_5 (List.mem_of_getElem? (i := 109) rfl)) rfl
theorem tw_1192 : Cond.code ⟨"ForestCourts$Reader", "takeSign", "(I)Z"⟩ prog_8_method_19_code 2 (Option.some FieldType.boolean) ∈ TT := in_tb (tb_5 (List.mem_of_getElem? (i := 110) rfl)) rfl
theorem tw_1193 : Cond.methodLink "ForestCourts$Reader" 135 ⟨"ForestCourts$Reader", "goPast", "()Z"⟩ ∈ TT := in_tb (tb_5 (List.mem_of_getElem? (i := 111) rfl)) rfl
theorem tw_1195 : Cond.instanceMethod ⟨"ForestCourts$Reader", "goPast", "()Z"⟩ ∈ TT := in_tb (tb_5 (List.mem_of_getElem? (i := 113) rfl)) rfl
theorem tw_1196 : Cond.code ⟨"ForestCourts$Reader", "goPast", "()Z"⟩ prog_8_method_21_code 1 (Option.some FieldType.boolean) ∈ TT := in_tb (tb_5 (List.mem_of_getElem? (i := 114) rfl)) rfl
theorem tw_1197 : Cond.methodLink "ForestCourts$Reader" 74 ⟨"ForestCourts$Reader", "needSign", "(I)Z"⟩ ∈ TT := in_tb (tb_5 (List.mem_of_getElem? (i := 115) rfl)) rfl
theorem tw_1199 : Cond.instanceMethod ⟨"ForestCourts$Reader", "needSign", "(I)Z"⟩ ∈ TT := in_tb (tb_5 (List.mem_of_getElem? (i := 117) rfl)) rfl
theorem tw_1200 : Cond.code ⟨"ForestCourts$Reader", "needSign", "(I)Z"⟩ prog_8_method_20_code 2 (Option.some FieldType.boolean) ∈ TT := in_tb (tb_5 (List.mem_of_getElem? (i := 118) rfl)) rfl
theorem tw_1201 : Cond.methodLink "ForestCourts$Reader" 77 ⟨"ForestCourts$Reader", "readSum", "(I)Z"⟩ ∈ TT := in_tb (tb_5 (List.mem_of_getElem? (i := 119) rfl)) rfl
theorem tw_1203 : Cond.instanceMethod ⟨"ForestCourts$Reader", "readSum", "(I)Z"⟩ ∈ TT := in_tb (tb_5 (List.mem_of_getElem? (i := 121) rfl)) rfl
theorem tw_1204 : Cond.code ⟨"ForestCourts$Reader", "readSum", "(I)Z"⟩ prog_8_method_11_code 4 (Option.some FieldType.boolean) ∈ TT := in_tb (tb_5 (List.mem_of_getElem? (i := 122) rfl)) rfl
theorem tw_1205 : Cond.methodLink "ForestCourts$Reader" 116 ⟨"ForestCourts$Reader", "readProduct", "(I)Z"⟩ ∈ TT := in_tb (tb_5 (List.mem_of_getElem? (i := 123) rfl)) rfl
theorem tw_1207 : Cond.instanceMethod ⟨"ForestCourts$Reader", "readProduct", "(I)Z"⟩ ∈ TT := in_tb (tb_5 (List.mem_of_getElem? (i := 125) rfl)) rfl
theorem tw_1208 : Cond.code ⟨"ForestCourts$Reader", "readProduct", "(I)Z"⟩ prog_8_method_12_code 4 (Option.some FieldType.boolean) ∈ TT := in_tb (tb_5 (List.mem_of_getElem? (i := 126) rfl)) rfl
theorem tw_1209 : Cond.methodLink "ForestCourts$Reader" 119 ⟨"ForestCourts$Reader", "readValue", "(I)Z"⟩ ∈ TT := in_tb (tb_5 (List.mem_of_getElem? (i := 127) rfl)) rfl
theorem tw_1211 : Cond.instanceMethod ⟨"ForestCourts$Reader", "readValue", "(I)Z"⟩ ∈ TT := in_tb (tb_5 (List.mem_of_getElem? (i := 129) rfl)) rfl
theorem tw_1212 : Cond.code ⟨"ForestCourts$Reader", "readValue", "(I)Z"⟩ prog_8_method_13_code 5 (Option.some FieldType.boolean) ∈ TT := in_tb (tb_5 (List.mem_of_getElem? (i := 130) rfl)) rfl
theorem tw_1213 : Cond.methodLink "ForestCourts$Reader" 125 ⟨"ForestCourts$Reader", "isDigit", "(I)Z"⟩ ∈ TT := in_tb (tb_5 (List.mem_of_getElem? (i := 131) rfl)) rfl
theorem tw_1214 : Cond.static ⟨"ForestCourts$Reader", "isDigit", "(I)Z"⟩ ∈ TT := in_tb (tb_5 (List.mem_of_getElem? (i := 132) rfl)) rfl
theorem tw_1215 : Cond.code ⟨"ForestCourts$Reader", "isDigit", "(I)Z"⟩ prog_8_method_25_code 1 (Option.some FieldType.boolean) ∈ TT := in_tb (tb_5 (List.mem_of_getElem? (i := 133) rfl)) rfl
theorem tw_1216 : Cond.methodLink "ForestCourts$Reader" 91 ⟨"ForestCourts$Reader", "takeNumber", "(II)I"⟩ ∈ TT := in_tb (tb_5 (List.mem_of_getElem? (i := 134) rfl)) rfl
theorem tw_1218 : Cond.instanceMethod ⟨"ForestCourts$Reader", "takeNumber", "(II)I"⟩ ∈ TT := in_tb (tb_5 (List.mem_of_getElem? (i := 136) rfl)) rfl
theorem tw_1219 : Cond.code ⟨"ForestCourts$Reader", "takeNumber", "(II)I"⟩ prog_8_method_22_code 6 (Option.some FieldType.int) ∈ TT := in_tb (tb_5 (List.mem_of_getElem? (i := 137) rfl)) rfl
theorem tw_1220 : Cond.methodLink "ForestCourts$Reader" 139 ⟨"java/lang/Math", "min", "(II)I"⟩ ∈ TT := in_tb (tb_5 (List.mem_of_getElem? (i := 138) rfl)) rfl
theorem tw_1223 : Cond.methodLink "ForestCourts$Reader" 132 ⟨"ForestCourts$Reader", "readPick", "(II)Z"⟩ ∈ TT := in_tb (tb_5 (List.mem_of_getElem? (i := 141) rfl)) rfl
theorem tw_1225 : Cond.instanceMethod ⟨"ForestCourts$Reader", "readPick", "(II)Z"⟩ ∈ TT := in_tb (tb_5 (List.mem_of_getElem? (i := 143) rfl)) rfl
theorem tw_1226 : Cond.code ⟨"ForestCourts$Reader", "readPick", "(II)Z"⟩ prog_8_method_14_code 4 (Option.some FieldType.boolean) ∈ TT := in_tb (tb_5 (List.mem_of_getElem? (i := 144) rfl)) rfl
theorem tw_1229 : Cond.methodLink "ForestCourts$Reader" 80 ⟨"ForestCourts$Reader", "readNumber", "(IIII)Z"⟩ ∈ TT := in_tb (tb_5 (List.mem_of_getElem? (i := 147) rfl)) rfl
theorem tw_1231 : Cond.instanceMethod ⟨"ForestCourts$Reader", "readNumber", "(IIII)Z"⟩ ∈ TT := in_tb (tb_5 (List.mem_of_getElem? (i := 149) rfl)) rfl
theorem tw_1232 : Cond.code ⟨"ForestCourts$Reader", "readNumber", "(IIII)Z"⟩ prog_8_method_7_code 6 (Option.some FieldType.boolean) ∈ TT := in_tb (tb_5 (List.mem_of_getElem? (i := 150) rfl)) rfl
theorem tw_1233 : Cond.methodLink "ForestCourts$Reader" 84 ⟨"ForestCourts$Reader", "readHeirs", "(I)Z"⟩ ∈ TT := in_tb (tb_5 (List.mem_of_getElem? (i := 151) rfl)) rfl
theorem tw_1235 : Cond.instanceMethod ⟨"ForestCourts$Reader", "readHeirs", "(I)Z"⟩ ∈ TT := in_tb (tb_5 (List.mem_of_getElem? (i := 153) rfl)) rfl
theorem tw_1236 : Cond.code ⟨"ForestCourts$Reader", "readHeirs", "(I)Z"⟩ prog_8_method_6_code 3 (Option.some FieldType.boolean) ∈ TT := in_tb (tb_5 (List.mem_of_getElem? (i := 154) rfl)) rfl
theorem tw_1238 : Cond.methodLink "ForestCourts$Laws" 73 ⟨"ForestCourts$Table", "cut", "(I)V"⟩ ∈ TT := in_tb (tb_5 (List.mem_of_getElem? (i := 156) rfl)) rfl
theorem tw_1239 : Cond.methodLink "ForestCourts$Laws" 76 ⟨"ForestCourts$Table", "add", "()I"⟩ ∈ TT := in_tb (tb_5 (List.mem_of_getElem? (i := 157) rfl)) rfl
theorem tw_1240 : Cond.methodLink "ForestCourts$Laws" 79 ⟨"ForestCourts$Table", "put", "(III)V"⟩ ∈ TT := in_tb (tb_5 (List.mem_of_getElem? (i := 158) rfl)) rfl
theorem tw_1241 : Cond.methodLink "ForestCourts$Laws" 83 ⟨"ForestCourts$Laws", "keepRule", "(II)V"⟩ ∈ TT := in_tb (tb_5 (List.mem_of_getElem? (i := 159) rfl)) rfl
theorem tw_1243 : Cond.instanceMethod ⟨"ForestCourts$Laws", "keepRule", "(II)V"⟩ ∈ TT := in_tb (tb_5 (List.mem_of_getElem? (i := 161) rfl)) rfl
theorem tw_1244 : Cond.code ⟨"ForestCourts$Laws", "keepRule", "(II)V"⟩ prog_5_method_3_code 5 (Option.none : Option FieldType) ∈ TT := in_tb (tb_5 (List.mem_of_getElem? (i := 162) rfl)) rfl
theorem tw_1245 : Cond.methodLink "ForestCourtsLaw" 181 ⟨"ForestCourtsLaw", "force", "(LForestCourts;II[J)I"⟩ ∈ TT := in_tb (tb_5 (List.mem_of_getElem? (i := 163) rfl)) rfl
theorem tw_1246 : Cond.static ⟨"ForestCourtsLaw", "force", "(LForestCourts;II[J)I"⟩ ∈ TT := in_tb (tb_5 (List.mem_of_getElem? (i := 164) rfl)) rfl
theorem tw_1247 : Cond.codeWith ⟨"ForestCourtsLaw", "force", "(LForestCourts;II[J)I"⟩ method_12_code 5 (Option.some FieldType.int) [(0, 17, 20, 28), (0, 17, 24, 13)] ∈ TT := in_tb (tb_5 (List.mem_of_getElem? (i := 165) rfl)) rfl
theorem tw_1248 : Cond.methodLink "ForestCourtsLaw" 45 ⟨"ForestCourts", "force", "(II)Z"⟩ ∈ TT := in_tb (tb_5 (List.mem_of_getElem? (i := 166) rfl)) rfl
theorem tw_1249 : Cond.instanceMethod ⟨"ForestCourts", "force", "(II)Z"⟩ ∈ TT := in_tb (tb_5 (List.mem_of_getElem? (i := 167) rfl)) rfl
theorem tw_1250 : Cond.selects "ForestCourts" ⟨"ForestCourts", "force", "(II)Z"⟩ ⟨"ForestCourts", "force", "(II)Z"⟩ ∈ TT := in_tb (tb_5 (List.mem_of_getElem? (i := 168) rfl)) rfl
theorem tw_1251 : Cond.code ⟨"ForestCourts", "force", "(II)Z"⟩ prog_1_method_15_code 3 (Option.some FieldType.boolean) ∈ TT := in_tb (tb_5 (List.mem_of_getElem? (i := 169) rfl)) rfl
theorem tw_1252 : Cond.methodLink "ForestCourts" 186 ⟨"ForestCourts$Laws", "forceOn", "(I)I"⟩ ∈ TT := in_tb (tb_5 (List.mem_of_getElem? (i := 170) rfl)) rfl
theorem tw_1253 : Cond.methodLink "ForestCourtsLaw" 184 ⟨"ForestCourtsLaw", "rule", "(LForestCourts;II[J)I"⟩ ∈ TT := in_tb (tb_5 (List.mem_of_getElem? (i := 171) rfl)) rfl
theorem tw_1254 : Cond.static ⟨"ForestCourtsLaw", "rule", "(LForestCourts;II[J)I"⟩ ∈ TT := in_tb (tb_5 (List.mem_of_getElem? (i := 172) rfl)) rfl
theorem tw_1255 : Cond.codeWith ⟨"ForestCourtsLaw", "rule", "(LForestCourts;II[J)I"⟩ method_13_code 5 (Option.some FieldType.int) [(0, 10, 13, 13)] ∈ TT := in_tb (tb_5 (List.mem_of_getElem? (i := 173) rfl)) rfl
theorem tw_1256 : Cond.methodLink "ForestCourtsLaw" 49 ⟨"ForestCourts", "rule", "(II)I"⟩ ∈ TT := in_tb (tb_5 (List.mem_of_getElem? (i := 174) rfl)) rfl
theorem tw_1257 : Cond.instanceMethod ⟨"ForestCourts", "rule", "(II)I"⟩ ∈ TT := in_tb (tb_5 (List.mem_of_getElem? (i := 175) rfl)) rfl
theorem tw_1258 : Cond.selects "ForestCourts" ⟨"ForestCourts", "rule", "(II)I"⟩ ⟨"ForestCourts", "rule", "(II)I"⟩ ∈ TT := in_tb (tb_5 (List.mem_of_getElem? (i := 176) rfl)) rfl
theorem tw_1259 : Cond.code ⟨"ForestCourts", "rule", "(II)I"⟩ prog_1_method_16_code 3 (Option.some FieldType.int) ∈ TT := in_tb (tb_5 (List.mem_of_getElem? (i := 177) rfl)) rfl
theorem tw_1260 : Cond.methodLink "ForestCourts" 189 ⟨"ForestCourts$Laws", "ruleOn", "(II)I"⟩ ∈ TT := in_tb (tb_5 (List.mem_of_getElem? (i := 178) rfl)) rfl
theorem tw_1261 : Cond.methodLink "ForestCourtsLaw" 187 ⟨"ForestCourtsLaw", "person", "(LForestCourts;II[J)I"⟩ ∈ TT := in_tb (tb_5 (List.mem_of_getElem? (i := 179) rfl)) rfl
theorem tw_1262 : Cond.static ⟨"ForestCourtsLaw", "person", "(LForestCourts;II[J)I"⟩ ∈ TT := in_tb (tb_5 (List.mem_of_getElem? (i := 180) rfl)) rfl
theorem tw_1263 : Cond.codeWith ⟨"ForestCourtsLaw", "person", "(LForestCourts;II[J)I"⟩ method_14_code 5 (Option.some FieldType.int) [(0, 10, 13, 13), (0, 10, 17, 15)] ∈ TT := in_tb (tb_5 (List.mem_of_getElem? (i := 181) rfl)) rfl
theorem tw_1264 : Cond.methodLink "ForestCourtsLaw" 52 ⟨"ForestCourts", "person", "(II)I"⟩ ∈ TT := in_tb (tb_5 (List.mem_of_getElem? (i := 182) rfl)) rfl
theorem tw_1265 : Cond.instanceMethod ⟨"ForestCourts", "person", "(II)I"⟩ ∈ TT := in_tb (tb_5 (List.mem_of_getElem? (i := 183) rfl)) rfl
theorem tw_1266 : Cond.selects "ForestCourts" ⟨"ForestCourts", "person", "(II)I"⟩ ⟨"ForestCourts", "person", "(II)I"⟩ ∈ TT := in_tb (tb_5 (List.mem_of_getElem? (i := 184) rfl)) rfl
theorem tw_1267 : Cond.code ⟨"ForestCourts", "person", "(II)I"⟩ prog_1_method_17_code 3 (Option.some FieldType.int) ∈ TT := in_tb (tb_5 (List.mem_of_getElem? (i := 185) rfl)) rfl
theorem tw_1268 : Cond.constant "ForestCourts" 193 (1000000) ∈ TT := in_tb (tb_5 (List.mem_of_getElem? (i := 186) rfl)) rfl
theorem tw_1269 : Cond.methodLink "ForestCourts" 197 ⟨"ForestCourts$People", "addPerson", "(II)I"⟩ ∈ TT := in_tb (tb_5 (List.mem_of_getElem? (i := 187) rfl)) rfl
theorem tw_1270 : Cond.instanceMethod ⟨"ForestCourts$People", "addPerson", "(II)I"⟩ ∈ TT := in_tb (tb_5 (List.mem_of_getElem? (i := 188) rfl)) rfl
theorem tw_1271 : Cond.selects "ForestCourts$People" ⟨"ForestCourts$People", "addPerson", "(II)I"⟩ ⟨"ForestCourts$People", "addPerson", "(II)I"⟩ ∈ TT := in_tb (tb_5 (List.mem_of_getElem? (i := 189) rfl)) rfl
theorem tw_1272 : Cond.code ⟨"ForestCourts$People", "addPerson", "(II)I"⟩ prog_7_method_2_code 4 (Option.some FieldType.int) ∈ TT := in_tb (tb_5 (List.mem_of_getElem? (i := 190) rfl)) rfl
theorem tw_1273 : Cond.methodLink "ForestCourts$People" 20 ⟨"ForestCourts$Table", "add", "()I"⟩ ∈ TT := in_tb (tb_5 (List.mem_of_getElem? (i := 191) rfl)) rfl
theorem tw_1274 : Cond.methodLink "ForestCourtsLaw" 190 ⟨"ForestCourtsLaw", "heir", "(LForestCourts;II[J)I"⟩ ∈ TT := in_tb (tb_5 (List.mem_of_getElem? (i := 192) rfl)) rfl
theorem tw_1275 : Cond.static ⟨"ForestCourtsLaw", "heir", "(LForestCourts;II[J)I"⟩ ∈ TT := in_tb (tb_5 (List.mem_of_getElem? (i := 193) rfl)) rfl
theorem tw_1276 : Cond.codeWith ⟨"ForestCourtsLaw", "heir", "(LForestCourts;II[J)I"⟩ method_15_code 5 (Option.some FieldType.int) [(0, 10, 13, 28), (0, 10, 17, 13)] ∈ TT := in_tb (tb_5 (List.mem_of_getElem? (i := 194) rfl)) rfl
theorem tw_1277 : Cond.methodLink "ForestCourtsLaw" 55 ⟨"ForestCourts", "heir", "(II)I"⟩ ∈ TT := in_tb (tb_5 (List.mem_of_getElem? (i := 195) rfl)) rfl
theorem tw_1278 : Cond.instanceMethod ⟨"ForestCourts", "heir", "(II)I"⟩ ∈ TT := in_tb (tb_5 (List.mem_of_getElem? (i := 196) rfl)) rfl
theorem tw_1279 : Cond.selects "ForestCourts" ⟨"ForestCourts", "heir", "(II)I"⟩ ⟨"ForestCourts", "heir", "(II)I"⟩ ∈ TT := in_tb (tb_5 (List.mem_of_getElem? (i := 197) rfl)) rfl
theorem tw_1280 : Cond.code ⟨"ForestCourts", "heir", "(II)I"⟩ prog_1_method_18_code 3 (Option.some FieldType.int) ∈ TT := in_tb (tb_5 (List.mem_of_getElem? (i := 198) rfl)) rfl
theorem tw_1281 : Cond.methodLink "ForestCourtsLaw" 193 ⟨"ForestCourtsLaw", "die", "(LForestCourts;I[J)I"⟩ ∈ TT := in_tb (tb_5 (List.mem_of_getElem? (i := 199) rfl)) rfl
theorem tw_1282 : Cond.static ⟨"ForestCourtsLaw", "die", "(LForestCourts;I[J)I"⟩ ∈ TT := in_tb (tb_5 (List.mem_of_getElem? (i := 200) rfl)) rfl
theorem tw_1283 : Cond.codeWith ⟨"ForestCourtsLaw", "die", "(LForestCourts;I[J)I"⟩ method_16_code 4 (Option.some FieldType.int) [(0, 9, 12, 28)] ∈ TT := in_tb (tb_5 (List.mem_of_getElem? (i := 201) rfl)) rfl
theorem tw_1284 : Cond.methodLink "ForestCourtsLaw" 58 ⟨"ForestCourts", "die", "(I)I"⟩ ∈ TT := in_tb (tb_5 (List.mem_of_getElem? (i := 202) rfl)) rfl
theorem tw_1285 : Cond.instanceMethod ⟨"ForestCourts", "die", "(I)I"⟩ ∈ TT := in_tb (tb_5 (List.mem_of_getElem? (i := 203) rfl)) rfl
theorem tw_1286 : Cond.selects "ForestCourts" ⟨"ForestCourts", "die", "(I)I"⟩ ⟨"ForestCourts", "die", "(I)I"⟩ ∈ TT := in_tb (tb_5 (List.mem_of_getElem? (i := 204) rfl)) rfl
theorem tw_1287 : Cond.code ⟨"ForestCourts", "die", "(I)I"⟩ prog_1_method_19_code 2 (Option.some FieldType.int) ∈ TT := in_tb (tb_5 (List.mem_of_getElem? (i := 205) rfl)) rfl
theorem tw_1288 : Cond.methodLink "ForestCourts" 200 ⟨"ForestCourts$People", "lives", "(I)Z"⟩ ∈ TT := in_tb (tb_5 (List.mem_of_getElem? (i := 206) rfl)) rfl
theorem tw_1289 : Cond.methodLink "ForestCourtsLaw" 196 ⟨"ForestCourtsLaw", "told", "(LForestCourts;II[J)I"⟩ ∈ TT := in_tb (tb_5 (List.mem_of_getElem? (i := 207) rfl)) rfl
theorem tw_1290 : Cond.static ⟨"ForestCourtsLaw", "told", "(LForestCourts;II[J)I"⟩ ∈ TT := in_tb (tb_5 (List.mem_of_getElem? (i := 208) rfl)) rfl
theorem tw_1291 : Cond.codeWith ⟨"ForestCourtsLaw", "told", "(LForestCourts;II[J)I"⟩ method_17_code 5 (Option.some FieldType.int) [(0, 10, 13, 28), (0, 10, 17, 13)] ∈ TT := in_tb (tb_5 (List.mem_of_getElem? (i := 209) rfl)) rfl
theorem tw_1292 : Cond.methodLink "ForestCourtsLaw" 61 ⟨"ForestCourts", "told", "(II)I"⟩ ∈ TT := in_tb (tb_5 (List.mem_of_getElem? (i := 210) rfl)) rfl
theorem tw_1293 : Cond.instanceMethod ⟨"ForestCourts", "told", "(II)I"⟩ ∈ TT := in_tb (tb_5 (List.mem_of_getElem? (i := 211) rfl)) rfl
theorem tw_1294 : Cond.selects "ForestCourts" ⟨"ForestCourts", "told", "(II)I"⟩ ⟨"ForestCourts", "told", "(II)I"⟩ ∈ TT := in_tb (tb_5 (List.mem_of_getElem? (i := 212) rfl)) rfl
theorem tw_1295 : Cond.code ⟨"ForestCourts", "told", "(II)I"⟩ prog_1_method_20_code 3 (Option.some FieldType.int) ∈ TT := in_tb (tb_5 (List.mem_of_getElem? (i := 213) rfl)) rfl
theorem tw_1296 : Cond.methodLink "ForestCourts" 207 ⟨"ForestCourts$People", "heirOf", "(I)I"⟩ ∈ TT := in_tb (tb_5 (List.mem_of_getElem? (i := 214) rfl)) rfl
theorem tw_1297 : Cond.methodLink "ForestCourts" 210 ⟨"ForestCourts$Table", "get", "(II)I"⟩ ∈ TT := in_tb (tb_5 (List.mem_of_getElem? (i := 215) rfl)) rfl
theorem tw_1298 : Cond.methodLink "ForestCourtsLaw" 199 ⟨"ForestCourtsLaw", "warden", "(LForestCourts;III[J)I"⟩ ∈ TT := in_tb (tb_5 (List.mem_of_getElem? (i := 216) rfl)) rfl
theorem tw_1299 : Cond.static ⟨"ForestCourtsLaw", "warden", "(LForestCourts;III[J)I"⟩ ∈ TT := in_tb (tb_5 (List.mem_of_getElem? (i := 217) rfl)) rfl
theorem tw_1300 : Cond.codeWith ⟨"ForestCourtsLaw", "warden", "(LForestCourts;III[J)I"⟩ method_18_code 6 (Option.some FieldType.int) [(0, 12, 15, 28), (0, 12, 19, 13)] ∈ TT := in_tb (tb_5 (List.mem_of_getElem? (i := 218) rfl)) rfl
theorem tw_1301 : Cond.methodLink "ForestCourtsLaw" 64 ⟨"ForestCourts", "warden", "(III)I"⟩ ∈ TT := in_tb (tb_5 (List.mem_of_getElem? (i := 219) rfl)) rfl
theorem tw_1302 : Cond.instanceMethod ⟨"ForestCourts", "warden", "(III)I"⟩ ∈ TT := in_tb (tb_5 (List.mem_of_getElem? (i := 220) rfl)) rfl
theorem tw_1303 : Cond.selects "ForestCourts" ⟨"ForestCourts", "warden", "(III)I"⟩ ⟨"ForestCourts", "warden", "(III)I"⟩ ∈ TT := in_tb (tb_5 (List.mem_of_getElem? (i := 221) rfl)) rfl
theorem tw_1304 : Cond.code ⟨"ForestCourts", "warden", "(III)I"⟩ prog_1_method_21_code 4 (Option.some FieldType.int) ∈ TT := in_tb (tb_5 (List.mem_of_getElem? (i := 222) rfl)) rfl
theorem tw_1305 : Cond.methodLink "ForestCourts" 213 ⟨"ForestCourts$Courts", "addWarden", "(III)I"⟩ ∈ TT := in_tb (tb_5 (List.mem_of_getElem? (i := 223) rfl)) rfl
theorem tw_1306 : Cond.instanceMethod ⟨"ForestCourts$Courts", "addWarden", "(III)I"⟩ ∈ TT := in_tb (tb_5 (List.mem_of_getElem? (i := 224) rfl)) rfl
theorem tw_1307 : Cond.selects "ForestCourts$Courts" ⟨"ForestCourts$Courts", "addWarden", "(III)I"⟩ ⟨"ForestCourts$Courts", "addWarden", "(III)I"⟩ ∈ TT := in_tb (tb_5 (List.mem_of_getElem? (i := 225) rfl)) rfl
theorem tw_1308 : Cond.code ⟨"ForestCourts$Courts", "addWarden", "(III)I"⟩ prog_3_method_2_code 5 (Option.some FieldType.int) ∈ TT := in_tb (tb_5 (List.mem_of_getElem? (i := 226) rfl)) rfl
theorem tw_1309 : Cond.methodLink "ForestCourtsLaw" 202 ⟨"ForestCourtsLaw", "deed", "(LForestCourts;IIIIII[J)I"⟩ ∈ TT := in_tb (tb_5 (List.mem_of_getElem? (i := 227) rfl)) rfl
theorem tw_1310 : Cond.static ⟨"ForestCourtsLaw", "deed", "(LForestCourts;IIIIII[J)I"⟩ ∈ TT := in_tb (tb_5 (List.mem_of_getElem? (i := 228) rfl)) rfl
theorem tw_1311 : Cond.codeWith ⟨"ForestCourtsLaw", "deed", "(LForestCourts;IIIIII[J)I"⟩ method_19_code 9 (Option.some FieldType.int) [(0, 18, 21, 28), (0, 18, 25, 13)] ∈ TT := in_tb (tb_5 (List.mem_of_getElem? (i := 229) rfl)) rfl
theorem tw_1312 : Cond.methodLink "ForestCourtsLaw" 67 ⟨"ForestCourts", "deed", "(IIIIII)I"⟩ ∈ TT := in_tb (tb_5 (List.mem_of_getElem? (i := 230) rfl)) rfl
theorem tw_1313 : Cond.instanceMethod ⟨"ForestCourts", "deed", "(IIIIII)I"⟩ ∈ TT := in_tb (tb_5 (List.mem_of_getElem? (i := 231) rfl)) rfl
theorem tw_1314 : Cond.selects "ForestCourts" ⟨"ForestCourts", "deed", "(IIIIII)I"⟩ ⟨"ForestCourts", "deed", "(IIIIII)I"⟩ ∈ TT := in_tb (tb_5 (List.mem_of_getElem? (i := 232) rfl)) rfl
theorem tw_1315 : Cond.code ⟨"ForestCourts", "deed", "(IIIIII)I"⟩ prog_1_method_22_code 7 (Option.some FieldType.int) ∈ TT := in_tb (tb_5 (List.mem_of_getElem? (i := 233) rfl)) rfl
theorem tw_1316 : Cond.methodLink "ForestCourts" 216 ⟨"ForestCourts", "isAct", "(I)Z"⟩ ∈ TT := in_tb (tb_5 (List.mem_of_getElem? (i := 234) rfl)) rfl
theorem tw_1317 : Cond.static ⟨"ForestCourts", "isAct", "(I)Z"⟩ ∈ TT := in_tb (tb_5 (List.mem_of_getElem? (i := 235) rfl)) rfl
theorem tw_1318 : Cond.code ⟨"ForestCourts", "isAct", "(I)Z"⟩ prog_1_method_48_code 1 (Option.some FieldType.boolean) ∈ TT := in_tb (tb_5 (List.mem_of_getElem? (i := 236) rfl)) rfl
theorem tw_1319 : Cond.methodLink "ForestCourts" 219 ⟨"ForestCourts$Courts", "addDeed", "(IIIIII)I"⟩ ∈ TT := in_tb (tb_5 (List.mem_of_getElem? (i := 237) rfl)) rfl
theorem tw_1320 : Cond.instanceMethod ⟨"ForestCourts$Courts", "addDeed", "(IIIIII)I"⟩ ∈ TT := in_tb (tb_5 (List.mem_of_getElem? (i := 238) rfl)) rfl
theorem tw_1321 : Cond.selects "ForestCourts$Courts" ⟨"ForestCourts$Courts", "addDeed", "(IIIIII)I"⟩ ⟨"ForestCourts$Courts", "addDeed", "(IIIIII)I"⟩ ∈ TT := in_tb (tb_5 (List.mem_of_getElem? (i := 239) rfl)) rfl
theorem tw_1322 : Cond.code ⟨"ForestCourts$Courts", "addDeed", "(IIIIII)I"⟩ prog_3_method_3_code 8 (Option.some FieldType.int) ∈ TT := in_tb (tb_6 (List.mem_of_getElem? (i := 0) rfl)) rfl
theorem tw_1323 : Cond.methodLink "ForestCourtsLaw" 206 ⟨"ForestCourtsLaw", "barred", "(LForestCourts;I[J)I"⟩ ∈ TT := in_tb (tb_6 (List.mem_of_getElem? (i := 1) rfl)) rfl
theorem tw_1324 : Cond.static ⟨"ForestCourtsLaw", "barred", "(LForestCourts;I[J)I"⟩ ∈ TT := in_tb (tb_6 (List.mem_of_getElem? (i := 2) rfl)) rfl
theorem tw_1325 : Cond.codeWith ⟨"ForestCourtsLaw", "barred", "(LForestCourts;I[J)I"⟩ method_20_code 4 (Option.some FieldType.int) [(0, 16, 19, 28)] ∈ TT := in_tb (tb_6 (List.mem_of_getElem? (i := 3) rfl)) rfl
theorem tw_1326 : Cond.methodLink "ForestCourtsLaw" 71 ⟨"ForestCourts", "barred", "(I)Z"⟩ ∈ TT := in_tb (tb_6 (List.mem_of_getElem? (i := 4) rfl)) rfl
theorem tw_1327 : Cond.instanceMethod ⟨"ForestCourts", "barred", "(I)Z"⟩ ∈ TT := in_tb (tb_6 (List.mem_of_getElem? (i := 5) rfl)) rfl
theorem tw_1328 : Cond.selects "ForestCourts" ⟨"ForestCourts", "barred", "(I)Z"⟩ ⟨"ForestCourts", "barred", "(I)Z"⟩ ∈ TT := in_tb (tb_6 (List.mem_of_getElem? (i := 6) rfl)) rfl
theorem tw_1329 : Cond.code ⟨"ForestCourts", "barred", "(I)Z"⟩ prog_1_method_23_code 2 (Option.some FieldType.boolean) ∈ TT := in_tb (tb_6 (List.mem_of_getElem? (i := 7) rfl)) rfl
theorem tw_1330 : Cond.methodLink "ForestCourts" 226 ⟨"ForestCourts$Courts", "isBarred", "(I)Z"⟩ ∈ TT := in_tb (tb_6 (List.mem_of_getElem? (i := 8) rfl)) rfl
theorem tw_1331 : Cond.instanceMethod ⟨"ForestCourts$Courts", "isBarred", "(I)Z"⟩ ∈ TT := in_tb (tb_6 (List.mem_of_getElem? (i := 9) rfl)) rfl
theorem tw_1332 : Cond.selects "ForestCourts$Courts" ⟨"ForestCourts$Courts", "isBarred", "(I)Z"⟩ ⟨"ForestCourts$Courts", "isBarred", "(I)Z"⟩ ∈ TT := in_tb (tb_6 (List.mem_of_getElem? (i := 10) rfl)) rfl
theorem tw_1333 : Cond.code ⟨"ForestCourts$Courts", "isBarred", "(I)Z"⟩ prog_3_method_6_code 3 (Option.some FieldType.boolean) ∈ TT := in_tb (tb_6 (List.mem_of_getElem? (i := 11) rfl)) rfl
theorem tw_1334 : Cond.methodLink "ForestCourts$Courts" 86 ⟨"ForestCourts$Laws", "wordIsBar", "()Z"⟩ ∈ TT := in_tb (tb_6 (List.mem_of_getElem? (i := 12) rfl)) rfl
theorem tw_1335 : Cond.instanceMethod ⟨"ForestCourts$Laws", "wordIsBar", "()Z"⟩ ∈ TT := in_tb (tb_6 (List.mem_of_getElem? (i := 13) rfl)) rfl
theorem tw_1336 : Cond.selects "ForestCourts$Laws" ⟨"ForestCourts$Laws", "wordIsBar", "()Z"⟩ ⟨"ForestCourts$Laws", "wordIsBar", "()Z"⟩ ∈ TT := in_tb (tb_6 (List.mem_of_getElem? (i := 14) rfl)) rfl
theorem tw_1337 : Cond.code ⟨"ForestCourts$Laws", "wordIsBar", "()Z"⟩ prog_5_method_8_code 1 (Option.some FieldType.boolean) ∈ TT := in_tb (tb_6 (List.mem_of_getElem? (i := 15) rfl)) rfl
theorem tw_1338 : Cond.methodLink "ForestCourts$Courts" 90 ⟨"ForestCourts$Claims", "allows", "(IIIII)Z"⟩ ∈ TT := in_tb (tb_6 (List.mem_of_getElem? (i := 16) rfl)) rfl
theorem tw_1339 : Cond.instanceMethod ⟨"ForestCourts$Claims", "allows", "(IIIII)Z"⟩ ∈ TT := in_tb (tb_6 (List.mem_of_getElem? (i := 17) rfl)) rfl
theorem tw_1340 : Cond.selects "ForestCourts$Claims" ⟨"ForestCourts$Claims", "allows", "(IIIII)Z"⟩ ⟨"ForestCourts$Claims", "allows", "(IIIII)Z"⟩ ∈ TT := in_tb (tb_6 (List.mem_of_getElem? (i := 18) rfl)) rfl
theorem tw_1341 : Cond.code ⟨"ForestCourts$Claims", "allows", "(IIIII)Z"⟩ prog_2_method_5_code 8 (Option.some FieldType.boolean) ∈ TT := in_tb (tb_6 (List.mem_of_getElem? (i := 19) rfl)) rfl
theorem tw_1342 : Cond.methodLink "ForestCourts$Claims" 52 ⟨"ForestCourts$Table", "size", "()I"⟩ ∈ TT := in_tb (tb_6 (List.mem_of_getElem? (i := 20) rfl)) rfl
theorem tw_1343 : Cond.methodLink "ForestCourts$Claims" 39 ⟨"ForestCourts$Table", "get", "(II)I"⟩ ∈ TT := in_tb (tb_6 (List.mem_of_getElem? (i := 21) rfl)) rfl
theorem tw_1344 : Cond.methodLinkNest "ForestCourts$Claims" 61 ⟨"ForestCourts", "wayBetween", "(IIII)I"⟩ "ForestCourts" ∈ NN := in_tN (tb_6 (List.mem_of_getElem? (i := 22) rfl)) rfl
theorem tw_1345 : Cond.methodLink "ForestCourts$Claims" 65 ⟨"ForestCourts$Claims", "isHeldBy", "(II)Z"⟩ ∈ TT := in_tb (tb_6 (List.mem_of_getElem? (i := 23) rfl)) rfl
theorem tw_1347 : Cond.instanceMethod ⟨"ForestCourts$Claims", "isHeldBy", "(II)Z"⟩ ∈ TT := in_tb (tb_6 (List.mem_of_getElem? (i := 25) rfl)) rfl
theorem tw_1348 : Cond.code ⟨"ForestCourts$Claims", "isHeldBy", "(II)Z"⟩ prog_2_method_6_code 4 (Option.some FieldType.boolean) ∈ TT := in_tb (tb_6 (List.mem_of_getElem? (i := 26) rfl)) rfl
theorem tw_1349 : Cond.methodLink "ForestCourts$Claims" 72 ⟨"ForestCourts$People", "lives", "(I)Z"⟩ ∈ TT := in_tb (tb_6 (List.mem_of_getElem? (i := 27) rfl)) rfl
theorem tw_1350 : Cond.methodLink "ForestCourts$Claims" 78 ⟨"ForestCourts$People", "heirOf", "(I)I"⟩ ∈ TT := in_tb (tb_6 (List.mem_of_getElem? (i := 28) rfl)) rfl
theorem tw_1351 : Cond.methodLink "ForestCourts$Claims" 69 ⟨"ForestCourts$Claims", "sureOn", "(II)I"⟩ ∈ TT := in_tb (tb_6 (List.mem_of_getElem? (i := 29) rfl)) rfl
theorem tw_1352 : Cond.instanceMethod ⟨"ForestCourts$Claims", "sureOn", "(II)I"⟩ ∈ TT := in_tb (tb_6 (List.mem_of_getElem? (i := 30) rfl)) rfl
theorem tw_1353 : Cond.selects "ForestCourts$Claims" ⟨"ForestCourts$Claims", "sureOn", "(II)I"⟩ ⟨"ForestCourts$Claims", "sureOn", "(II)I"⟩ ∈ TT := in_tb (tb_6 (List.mem_of_getElem? (i := 31) rfl)) rfl
theorem tw_1354 : Cond.code ⟨"ForestCourts$Claims", "sureOn", "(II)I"⟩ prog_2_method_4_code 8 (Option.some FieldType.int) ∈ TT := in_tb (tb_6 (List.mem_of_getElem? (i := 32) rfl)) rfl
theorem tw_1355 : Cond.methodLink "ForestCourts$Claims" 49 ⟨"ForestCourts$Laws", "ruleOn", "(II)I"⟩ ∈ TT := in_tb (tb_6 (List.mem_of_getElem? (i := 33) rfl)) rfl
theorem tw_1356 : Cond.methodLink "ForestCourts$Claims" 55 ⟨"java/lang/Long", "bitCount", "(J)I"⟩ ∈ TT := in_tb (tb_6 (List.mem_of_getElem? (i := 34) rfl)) rfl
theorem tw_1357 : Cond.static ⟨"java/lang/Long", "bitCount", "(J)I"⟩ ∈ TT := in_tb (tb_6 (List.mem_of_getElem? (i := 35) rfl)) rfl
theorem tw_1358 : Cond.code ⟨"java/lang/Long", "bitCount", "(J)I"⟩ prog_20_method_50_code 2 (Option.some FieldType.int) ∈ TT := in_tb (tb_6 (List.mem_of_getElem? (i := 36) rfl)) rfl
theorem tw_1359 : Cond.constantLong "java/lang/Long" 314 (6148914691236517205) ∈ TT := in_tb (tb_6 (List.mem_of_getElem? (i := 37) rfl)) rfl
theorem tw_1360 : Cond.constantLong "java/lang/Long" 316 (3689348814741910323) ∈ TT := in_tb (tb_6 (List.mem_of_getElem? (i := 38) rfl)) rfl
theorem tw_1361 : Cond.constantLong "java/lang/Long" 318 (1085102592571150095) ∈ TT := in_tb (tb_6 (List.mem_of_getElem? (i := 39) rfl)) rfl
theorem tw_1362 : Cond.methodLink "ForestCourtsLaw" 209 ⟨"ForestCourtsLaw", "why", "(LForestCourts;I[J)I"⟩ ∈ TT := in_tb (tb_6 (List.mem_of_getElem? (i := 40) rfl)) rfl
theorem tw_1363 : Cond.static ⟨"ForestCourtsLaw", "why", "(LForestCourts;I[J)I"⟩ ∈ TT := in_tb (tb_6 (List.mem_of_getElem? (i := 41) rfl)) rfl
theorem tw_1364 : Cond.codeWith ⟨"ForestCourtsLaw", "why", "(LForestCourts;I[J)I"⟩ method_21_code 4 (Option.some FieldType.int) [(0, 9, 12, 28)] ∈ TT := in_tb (tb_6 (List.mem_of_getElem? (i := 42) rfl)) rfl
theorem tw_1365 : Cond.methodLink "ForestCourtsLaw" 75 ⟨"ForestCourts", "why", "(I)I"⟩ ∈ TT := in_tb (tb_6 (List.mem_of_getElem? (i := 43) rfl)) rfl
theorem tw_1366 : Cond.instanceMethod ⟨"ForestCourts", "why", "(I)I"⟩ ∈ TT := in_tb (tb_6 (List.mem_of_getElem? (i := 44) rfl)) rfl
theorem tw_1367 : Cond.selects "ForestCourts" ⟨"ForestCourts", "why", "(I)I"⟩ ⟨"ForestCourts", "why", "(I)I"⟩ ∈ TT := in_tb (tb_6 (List.mem_of_getElem? (i := 45) rfl)) rfl
theorem tw_1368 : Cond.code ⟨"ForestCourts", "why", "(I)I"⟩ prog_1_method_24_code 2 (Option.some FieldType.int) ∈ TT := in_tb (tb_6 (List.mem_of_getElem? (i := 46) rfl)) rfl
theorem tw_1369 : Cond.methodLink "ForestCourts" 229 ⟨"ForestCourts$Courts", "hearLaws", "(I)V"⟩ ∈ TT := in_tb (tb_6 (List.mem_of_getElem? (i := 47) rfl)) rfl
theorem tw_1370 : Cond.methodLink "ForestCourts" 232 ⟨"ForestCourts$Laws", "wordNumber", "()I"⟩ ∈ TT := in_tb (tb_6 (List.mem_of_getElem? (i := 48) rfl)) rfl
theorem tw_1371 : Cond.instanceMethod ⟨"ForestCourts$Laws", "wordNumber", "()I"⟩ ∈ TT := in_tb (tb_6 (List.mem_of_getElem? (i := 49) rfl)) rfl
theorem tw_1372 : Cond.selects "ForestCourts$Laws" ⟨"ForestCourts$Laws", "wordNumber", "()I"⟩ ⟨"ForestCourts$Laws", "wordNumber", "()I"⟩ ∈ TT := in_tb (tb_6 (List.mem_of_getElem? (i := 50) rfl)) rfl
theorem tw_1373 : Cond.code ⟨"ForestCourts$Laws", "wordNumber", "()I"⟩ prog_5_method_9_code 1 (Option.some FieldType.int) ∈ TT := in_tb (tb_6 (List.mem_of_getElem? (i := 51) rfl)) rfl
theorem tw_1374 : Cond.methodLink "ForestCourtsLaw" 212 ⟨"ForestCourtsLaw", "fine", "(LForestCourts;I[J)I"⟩ ∈ TT := in_tb (tb_6 (List.mem_of_getElem? (i := 52) rfl)) rfl
theorem tw_1375 : Cond.static ⟨"ForestCourtsLaw", "fine", "(LForestCourts;I[J)I"⟩ ∈ TT := in_tb (tb_6 (List.mem_of_getElem? (i := 53) rfl)) rfl
theorem tw_1376 : Cond.codeWith ⟨"ForestCourtsLaw", "fine", "(LForestCourts;I[J)I"⟩ method_22_code 4 (Option.some FieldType.int) [(0, 9, 12, 28)] ∈ TT := in_tb (tb_6 (List.mem_of_getElem? (i := 54) rfl)) rfl
theorem tw_1377 : Cond.methodLink "ForestCourtsLaw" 78 ⟨"ForestCourts", "fine", "(I)I"⟩ ∈ TT := in_tb (tb_6 (List.mem_of_getElem? (i := 55) rfl)) rfl
theorem tw_1378 : Cond.instanceMethod ⟨"ForestCourts", "fine", "(I)I"⟩ ∈ TT := in_tb (tb_6 (List.mem_of_getElem? (i := 56) rfl)) rfl
theorem tw_1379 : Cond.selects "ForestCourts" ⟨"ForestCourts", "fine", "(I)I"⟩ ⟨"ForestCourts", "fine", "(I)I"⟩ ∈ TT := in_tb (tb_6 (List.mem_of_getElem? (i := 57) rfl)) rfl
theorem tw_1380 : Cond.code ⟨"ForestCourts", "fine", "(I)I"⟩ prog_1_method_25_code 2 (Option.some FieldType.int) ∈ TT := in_tb (tb_6 (List.mem_of_getElem? (i := 58) rfl)) rfl
theorem tw_1381 : Cond.methodLink "ForestCourts" 235 ⟨"ForestCourts$Courts", "fineOf", "(I)I"⟩ ∈ TT := in_tb (tb_6 (List.mem_of_getElem? (i := 59) rfl)) rfl
theorem tw_1382 : Cond.methodLink "ForestCourtsLaw" 215 ⟨"ForestCourtsLaw", "present", "(LForestCourts;IIII[J)I"⟩ ∈ TT := in_tb (tb_6 (List.mem_of_getElem? (i := 60) rfl)) rfl
theorem tw_1383 : Cond.static ⟨"ForestCourtsLaw", "present", "(LForestCourts;IIII[J)I"⟩ ∈ TT := in_tb (tb_6 (List.mem_of_getElem? (i := 61) rfl)) rfl
theorem tw_1384 : Cond.codeWith ⟨"ForestCourtsLaw", "present", "(LForestCourts;IIII[J)I"⟩ method_23_code 7 (Option.some FieldType.int) [(0, 14, 17, 28)] ∈ TT := in_tb (tb_6 (List.mem_of_getElem? (i := 62) rfl)) rfl
theorem tw_1385 : Cond.methodLink "ForestCourtsLaw" 81 ⟨"ForestCourts", "present", "(IIII)I"⟩ ∈ TT := in_tb (tb_6 (List.mem_of_getElem? (i := 63) rfl)) rfl
theorem tw_1386 : Cond.instanceMethod ⟨"ForestCourts", "present", "(IIII)I"⟩ ∈ TT := in_tb (tb_6 (List.mem_of_getElem? (i := 64) rfl)) rfl
theorem tw_1387 : Cond.selects "ForestCourts" ⟨"ForestCourts", "present", "(IIII)I"⟩ ⟨"ForestCourts", "present", "(IIII)I"⟩ ∈ TT := in_tb (tb_6 (List.mem_of_getElem? (i := 65) rfl)) rfl
theorem tw_1388 : Cond.code ⟨"ForestCourts", "present", "(IIII)I"⟩ prog_1_method_26_code 5 (Option.some FieldType.int) ∈ TT := in_tb (tb_6 (List.mem_of_getElem? (i := 66) rfl)) rfl
theorem tw_1389 : Cond.methodLink "ForestCourts" 238 ⟨"ForestCourts$Courts", "addPresentment", "(IIII)I"⟩ ∈ TT := in_tb (tb_6 (List.mem_of_getElem? (i := 67) rfl)) rfl
theorem tw_1390 : Cond.instanceMethod ⟨"ForestCourts$Courts", "addPresentment", "(IIII)I"⟩ ∈ TT := in_tb (tb_6 (List.mem_of_getElem? (i := 68) rfl)) rfl
theorem tw_1391 : Cond.selects "ForestCourts$Courts" ⟨"ForestCourts$Courts", "addPresentment", "(IIII)I"⟩ ⟨"ForestCourts$Courts", "addPresentment", "(IIII)I"⟩ ∈ TT := in_tb (tb_6 (List.mem_of_getElem? (i := 69) rfl)) rfl
theorem tw_1392 : Cond.code ⟨"ForestCourts$Courts", "addPresentment", "(IIII)I"⟩ prog_3_method_7_code 8 (Option.some FieldType.int) ∈ TT := in_tb (tb_6 (List.mem_of_getElem? (i := 70) rfl)) rfl
theorem tw_1393 : Cond.methodLink "ForestCourts$Courts" 96 ⟨"ForestCourts$Table", "isFull", "()Z"⟩ ∈ TT := in_tb (tb_6 (List.mem_of_getElem? (i := 71) rfl)) rfl
theorem tw_1394 : Cond.methodLink "ForestCourts$Courts" 99 ⟨"ForestCourts$Courts", "isBarred", "(I)Z"⟩ ∈ TT := in_tb (tb_6 (List.mem_of_getElem? (i := 72) rfl)) rfl
theorem tw_1395 : Cond.methodLink "ForestCourtsLaw" 219 ⟨"ForestCourtsLaw", "proof", "(LForestCourts;II[J)I"⟩ ∈ TT := in_tb (tb_6 (List.mem_of_getElem? (i := 73) rfl)) rfl
theorem tw_1396 : Cond.static ⟨"ForestCourtsLaw", "proof", "(LForestCourts;II[J)I"⟩ ∈ TT := in_tb (tb_6 (List.mem_of_getElem? (i := 74) rfl)) rfl
theorem tw_1397 : Cond.codeWith ⟨"ForestCourtsLaw", "proof", "(LForestCourts;II[J)I"⟩ method_24_code 5 (Option.some FieldType.int) [(0, 10, 13, 28), (0, 10, 17, 13)] ∈ TT := in_tb (tb_6 (List.mem_of_getElem? (i := 75) rfl)) rfl
theorem tw_1398 : Cond.methodLink "ForestCourtsLaw" 85 ⟨"ForestCourts", "proof", "(II)I"⟩ ∈ TT := in_tb (tb_6 (List.mem_of_getElem? (i := 76) rfl)) rfl
theorem tw_1399 : Cond.instanceMethod ⟨"ForestCourts", "proof", "(II)I"⟩ ∈ TT := in_tb (tb_6 (List.mem_of_getElem? (i := 77) rfl)) rfl
theorem tw_1400 : Cond.selects "ForestCourts" ⟨"ForestCourts", "proof", "(II)I"⟩ ⟨"ForestCourts", "proof", "(II)I"⟩ ∈ TT := in_tb (tb_6 (List.mem_of_getElem? (i := 78) rfl)) rfl
theorem tw_1401 : Cond.code ⟨"ForestCourts", "proof", "(II)I"⟩ prog_1_method_27_code 3 (Option.some FieldType.int) ∈ TT := in_tb (tb_6 (List.mem_of_getElem? (i := 79) rfl)) rfl
theorem tw_1402 : Cond.methodLink "ForestCourts" 245 ⟨"ForestCourts$Courts", "addProof", "(II)I"⟩ ∈ TT := in_tb (tb_6 (List.mem_of_getElem? (i := 80) rfl)) rfl
theorem tw_1403 : Cond.instanceMethod ⟨"ForestCourts$Courts", "addProof", "(II)I"⟩ ∈ TT := in_tb (tb_6 (List.mem_of_getElem? (i := 81) rfl)) rfl
theorem tw_1404 : Cond.selects "ForestCourts$Courts" ⟨"ForestCourts$Courts", "addProof", "(II)I"⟩ ⟨"ForestCourts$Courts", "addProof", "(II)I"⟩ ∈ TT := in_tb (tb_6 (List.mem_of_getElem? (i := 82) rfl)) rfl
theorem tw_1405 : Cond.code ⟨"ForestCourts$Courts", "addProof", "(II)I"⟩ prog_3_method_8_code 4 (Option.some FieldType.int) ∈ TT := in_tb (tb_6 (List.mem_of_getElem? (i := 83) rfl)) rfl
theorem tw_1406 : Cond.methodLink "ForestCourtsLaw" 222 ⟨"ForestCourtsLaw", "of", "(LForestCourts;II[J)I"⟩ ∈ TT := in_tb (tb_6 (List.mem_of_getElem? (i := 84) rfl)) rfl
theorem tw_1407 : Cond.static ⟨"ForestCourtsLaw", "of", "(LForestCourts;II[J)I"⟩ ∈ TT := in_tb (tb_6 (List.mem_of_getElem? (i := 85) rfl)) rfl
theorem tw_1408 : Cond.codeWith ⟨"ForestCourtsLaw", "of", "(LForestCourts;II[J)I"⟩ method_25_code 5 (Option.some FieldType.int) [(0, 10, 13, 28), (0, 10, 17, 13)] ∈ TT := in_tb (tb_6 (List.mem_of_getElem? (i := 86) rfl)) rfl
theorem tw_1409 : Cond.methodLink "ForestCourtsLaw" 88 ⟨"ForestCourts", "of", "(II)I"⟩ ∈ TT := in_tb (tb_6 (List.mem_of_getElem? (i := 87) rfl)) rfl
theorem tw_1410 : Cond.instanceMethod ⟨"ForestCourts", "of", "(II)I"⟩ ∈ TT := in_tb (tb_6 (List.mem_of_getElem? (i := 88) rfl)) rfl
theorem tw_1411 : Cond.selects "ForestCourts" ⟨"ForestCourts", "of", "(II)I"⟩ ⟨"ForestCourts", "of", "(II)I"⟩ ∈ TT := in_tb (tb_6 (List.mem_of_getElem? (i := 89) rfl)) rfl
theorem tw_1412 : Cond.code ⟨"ForestCourts", "of", "(II)I"⟩ prog_1_method_28_code 3 (Option.some FieldType.int) ∈ TT := in_tb (tb_6 (List.mem_of_getElem? (i := 90) rfl)) rfl
theorem tw_1413 : Cond.methodLink "ForestCourtsLaw" 225 ⟨"ForestCourtsLaw", "claim", "(LForestCourts;IIII[J)I"⟩ ∈ TT := in_tb (tb_6 (List.mem_of_getElem? (i := 91) rfl)) rfl
theorem tw_1414 : Cond.static ⟨"ForestCourtsLaw", "claim", "(LForestCourts;IIII[J)I"⟩ ∈ TT := in_tb (tb_6 (List.mem_of_getElem? (i := 92) rfl)) rfl
theorem tw_1415 : Cond.codeWith ⟨"ForestCourtsLaw", "claim", "(LForestCourts;IIII[J)I"⟩ method_26_code 7 (Option.some FieldType.int) [(0, 14, 17, 28), (0, 14, 21, 13)] ∈ TT := in_tb (tb_6 (List.mem_of_getElem? (i := 93) rfl)) rfl
theorem tw_1416 : Cond.methodLink "ForestCourtsLaw" 91 ⟨"ForestCourts", "claim", "(IIII)I"⟩ ∈ TT := in_tb (tb_6 (List.mem_of_getElem? (i := 94) rfl)) rfl
theorem tw_1417 : Cond.instanceMethod ⟨"ForestCourts", "claim", "(IIII)I"⟩ ∈ TT := in_tb (tb_6 (List.mem_of_getElem? (i := 95) rfl)) rfl
theorem tw_1418 : Cond.selects "ForestCourts" ⟨"ForestCourts", "claim", "(IIII)I"⟩ ⟨"ForestCourts", "claim", "(IIII)I"⟩ ∈ TT := in_tb (tb_6 (List.mem_of_getElem? (i := 96) rfl)) rfl
theorem tw_1419 : Cond.code ⟨"ForestCourts", "claim", "(IIII)I"⟩ prog_1_method_29_code 5 (Option.some FieldType.int) ∈ TT := in_tb (tb_6 (List.mem_of_getElem? (i := 97) rfl)) rfl
theorem tw_1420 : Cond.methodLink "ForestCourts" 248 ⟨"ForestCourts$Claims", "addClaim", "(IIII)I"⟩ ∈ TT := in_tb (tb_6 (List.mem_of_getElem? (i := 98) rfl)) rfl
theorem tw_1421 : Cond.instanceMethod ⟨"ForestCourts$Claims", "addClaim", "(IIII)I"⟩ ∈ TT := in_tb (tb_6 (List.mem_of_getElem? (i := 99) rfl)) rfl
theorem tw_1422 : Cond.selects "ForestCourts$Claims" ⟨"ForestCourts$Claims", "addClaim", "(IIII)I"⟩ ⟨"ForestCourts$Claims", "addClaim", "(IIII)I"⟩ ∈ TT := in_tb (tb_6 (List.mem_of_getElem? (i := 100) rfl)) rfl
theorem tw_1423 : Cond.code ⟨"ForestCourts$Claims", "addClaim", "(IIII)I"⟩ prog_2_method_2_code 6 (Option.some FieldType.int) ∈ TT := in_tb (tb_6 (List.mem_of_getElem? (i := 101) rfl)) rfl
theorem tw_1424 : Cond.methodLink "ForestCourts$Claims" 31 ⟨"ForestCourts$Table", "add", "()I"⟩ ∈ TT := in_tb (tb_6 (List.mem_of_getElem? (i := 102) rfl)) rfl
theorem tw_1425 : Cond.methodLink "ForestCourts$Claims" 35 ⟨"ForestCourts$Table", "put", "(III)V"⟩ ∈ TT := in_tb (tb_6 (List.mem_of_getElem? (i := 103) rfl)) rfl
theorem tw_1426 : Cond.methodLink "ForestCourtsLaw" 228 ⟨"ForestCourtsLaw", "use", "(LForestCourts;III[J)I"⟩ ∈ TT := in_tb (tb_6 (List.mem_of_getElem? (i := 104) rfl)) rfl
theorem tw_1427 : Cond.static ⟨"ForestCourtsLaw", "use", "(LForestCourts;III[J)I"⟩ ∈ TT := in_tb (tb_6 (List.mem_of_getElem? (i := 105) rfl)) rfl
theorem tw_1428 : Cond.codeWith ⟨"ForestCourtsLaw", "use", "(LForestCourts;III[J)I"⟩ method_27_code 6 (Option.some FieldType.int) [(0, 12, 15, 28), (0, 12, 19, 13)] ∈ TT := in_tb (tb_6 (List.mem_of_getElem? (i := 106) rfl)) rfl
theorem tw_1429 : Cond.methodLink "ForestCourtsLaw" 94 ⟨"ForestCourts", "use", "(III)I"⟩ ∈ TT := in_tb (tb_6 (List.mem_of_getElem? (i := 107) rfl)) rfl
theorem tw_1430 : Cond.instanceMethod ⟨"ForestCourts", "use", "(III)I"⟩ ∈ TT := in_tb (tb_6 (List.mem_of_getElem? (i := 108) rfl)) rfl
theorem tw_1431 : Cond.selects "ForestCourts" ⟨"ForestCourts", "use", "(III)I"⟩ ⟨"ForestCourts", "use", "(III)I"⟩ ∈ TT := in_tb (tb_6 (List.mem_of_getElem? (i := 109) rfl)) rfl
theorem tw_1432 : Cond.code ⟨"ForestCourts", "use", "(III)I"⟩ prog_1_method_30_code 4 (Option.some FieldType.int) ∈ TT := in_tb (tb_6 (List.mem_of_getElem? (i := 110) rfl)) rfl
theorem tw_1433 : Cond.methodLink "ForestCourts" 252 ⟨"ForestCourts$Claims", "addEvent", "(III)I"⟩ ∈ TT := in_tb (tb_6 (List.mem_of_getElem? (i := 111) rfl)) rfl
theorem tw_1434 : Cond.instanceMethod ⟨"ForestCourts$Claims", "addEvent", "(III)I"⟩ ∈ TT := in_tb (tb_6 (List.mem_of_getElem? (i := 112) rfl)) rfl
theorem tw_1435 : Cond.selects "ForestCourts$Claims" ⟨"ForestCourts$Claims", "addEvent", "(III)I"⟩ ⟨"ForestCourts$Claims", "addEvent", "(III)I"⟩ ∈ TT := in_tb (tb_6 (List.mem_of_getElem? (i := 113) rfl)) rfl
theorem tw_1436 : Cond.code ⟨"ForestCourts$Claims", "addEvent", "(III)I"⟩ prog_2_method_3_code 5 (Option.some FieldType.int) ∈ TT := in_tb (tb_6 (List.mem_of_getElem? (i := 114) rfl)) rfl
theorem tw_1437 : Cond.methodLink "ForestCourts$Claims" 43 ⟨"ForestCourts$Table", "raise", "(III)I"⟩ ∈ TT := in_tb (tb_6 (List.mem_of_getElem? (i := 115) rfl)) rfl
theorem tw_1438 : Cond.methodLink "ForestCourtsLaw" 231 ⟨"ForestCourtsLaw", "sure", "(LForestCourts;II[J)I"⟩ ∈ TT := in_tb (tb_6 (List.mem_of_getElem? (i := 116) rfl)) rfl
theorem tw_1439 : Cond.static ⟨"ForestCourtsLaw", "sure", "(LForestCourts;II[J)I"⟩ ∈ TT := in_tb (tb_6 (List.mem_of_getElem? (i := 117) rfl)) rfl
theorem tw_1440 : Cond.codeWith ⟨"ForestCourtsLaw", "sure", "(LForestCourts;II[J)I"⟩ method_28_code 5 (Option.some FieldType.int) [(0, 10, 13, 28), (0, 10, 17, 13)] ∈ TT := in_tb (tb_6 (List.mem_of_getElem? (i := 118) rfl)) rfl
theorem tw_1441 : Cond.methodLink "ForestCourtsLaw" 97 ⟨"ForestCourts", "sure", "(II)I"⟩ ∈ TT := in_tb (tb_6 (List.mem_of_getElem? (i := 119) rfl)) rfl
theorem tw_1442 : Cond.instanceMethod ⟨"ForestCourts", "sure", "(II)I"⟩ ∈ TT := in_tb (tb_6 (List.mem_of_getElem? (i := 120) rfl)) rfl
theorem tw_1443 : Cond.selects "ForestCourts" ⟨"ForestCourts", "sure", "(II)I"⟩ ⟨"ForestCourts", "sure", "(II)I"⟩ ∈ TT := in_tb (tb_6 (List.mem_of_getElem? (i := 121) rfl)) rfl
theorem tw_1444 : Cond.code ⟨"ForestCourts", "sure", "(II)I"⟩ prog_1_method_31_code 3 (Option.some FieldType.int) ∈ TT := in_tb (tb_6 (List.mem_of_getElem? (i := 122) rfl)) rfl
theorem tw_1445 : Cond.methodLink "ForestCourts" 255 ⟨"ForestCourts$Claims", "sureOn", "(II)I"⟩ ∈ TT := in_tb (tb_6 (List.mem_of_getElem? (i := 123) rfl)) rfl
theorem tw_1446 : Cond.methodLink "ForestCourtsLaw" 234 ⟨"ForestCourtsLaw", "enter", "(LForestCourts;III[J)I"⟩ ∈ TT := in_tb (tb_6 (List.mem_of_getElem? (i := 124) rfl)) rfl
theorem tw_1447 : Cond.static ⟨"ForestCourtsLaw", "enter", "(LForestCourts;III[J)I"⟩ ∈ TT := in_tb (tb_6 (List.mem_of_getElem? (i := 125) rfl)) rfl
theorem tw_1448 : Cond.codeWith ⟨"ForestCourtsLaw", "enter", "(LForestCourts;III[J)I"⟩ method_29_code 6 (Option.some FieldType.int) [(0, 12, 15, 28), (0, 12, 19, 13)] ∈ TT := in_tb (tb_6 (List.mem_of_getElem? (i := 126) rfl)) rfl
theorem tw_1449 : Cond.methodLink "ForestCourtsLaw" 100 ⟨"ForestCourts", "enter", "(III)I"⟩ ∈ TT := in_tb (tb_6 (List.mem_of_getElem? (i := 127) rfl)) rfl
theorem tw_1450 : Cond.instanceMethod ⟨"ForestCourts", "enter", "(III)I"⟩ ∈ TT := in_tb (tb_6 (List.mem_of_getElem? (i := 128) rfl)) rfl
theorem tw_1451 : Cond.selects "ForestCourts" ⟨"ForestCourts", "enter", "(III)I"⟩ ⟨"ForestCourts", "enter", "(III)I"⟩ ∈ TT := in_tb (tb_6 (List.mem_of_getElem? (i := 129) rfl)) rfl
theorem tw_1452 : Cond.code ⟨"ForestCourts", "enter", "(III)I"⟩ prog_1_method_32_code 4 (Option.some FieldType.int) ∈ TT := in_tb (tb_6 (List.mem_of_getElem? (i := 130) rfl)) rfl
theorem tw_1453 : Cond.methodLink "ForestCourts" 258 ⟨"ForestCourts$Rolls", "addEntry", "(III)I"⟩ ∈ TT := in_tb (tb_6 (List.mem_of_getElem? (i := 131) rfl)) rfl
theorem tw_1454 : Cond.instanceMethod ⟨"ForestCourts$Rolls", "addEntry", "(III)I"⟩ ∈ TT := in_tb (tb_6 (List.mem_of_getElem? (i := 132) rfl)) rfl
theorem tw_1455 : Cond.selects "ForestCourts$Rolls" ⟨"ForestCourts$Rolls", "addEntry", "(III)I"⟩ ⟨"ForestCourts$Rolls", "addEntry", "(III)I"⟩ ∈ TT := in_tb (tb_6 (List.mem_of_getElem? (i := 133) rfl)) rfl
theorem tw_1456 : Cond.code ⟨"ForestCourts$Rolls", "addEntry", "(III)I"⟩ prog_9_method_2_code 7 (Option.some FieldType.int) ∈ TT := in_tb (tb_6 (List.mem_of_getElem? (i := 134) rfl)) rfl
theorem tw_1457 : Cond.methodLink "ForestCourts$Rolls" 41 ⟨"ForestCourts$Table", "add", "()I"⟩ ∈ TT := in_tb (tb_6 (List.mem_of_getElem? (i := 135) rfl)) rfl
theorem tw_1458 : Cond.methodLink "ForestCourts$Rolls" 44 ⟨"ForestCourts$Table", "put", "(III)V"⟩ ∈ TT := in_tb (tb_6 (List.mem_of_getElem? (i := 136) rfl)) rfl
theorem tw_1459 : Cond.methodLink "ForestCourtsLaw" 241 ⟨"ForestCourtsLaw", "joined", "(LForestCourts;II[J)I"⟩ ∈ TT := in_tb (tb_6 (List.mem_of_getElem? (i := 137) rfl)) rfl
theorem tw_1460 : Cond.static ⟨"ForestCourtsLaw", "joined", "(LForestCourts;II[J)I"⟩ ∈ TT := in_tb (tb_6 (List.mem_of_getElem? (i := 138) rfl)) rfl
theorem tw_1461 : Cond.codeWith ⟨"ForestCourtsLaw", "joined", "(LForestCourts;II[J)I"⟩ method_30_code 5 (Option.some FieldType.int) [(0, 10, 13, 13)] ∈ TT := in_tb (tb_6 (List.mem_of_getElem? (i := 139) rfl)) rfl
theorem tw_1462 : Cond.methodLink "ForestCourtsLaw" 103 ⟨"ForestCourts", "joined", "(II)I"⟩ ∈ TT := in_tb (tb_6 (List.mem_of_getElem? (i := 140) rfl)) rfl
theorem tw_1463 : Cond.instanceMethod ⟨"ForestCourts", "joined", "(II)I"⟩ ∈ TT := in_tb (tb_6 (List.mem_of_getElem? (i := 141) rfl)) rfl
theorem tw_1464 : Cond.selects "ForestCourts" ⟨"ForestCourts", "joined", "(II)I"⟩ ⟨"ForestCourts", "joined", "(II)I"⟩ ∈ TT := in_tb (tb_6 (List.mem_of_getElem? (i := 142) rfl)) rfl
theorem tw_1465 : Cond.code ⟨"ForestCourts", "joined", "(II)I"⟩ prog_1_method_34_code 3 (Option.some FieldType.int) ∈ TT := in_tb (tb_6 (List.mem_of_getElem? (i := 143) rfl)) rfl
theorem tw_1466 : Cond.methodLink "ForestCourts" 264 ⟨"ForestCourts$Rolls", "entryAt", "(I)I"⟩ ∈ TT := in_tb (tb_6 (List.mem_of_getElem? (i := 144) rfl)) rfl
theorem tw_1467 : Cond.instanceMethod ⟨"ForestCourts$Rolls", "entryAt", "(I)I"⟩ ∈ TT := in_tb (tb_6 (List.mem_of_getElem? (i := 145) rfl)) rfl
theorem tw_1468 : Cond.selects "ForestCourts$Rolls" ⟨"ForestCourts$Rolls", "entryAt", "(I)I"⟩ ⟨"ForestCourts$Rolls", "entryAt", "(I)I"⟩ ∈ TT := in_tb (tb_6 (List.mem_of_getElem? (i := 146) rfl)) rfl
theorem tw_1469 : Cond.code ⟨"ForestCourts$Rolls", "entryAt", "(I)I"⟩ prog_9_method_4_code 2 (Option.some FieldType.int) ∈ TT := in_tb (tb_6 (List.mem_of_getElem? (i := 147) rfl)) rfl
theorem tw_1470 : Cond.methodLink "ForestCourts" 267 ⟨"ForestCourts$Rolls", "sumAt", "(I)I"⟩ ∈ TT := in_tb (tb_6 (List.mem_of_getElem? (i := 148) rfl)) rfl
theorem tw_1471 : Cond.instanceMethod ⟨"ForestCourts$Rolls", "sumAt", "(I)I"⟩ ∈ TT := in_tb (tb_6 (List.mem_of_getElem? (i := 149) rfl)) rfl
theorem tw_1472 : Cond.selects "ForestCourts$Rolls" ⟨"ForestCourts$Rolls", "sumAt", "(I)I"⟩ ⟨"ForestCourts$Rolls", "sumAt", "(I)I"⟩ ∈ TT := in_tb (tb_6 (List.mem_of_getElem? (i := 150) rfl)) rfl
theorem tw_1473 : Cond.code ⟨"ForestCourts$Rolls", "sumAt", "(I)I"⟩ prog_9_method_5_code 8 (Option.some FieldType.int) ∈ TT := in_tb (tb_6 (List.mem_of_getElem? (i := 151) rfl)) rfl
theorem tw_1474 : Cond.methodLink "ForestCourts$Rolls" 61 ⟨"ForestCourts$Rolls", "entryAt", "(I)I"⟩ ∈ TT := in_tb (tb_6 (List.mem_of_getElem? (i := 152) rfl)) rfl
theorem tw_1475 : Cond.methodLink "ForestCourts$Rolls" 65 ⟨"ForestCourts$Rolls", "apartFrom", "(II)I"⟩ ∈ TT := in_tb (tb_6 (List.mem_of_getElem? (i := 153) rfl)) rfl
theorem tw_1477 : Cond.instanceMethod ⟨"ForestCourts$Rolls", "apartFrom", "(II)I"⟩ ∈ TT := in_tb (tb_6 (List.mem_of_getElem? (i := 155) rfl)) rfl
theorem tw_1478 : Cond.code ⟨"ForestCourts$Rolls", "apartFrom", "(II)I"⟩ prog_9_method_6_code 5 (Option.some FieldType.int) ∈ TT := in_tb (tb_6 (List.mem_of_getElem? (i := 156) rfl)) rfl
theorem tw_1479 : Cond.methodLink "ForestCourts$Rolls" 68 ⟨"java/lang/Math", "abs", "(I)I"⟩ ∈ TT := in_tb (tb_6 (List.mem_of_getElem? (i := 157) rfl)) rfl
theorem tw_1480 : Cond.methodLink "ForestCourtsLaw" 244 ⟨"ForestCourtsLaw", "lodge", "(LForestCourts;IIII[J)I"⟩ ∈ TT := in_tb (tb_6 (List.mem_of_getElem? (i := 158) rfl)) rfl
theorem tw_1481 : Cond.static ⟨"ForestCourtsLaw", "lodge", "(LForestCourts;IIII[J)I"⟩ ∈ TT := in_tb (tb_6 (List.mem_of_getElem? (i := 159) rfl)) rfl
theorem tw_1482 : Cond.codeWith ⟨"ForestCourtsLaw", "lodge", "(LForestCourts;IIII[J)I"⟩ method_31_code 7 (Option.some FieldType.int) [(0, 14, 17, 28), (0, 14, 21, 13)] ∈ TT := in_tb (tb_6 (List.mem_of_getElem? (i := 160) rfl)) rfl
theorem tw_1483 : Cond.methodLink "ForestCourtsLaw" 106 ⟨"ForestCourts", "lodge", "(IIII)I"⟩ ∈ TT := in_tb (tb_6 (List.mem_of_getElem? (i := 161) rfl)) rfl
theorem tw_1484 : Cond.instanceMethod ⟨"ForestCourts", "lodge", "(IIII)I"⟩ ∈ TT := in_tb (tb_6 (List.mem_of_getElem? (i := 162) rfl)) rfl
theorem tw_1485 : Cond.selects "ForestCourts" ⟨"ForestCourts", "lodge", "(IIII)I"⟩ ⟨"ForestCourts", "lodge", "(IIII)I"⟩ ∈ TT := in_tb (tb_6 (List.mem_of_getElem? (i := 163) rfl)) rfl
theorem tw_1486 : Cond.code ⟨"ForestCourts", "lodge", "(IIII)I"⟩ prog_1_method_35_code 5 (Option.some FieldType.int) ∈ TT := in_tb (tb_6 (List.mem_of_getElem? (i := 164) rfl)) rfl
theorem tw_1487 : Cond.methodLink "ForestCourts" 270 ⟨"ForestCourts$Patrols", "setLodge", "(IIII)V"⟩ ∈ TT := in_tb (tb_6 (List.mem_of_getElem? (i := 165) rfl)) rfl
theorem tw_1488 : Cond.instanceMethod ⟨"ForestCourts$Patrols", "setLodge", "(IIII)V"⟩ ∈ TT := in_tb (tb_6 (List.mem_of_getElem? (i := 166) rfl)) rfl
theorem tw_1489 : Cond.selects "ForestCourts$Patrols" ⟨"ForestCourts$Patrols", "setLodge", "(IIII)V"⟩ ⟨"ForestCourts$Patrols", "setLodge", "(IIII)V"⟩ ∈ TT := in_tb (tb_6 (List.mem_of_getElem? (i := 167) rfl)) rfl
theorem tw_1490 : Cond.code ⟨"ForestCourts$Patrols", "setLodge", "(IIII)V"⟩ prog_6_method_2_code 5 (Option.none : Option FieldType) ∈ TT := in_tb (tb_6 (List.mem_of_getElem? (i := 168) rfl)) rfl
theorem tw_1491 : Cond.methodLink "ForestCourts$Patrols" 46 ⟨"ForestCourts$Table", "put", "(III)V"⟩ ∈ TT := in_tb (tb_6 (List.mem_of_getElem? (i := 169) rfl)) rfl
theorem tw_1492 : Cond.methodLink "ForestCourtsLaw" 247 ⟨"ForestCourtsLaw", "spot", "(LForestCourts;III[J)I"⟩ ∈ TT := in_tb (tb_6 (List.mem_of_getElem? (i := 170) rfl)) rfl
theorem tw_1493 : Cond.static ⟨"ForestCourtsLaw", "spot", "(LForestCourts;III[J)I"⟩ ∈ TT := in_tb (tb_6 (List.mem_of_getElem? (i := 171) rfl)) rfl
theorem tw_1494 : Cond.codeWith ⟨"ForestCourtsLaw", "spot", "(LForestCourts;III[J)I"⟩ method_32_code 6 (Option.some FieldType.int) [(0, 12, 15, 13)] ∈ TT := in_tb (tb_6 (List.mem_of_getElem? (i := 172) rfl)) rfl
theorem tw_1495 : Cond.methodLink "ForestCourtsLaw" 109 ⟨"ForestCourts", "spot", "(III)I"⟩ ∈ TT := in_tb (tb_6 (List.mem_of_getElem? (i := 173) rfl)) rfl
theorem tw_1496 : Cond.instanceMethod ⟨"ForestCourts", "spot", "(III)I"⟩ ∈ TT := in_tb (tb_6 (List.mem_of_getElem? (i := 174) rfl)) rfl
theorem tw_1497 : Cond.selects "ForestCourts" ⟨"ForestCourts", "spot", "(III)I"⟩ ⟨"ForestCourts", "spot", "(III)I"⟩ ∈ TT := in_tb (tb_6 (List.mem_of_getElem? (i := 175) rfl)) rfl
theorem tw_1498 : Cond.code ⟨"ForestCourts", "spot", "(III)I"⟩ prog_1_method_36_code 4 (Option.some FieldType.int) ∈ TT := in_tb (tb_6 (List.mem_of_getElem? (i := 176) rfl)) rfl
theorem tw_1499 : Cond.methodLink "ForestCourts" 274 ⟨"ForestCourts$Patrols", "addSpot", "(III)I"⟩ ∈ TT := in_tb (tb_6 (List.mem_of_getElem? (i := 177) rfl)) rfl
theorem tw_1500 : Cond.instanceMethod ⟨"ForestCourts$Patrols", "addSpot", "(III)I"⟩ ∈ TT := in_tb (tb_6 (List.mem_of_getElem? (i := 178) rfl)) rfl
theorem tw_1501 : Cond.selects "ForestCourts$Patrols" ⟨"ForestCourts$Patrols", "addSpot", "(III)I"⟩ ⟨"ForestCourts$Patrols", "addSpot", "(III)I"⟩ ∈ TT := in_tb (tb_6 (List.mem_of_getElem? (i := 179) rfl)) rfl
theorem tw_1502 : Cond.code ⟨"ForestCourts$Patrols", "addSpot", "(III)I"⟩ prog_6_method_3_code 5 (Option.some FieldType.int) ∈ TT := in_tb (tb_6 (List.mem_of_getElem? (i := 180) rfl)) rfl
theorem tw_1503 : Cond.methodLink "ForestCourts$Patrols" 50 ⟨"ForestCourts$Table", "add", "()I"⟩ ∈ TT := in_tb (tb_6 (List.mem_of_getElem? (i := 181) rfl)) rfl
theorem tw_1504 : Cond.methodLink "ForestCourtsLaw" 254 ⟨"ForestCourtsLaw", "beat", "(LForestCourts;I[J)I"⟩ ∈ TT := in_tb (tb_6 (List.mem_of_getElem? (i := 182) rfl)) rfl
theorem tw_1505 : Cond.static ⟨"ForestCourtsLaw", "beat", "(LForestCourts;I[J)I"⟩ ∈ TT := in_tb (tb_6 (List.mem_of_getElem? (i := 183) rfl)) rfl
theorem tw_1506 : Cond.codeWith ⟨"ForestCourtsLaw", "beat", "(LForestCourts;I[J)I"⟩ method_33_code 4 (Option.some FieldType.int) [(0, 9, 12, 28)] ∈ TT := in_tb (tb_6 (List.mem_of_getElem? (i := 184) rfl)) rfl
theorem tw_1507 : Cond.methodLink "ForestCourtsLaw" 112 ⟨"ForestCourts", "beat", "(I)I"⟩ ∈ TT := in_tb (tb_6 (List.mem_of_getElem? (i := 185) rfl)) rfl
theorem tw_1508 : Cond.instanceMethod ⟨"ForestCourts", "beat", "(I)I"⟩ ∈ TT := in_tb (tb_6 (List.mem_of_getElem? (i := 186) rfl)) rfl
theorem tw_1509 : Cond.selects "ForestCourts" ⟨"ForestCourts", "beat", "(I)I"⟩ ⟨"ForestCourts", "beat", "(I)I"⟩ ∈ TT := in_tb (tb_6 (List.mem_of_getElem? (i := 187) rfl)) rfl
theorem tw_1510 : Cond.code ⟨"ForestCourts", "beat", "(I)I"⟩ prog_1_method_38_code 2 (Option.some FieldType.int) ∈ TT := in_tb (tb_6 (List.mem_of_getElem? (i := 188) rfl)) rfl
theorem tw_1511 : Cond.methodLink "ForestCourts" 286 ⟨"ForestCourts$Patrols", "wardenOf", "(I)I"⟩ ∈ TT := in_tb (tb_6 (List.mem_of_getElem? (i := 189) rfl)) rfl
theorem tw_1512 : Cond.instanceMethod ⟨"ForestCourts$Patrols", "wardenOf", "(I)I"⟩ ∈ TT := in_tb (tb_6 (List.mem_of_getElem? (i := 190) rfl)) rfl
theorem tw_1513 : Cond.selects "ForestCourts$Patrols" ⟨"ForestCourts$Patrols", "wardenOf", "(I)I"⟩ ⟨"ForestCourts$Patrols", "wardenOf", "(I)I"⟩ ∈ TT := in_tb (tb_6 (List.mem_of_getElem? (i := 191) rfl)) rfl
theorem tw_1514 : Cond.code ⟨"ForestCourts$Patrols", "wardenOf", "(I)I"⟩ prog_6_method_4_code 2 (Option.some FieldType.int) ∈ TT := in_tb (tb_6 (List.mem_of_getElem? (i := 192) rfl)) rfl
theorem tw_1515 : Cond.methodLink "ForestCourtsLaw" 257 ⟨"ForestCourtsLaw", "wood", "(LForestCourts;III[J)I"⟩ ∈ TT := in_tb (tb_6 (List.mem_of_getElem? (i := 193) rfl)) rfl
theorem tw_1516 : Cond.static ⟨"ForestCourtsLaw", "wood", "(LForestCourts;III[J)I"⟩ ∈ TT := in_tb (tb_6 (List.mem_of_getElem? (i := 194) rfl)) rfl
theorem tw_1517 : Cond.codeWith ⟨"ForestCourtsLaw", "wood", "(LForestCourts;III[J)I"⟩ method_34_code 6 (Option.some FieldType.int) [(0, 12, 15, 13)] ∈ TT := in_tb (tb_6 (List.mem_of_getElem? (i := 195) rfl)) rfl
theorem tw_1518 : Cond.methodLink "ForestCourtsLaw" 115 ⟨"ForestCourts", "wood", "(III)I"⟩ ∈ TT := in_tb (tb_6 (List.mem_of_getElem? (i := 196) rfl)) rfl
theorem tw_1519 : Cond.instanceMethod ⟨"ForestCourts", "wood", "(III)I"⟩ ∈ TT := in_tb (tb_6 (List.mem_of_getElem? (i := 197) rfl)) rfl
theorem tw_1520 : Cond.selects "ForestCourts" ⟨"ForestCourts", "wood", "(III)I"⟩ ⟨"ForestCourts", "wood", "(III)I"⟩ ∈ TT := in_tb (tb_6 (List.mem_of_getElem? (i := 198) rfl)) rfl
theorem tw_1521 : Cond.code ⟨"ForestCourts", "wood", "(III)I"⟩ prog_1_method_39_code 4 (Option.some FieldType.int) ∈ TT := in_tb (tb_6 (List.mem_of_getElem? (i := 199) rfl)) rfl
theorem tw_1522 : Cond.methodLink "ForestCourts" 289 ⟨"ForestCourts", "isYear", "(I)Z"⟩ ∈ TT := in_tb (tb_6 (List.mem_of_getElem? (i := 200) rfl)) rfl
theorem tw_1523 : Cond.static ⟨"ForestCourts", "isYear", "(I)Z"⟩ ∈ TT := in_tb (tb_6 (List.mem_of_getElem? (i := 201) rfl)) rfl
theorem tw_1524 : Cond.code ⟨"ForestCourts", "isYear", "(I)Z"⟩ prog_1_method_46_code 1 (Option.some FieldType.boolean) ∈ TT := in_tb (tb_6 (List.mem_of_getElem? (i := 202) rfl)) rfl
theorem tw_1525 : Cond.methodLink "ForestCourts" 292 ⟨"ForestCourts$Woods", "addWood", "(III)I"⟩ ∈ TT := in_tb (tb_6 (List.mem_of_getElem? (i := 203) rfl)) rfl
theorem tw_1526 : Cond.instanceMethod ⟨"ForestCourts$Woods", "addWood", "(III)I"⟩ ∈ TT := in_tb (tb_6 (List.mem_of_getElem? (i := 204) rfl)) rfl
theorem tw_1527 : Cond.selects "ForestCourts$Woods" ⟨"ForestCourts$Woods", "addWood", "(III)I"⟩ ⟨"ForestCourts$Woods", "addWood", "(III)I"⟩ ∈ TT := in_tb (tb_6 (List.mem_of_getElem? (i := 205) rfl)) rfl
theorem tw_1528 : Cond.code ⟨"ForestCourts$Woods", "addWood", "(III)I"⟩ prog_12_method_2_code 5 (Option.some FieldType.int) ∈ TT := in_tb (tb_6 (List.mem_of_getElem? (i := 206) rfl)) rfl
theorem tw_1529 : Cond.methodLink "ForestCourts$Woods" 23 ⟨"ForestCourts$Table", "add", "()I"⟩ ∈ TT := in_tb (tb_6 (List.mem_of_getElem? (i := 207) rfl)) rfl
theorem tw_1530 : Cond.methodLink "ForestCourts$Woods" 27 ⟨"ForestCourts$Table", "put", "(III)V"⟩ ∈ TT := in_tb (tb_6 (List.mem_of_getElem? (i := 208) rfl)) rfl
theorem tw_1531 : Cond.methodLink "ForestCourtsLaw" 260 ⟨"ForestCourtsLaw", "take", "(LForestCourts;IIII[J)I"⟩ ∈ TT := in_tb (tb_6 (List.mem_of_getElem? (i := 209) rfl)) rfl
theorem tw_1532 : Cond.static ⟨"ForestCourtsLaw", "take", "(LForestCourts;IIII[J)I"⟩ ∈ TT := in_tb (tb_6 (List.mem_of_getElem? (i := 210) rfl)) rfl
theorem tw_1533 : Cond.codeWith ⟨"ForestCourtsLaw", "take", "(LForestCourts;IIII[J)I"⟩ method_35_code 7 (Option.some FieldType.int) [(0, 14, 17, 28), (0, 14, 21, 13)] ∈ TT := in_tb (tb_6 (List.mem_of_getElem? (i := 211) rfl)) rfl
theorem tw_1534 : Cond.methodLink "ForestCourtsLaw" 118 ⟨"ForestCourts", "take", "(IIII)I"⟩ ∈ TT := in_tb (tb_6 (List.mem_of_getElem? (i := 212) rfl)) rfl
theorem tw_1535 : Cond.instanceMethod ⟨"ForestCourts", "take", "(IIII)I"⟩ ∈ TT := in_tb (tb_6 (List.mem_of_getElem? (i := 213) rfl)) rfl
theorem tw_1536 : Cond.selects "ForestCourts" ⟨"ForestCourts", "take", "(IIII)I"⟩ ⟨"ForestCourts", "take", "(IIII)I"⟩ ∈ TT := in_tb (tb_6 (List.mem_of_getElem? (i := 214) rfl)) rfl
theorem tw_1537 : Cond.code ⟨"ForestCourts", "take", "(IIII)I"⟩ prog_1_method_40_code 5 (Option.some FieldType.int) ∈ TT := in_tb (tb_6 (List.mem_of_getElem? (i := 215) rfl)) rfl
theorem tw_1538 : Cond.methodLink "ForestCourts" 296 ⟨"ForestCourts$Woods", "firstYear", "(I)I"⟩ ∈ TT := in_tb (tb_6 (List.mem_of_getElem? (i := 216) rfl)) rfl
theorem tw_1539 : Cond.instanceMethod ⟨"ForestCourts$Woods", "firstYear", "(I)I"⟩ ∈ TT := in_tb (tb_6 (List.mem_of_getElem? (i := 217) rfl)) rfl
theorem tw_1540 : Cond.selects "ForestCourts$Woods" ⟨"ForestCourts$Woods", "firstYear", "(I)I"⟩ ⟨"ForestCourts$Woods", "firstYear", "(I)I"⟩ ∈ TT := in_tb (tb_6 (List.mem_of_getElem? (i := 218) rfl)) rfl
theorem tw_1541 : Cond.code ⟨"ForestCourts$Woods", "firstYear", "(I)I"⟩ prog_12_method_3_code 2 (Option.some FieldType.int) ∈ TT := in_tb (tb_6 (List.mem_of_getElem? (i := 219) rfl)) rfl
theorem tw_1542 : Cond.methodLink "ForestCourts$Woods" 31 ⟨"ForestCourts$Table", "get", "(II)I"⟩ ∈ TT := in_tb (tb_6 (List.mem_of_getElem? (i := 220) rfl)) rfl
theorem tw_1543 : Cond.methodLink "ForestCourts" 299 ⟨"ForestCourts$Woods", "addTaking", "(IIIII)I"⟩ ∈ TT := in_tb (tb_6 (List.mem_of_getElem? (i := 221) rfl)) rfl
theorem tw_1544 : Cond.instanceMethod ⟨"ForestCourts$Woods", "addTaking", "(IIIII)I"⟩ ∈ TT := in_tb (tb_6 (List.mem_of_getElem? (i := 222) rfl)) rfl
theorem tw_1545 : Cond.selects "ForestCourts$Woods" ⟨"ForestCourts$Woods", "addTaking", "(IIIII)I"⟩ ⟨"ForestCourts$Woods", "addTaking", "(IIIII)I"⟩ ∈ TT := in_tb (tb_6 (List.mem_of_getElem? (i := 223) rfl)) rfl
theorem tw_1546 : Cond.code ⟨"ForestCourts$Woods", "addTaking", "(IIIII)I"⟩ prog_12_method_4_code 7 (Option.some FieldType.int) ∈ TT := in_tb (tb_6 (List.mem_of_getElem? (i := 224) rfl)) rfl
theorem tw_1547 : Cond.methodLink "ForestCourts$Woods" 35 ⟨"ForestCourts$Table", "size", "()I"⟩ ∈ TT := in_tb (tb_6 (List.mem_of_getElem? (i := 225) rfl)) rfl
theorem tw_1548 : Cond.methodLink "ForestCourtsLaw" 263 ⟨"ForestCourtsLaw", "stock", "(LForestCourts;IIII[J)I"⟩ ∈ TT := in_tb (tb_6 (List.mem_of_getElem? (i := 226) rfl)) rfl
theorem tw_1549 : Cond.static ⟨"ForestCourtsLaw", "stock", "(LForestCourts;IIII[J)I"⟩ ∈ TT := in_tb (tb_6 (List.mem_of_getElem? (i := 227) rfl)) rfl
theorem tw_1550 : Cond.codeWith ⟨"ForestCourtsLaw", "stock", "(LForestCourts;IIII[J)I"⟩ method_36_code 7 (Option.some FieldType.int) [(0, 14, 17, 28), (0, 14, 21, 13)] ∈ TT := in_tb (tb_6 (List.mem_of_getElem? (i := 228) rfl)) rfl
theorem tw_1551 : Cond.methodLink "ForestCourtsLaw" 121 ⟨"ForestCourts", "stock", "(IIII)I"⟩ ∈ TT := in_tb (tb_6 (List.mem_of_getElem? (i := 229) rfl)) rfl
theorem tw_1552 : Cond.instanceMethod ⟨"ForestCourts", "stock", "(IIII)I"⟩ ∈ TT := in_tb (tb_6 (List.mem_of_getElem? (i := 230) rfl)) rfl
theorem tw_1553 : Cond.selects "ForestCourts" ⟨"ForestCourts", "stock", "(IIII)I"⟩ ⟨"ForestCourts", "stock", "(IIII)I"⟩ ∈ TT := in_tb (tb_6 (List.mem_of_getElem? (i := 231) rfl)) rfl
theorem tw_1554 : Cond.code ⟨"ForestCourts", "stock", "(IIII)I"⟩ prog_1_method_41_code 5 (Option.some FieldType.int) ∈ TT := in_tb (tb_6 (List.mem_of_getElem? (i := 232) rfl)) rfl
theorem tw_1555 : Cond.methodLink "ForestCourts" 303 ⟨"ForestCourts$Woods", "stockOf", "(IIII)I"⟩ ∈ TT := in_tb (tb_6 (List.mem_of_getElem? (i := 233) rfl)) rfl
theorem tw_1556 : Cond.instanceMethod ⟨"ForestCourts$Woods", "stockOf", "(IIII)I"⟩ ∈ TT := in_tb (tb_6 (List.mem_of_getElem? (i := 234) rfl)) rfl
theorem tw_1557 : Cond.selects "ForestCourts$Woods" ⟨"ForestCourts$Woods", "stockOf", "(IIII)I"⟩ ⟨"ForestCourts$Woods", "stockOf", "(IIII)I"⟩ ∈ TT := in_tb (tb_6 (List.mem_of_getElem? (i := 235) rfl)) rfl
theorem tw_1558 : Cond.code ⟨"ForestCourts$Woods", "stockOf", "(IIII)I"⟩ prog_12_method_5_code 8 (Option.some FieldType.int) ∈ TT := in_tb (tb_6 (List.mem_of_getElem? (i := 236) rfl)) rfl
theorem tw_1559 : Cond.methodLink "ForestCourts$Woods" 38 ⟨"ForestCourts$Woods", "firstYear", "(I)I"⟩ ∈ TT := in_tb (tb_6 (List.mem_of_getElem? (i := 237) rfl)) rfl
theorem tw_1560 : Cond.methodLink "ForestCourts$Woods" 42 ⟨"ForestCourts$Woods", "takenIn", "(IIII)I"⟩ ∈ TT := in_tb (tb_6 (List.mem_of_getElem? (i := 238) rfl)) rfl
theorem tw_1562 : Cond.instanceMethod ⟨"ForestCourts$Woods", "takenIn", "(IIII)I"⟩ ∈ TT := in_tb (tb_7 (List.mem_of_getElem? (i := 0) rfl)) rfl
theorem tw_1563 : Cond.code ⟨"ForestCourts$Woods", "takenIn", "(IIII)I"⟩ prog_12_method_6_code 7 (Option.some FieldType.int) ∈ TT := in_tb (tb_7 (List.mem_of_getElem? (i := 1) rfl)) rfl
theorem tw_1564 : Cond.methodLink "ForestCourts$Woods" 46 ⟨"java/lang/Math", "max", "(II)I"⟩ ∈ TT := in_tb (tb_7 (List.mem_of_getElem? (i := 2) rfl)) rfl
theorem tw_1565 : Cond.constant "ForestCourts$Woods" 51 (1000000) ∈ TT := in_tb (tb_7 (List.mem_of_getElem? (i := 3) rfl)) rfl
theorem tw_1566 : Cond.methodLink "ForestCourts$Woods" 52 ⟨"java/lang/Math", "min", "(II)I"⟩ ∈ TT := in_tb (tb_7 (List.mem_of_getElem? (i := 4) rfl)) rfl
theorem tw_1573 : Cond.fieldLink "ForestCourtsModel" 253 "ForestCourtsModel" "thrown" "I" ∈ TT := in_tb (tb_7 (List.mem_of_getElem? (i := 11) rfl)) rfl
theorem tw_1574 : Cond.fieldLink "ForestCourtsModel" 513 "ForestCourtsModel" "today" "I" ∈ TT := in_tb (tb_7 (List.mem_of_getElem? (i := 12) rfl)) rfl
theorem tw_1575 : Cond.fieldLink "ForestCourtsModel" 269 "ForestCourtsModel" "marks" "I" ∈ TT := in_tb (tb_7 (List.mem_of_getElem? (i := 13) rfl)) rfl
theorem tw_1576 : Cond.fieldLink "ForestCourtsModel" 9 "ForestCourtsModel" "nameOf" "[I" ∈ TT := in_tb (tb_7 (List.mem_of_getElem? (i := 14) rfl)) rfl
theorem tw_1577 : Cond.fieldLink "ForestCourtsModel" 13 "ForestCourtsModel" "markX" "[I" ∈ TT := in_tb (tb_7 (List.mem_of_getElem? (i := 15) rfl)) rfl
theorem tw_1578 : Cond.fieldLink "ForestCourtsModel" 16 "ForestCourtsModel" "markY" "[I" ∈ TT := in_tb (tb_7 (List.mem_of_getElem? (i := 16) rfl)) rfl
theorem tw_1579 : Cond.fieldLink "ForestCourtsModel" 19 "ForestCourtsModel" "tape" "[B" ∈ TT := in_tb (tb_7 (List.mem_of_getElem? (i := 17) rfl)) rfl
theorem tw_1580 : Cond.fieldLink "ForestCourtsModel" 272 "ForestCourtsModel" "taped" "I" ∈ TT := in_tb (tb_7 (List.mem_of_getElem? (i := 18) rfl)) rfl
theorem tw_1581 : Cond.fieldLink "ForestCourtsModel" 23 "ForestCourtsModel" "row" "[I" ∈ TT := in_tb (tb_7 (List.mem_of_getElem? (i := 19) rfl)) rfl
theorem tw_1582 : Cond.fieldLink "ForestCourtsModel" 275 "ForestCourtsModel" "rowLong" "I" ∈ TT := in_tb (tb_7 (List.mem_of_getElem? (i := 20) rfl)) rfl
theorem tw_1583 : Cond.fieldLink "ForestCourtsModel" 302 "ForestCourtsModel" "rings" "I" ∈ TT := in_tb (tb_7 (List.mem_of_getElem? (i := 21) rfl)) rfl
theorem tw_1584 : Cond.fieldLink "ForestCourtsModel" 309 "ForestCourtsModel" "strip" "I" ∈ TT := in_tb (tb_7 (List.mem_of_getElem? (i := 22) rfl)) rfl
theorem tw_1585 : Cond.fieldLink "ForestCourtsModel" 26 "ForestCourtsModel" "ringMarks" "[I" ∈ TT := in_tb (tb_7 (List.mem_of_getElem? (i := 23) rfl)) rfl
theorem tw_1586 : Cond.fieldLink "ForestCourtsModel" 29 "ForestCourtsModel" "ringLong" "[I" ∈ TT := in_tb (tb_7 (List.mem_of_getElem? (i := 24) rfl)) rfl
theorem tw_1587 : Cond.fieldLink "ForestCourtsModel" 32 "ForestCourtsModel" "ringFrom" "[I" ∈ TT := in_tb (tb_7 (List.mem_of_getElem? (i := 25) rfl)) rfl
theorem tw_1588 : Cond.fieldLink "ForestCourtsModel" 35 "ForestCourtsModel" "ringTill" "[I" ∈ TT := in_tb (tb_7 (List.mem_of_getElem? (i := 26) rfl)) rfl
theorem tw_1589 : Cond.fieldLink "ForestCourtsModel" 38 "ForestCourtsModel" "wanted" "[I" ∈ TT := in_tb (tb_7 (List.mem_of_getElem? (i := 27) rfl)) rfl
theorem tw_1590 : Cond.fieldLink "ForestCourtsModel" 41 "ForestCourtsModel" "bestWalk" "[I" ∈ TT := in_tb (tb_7 (List.mem_of_getElem? (i := 28) rfl)) rfl
theorem tw_1591 : Cond.fieldLink "ForestCourtsModel" 338 "ForestCourtsModel" "walkedLong" "I" ∈ TT := in_tb (tb_7 (List.mem_of_getElem? (i := 29) rfl)) rfl
theorem tw_1592 : Cond.fieldLink "ForestCourtsModel" 325 "ForestCourtsModel" "walks" "I" ∈ TT := in_tb (tb_7 (List.mem_of_getElem? (i := 30) rfl)) rfl
theorem tw_1593 : Cond.fieldLink "ForestCourtsModel" 328 "ForestCourtsModel" "bestLength" "I" ∈ TT := in_tb (tb_7 (List.mem_of_getElem? (i := 31) rfl)) rfl
theorem tw_1594 : Cond.fieldLink "ForestCourtsModel" 422 "ForestCourtsModel" "texts" "I" ∈ TT := in_tb (tb_7 (List.mem_of_getElem? (i := 32) rfl)) rfl
theorem tw_1595 : Cond.fieldLink "ForestCourtsModel" 341 "ForestCourtsModel" "size" "I" ∈ TT := in_tb (tb_7 (List.mem_of_getElem? (i := 33) rfl)) rfl
theorem tw_1596 : Cond.fieldLink "ForestCourtsModel" 343 "ForestCourtsModel" "at" "I" ∈ TT := in_tb (tb_7 (List.mem_of_getElem? (i := 34) rfl)) rfl
theorem tw_1597 : Cond.fieldLink "ForestCourtsModel" 349 "ForestCourtsModel" "fault" "I" ∈ TT := in_tb (tb_7 (List.mem_of_getElem? (i := 35) rfl)) rfl
theorem tw_1598 : Cond.fieldLink "ForestCourtsModel" 44 "ForestCourtsModel" "place" "I" ∈ TT := in_tb (tb_7 (List.mem_of_getElem? (i := 36) rfl)) rfl
theorem tw_1599 : Cond.fieldLink "ForestCourtsModel" 428 "ForestCourtsModel" "open" "I" ∈ TT := in_tb (tb_7 (List.mem_of_getElem? (i := 37) rfl)) rfl
theorem tw_1600 : Cond.fieldLink "ForestCourtsModel" 425 "ForestCourtsModel" "codes" "I" ∈ TT := in_tb (tb_7 (List.mem_of_getElem? (i := 38) rfl)) rfl
theorem tw_1601 : Cond.fieldLink "ForestCourtsModel" 48 "ForestCourtsModel" "textFrom" "[I" ∈ TT := in_tb (tb_7 (List.mem_of_getElem? (i := 39) rfl)) rfl
theorem tw_1602 : Cond.fieldLink "ForestCourtsModel" 51 "ForestCourtsModel" "clauseMany" "[I" ∈ TT := in_tb (tb_7 (List.mem_of_getElem? (i := 40) rfl)) rfl
theorem tw_1603 : Cond.fieldLink "ForestCourtsModel" 54 "ForestCourtsModel" "kind" "[I" ∈ TT := in_tb (tb_7 (List.mem_of_getElem? (i := 41) rfl)) rfl
theorem tw_1604 : Cond.fieldLink "ForestCourtsModel" 57 "ForestCourtsModel" "what" "[I" ∈ TT := in_tb (tb_7 (List.mem_of_getElem? (i := 42) rfl)) rfl
theorem tw_1605 : Cond.fieldLink "ForestCourtsModel" 60 "ForestCourtsModel" "begin" "[I" ∈ TT := in_tb (tb_7 (List.mem_of_getElem? (i := 43) rfl)) rfl
theorem tw_1606 : Cond.fieldLink "ForestCourtsModel" 63 "ForestCourtsModel" "second" "[I" ∈ TT := in_tb (tb_7 (List.mem_of_getElem? (i := 44) rfl)) rfl
theorem tw_1607 : Cond.fieldLink "ForestCourtsModel" 66 "ForestCourtsModel" "third" "[I" ∈ TT := in_tb (tb_7 (List.mem_of_getElem? (i := 45) rfl)) rfl
theorem tw_1608 : Cond.fieldLink "ForestCourtsModel" 69 "ForestCourtsModel" "code" "[I" ∈ TT := in_tb (tb_7 (List.mem_of_getElem? (i := 46) rfl)) rfl
theorem tw_1609 : Cond.fieldLink "ForestCourtsModel" 72 "ForestCourtsModel" "number" "[I" ∈ TT := in_tb (tb_7 (List.mem_of_getElem? (i := 47) rfl)) rfl
theorem tw_1610 : Cond.fieldLink "ForestCourtsModel" 75 "ForestCourtsModel" "isForce" "[Z" ∈ TT := in_tb (tb_7 (List.mem_of_getElem? (i := 48) rfl)) rfl
theorem tw_1611 : Cond.fieldLink "ForestCourtsModel" 504 "ForestCourtsModel" "people" "I" ∈ TT := in_tb (tb_7 (List.mem_of_getElem? (i := 49) rfl)) rfl
theorem tw_1612 : Cond.fieldLink "ForestCourtsModel" 578 "ForestCourtsModel" "chest" "I" ∈ TT := in_tb (tb_7 (List.mem_of_getElem? (i := 50) rfl)) rfl
theorem tw_1613 : Cond.fieldLink "ForestCourtsModel" 79 "ForestCourtsModel" "rank" "[I" ∈ TT := in_tb (tb_7 (List.mem_of_getElem? (i := 51) rfl)) rfl
theorem tw_1614 : Cond.fieldLink "ForestCourtsModel" 82 "ForestCourtsModel" "coins" "[I" ∈ TT := in_tb (tb_7 (List.mem_of_getElem? (i := 52) rfl)) rfl
theorem tw_1615 : Cond.fieldLink "ForestCourtsModel" 85 "ForestCourtsModel" "heirOf" "[I" ∈ TT := in_tb (tb_7 (List.mem_of_getElem? (i := 53) rfl)) rfl
theorem tw_1616 : Cond.fieldLink "ForestCourtsModel" 88 "ForestCourtsModel" "died" "[I" ∈ TT := in_tb (tb_7 (List.mem_of_getElem? (i := 54) rfl)) rfl
theorem tw_1617 : Cond.fieldLink "ForestCourtsModel" 519 "ForestCourtsModel" "wardens" "I" ∈ TT := in_tb (tb_7 (List.mem_of_getElem? (i := 55) rfl)) rfl
theorem tw_1618 : Cond.fieldLink "ForestCourtsModel" 91 "ForestCourtsModel" "wardenIs" "[I" ∈ TT := in_tb (tb_7 (List.mem_of_getElem? (i := 56) rfl)) rfl
theorem tw_1619 : Cond.fieldLink "ForestCourtsModel" 94 "ForestCourtsModel" "weight" "[I" ∈ TT := in_tb (tb_7 (List.mem_of_getElem? (i := 57) rfl)) rfl
theorem tw_1620 : Cond.fieldLink "ForestCourtsModel" 97 "ForestCourtsModel" "share" "[I" ∈ TT := in_tb (tb_7 (List.mem_of_getElem? (i := 58) rfl)) rfl
theorem tw_1621 : Cond.fieldLink "ForestCourtsModel" 522 "ForestCourtsModel" "deeds" "I" ∈ TT := in_tb (tb_7 (List.mem_of_getElem? (i := 59) rfl)) rfl
theorem tw_1622 : Cond.fieldLink "ForestCourtsModel" 100 "ForestCourtsModel" "doer" "[I" ∈ TT := in_tb (tb_7 (List.mem_of_getElem? (i := 60) rfl)) rfl
theorem tw_1623 : Cond.fieldLink "ForestCourtsModel" 103 "ForestCourtsModel" "actOf" "[I" ∈ TT := in_tb (tb_7 (List.mem_of_getElem? (i := 61) rfl)) rfl
theorem tw_1624 : Cond.fieldLink "ForestCourtsModel" 106 "ForestCourtsModel" "deedX" "[I" ∈ TT := in_tb (tb_7 (List.mem_of_getElem? (i := 62) rfl)) rfl
theorem tw_1625 : Cond.fieldLink "ForestCourtsModel" 109 "ForestCourtsModel" "deedY" "[I" ∈ TT := in_tb (tb_7 (List.mem_of_getElem? (i := 63) rfl)) rfl
theorem tw_1626 : Cond.fieldLink "ForestCourtsModel" 112 "ForestCourtsModel" "deedDay" "[I" ∈ TT := in_tb (tb_7 (List.mem_of_getElem? (i := 64) rfl)) rfl
theorem tw_1627 : Cond.fieldLink "ForestCourtsModel" 115 "ForestCourtsModel" "manyOf" "[I" ∈ TT := in_tb (tb_7 (List.mem_of_getElem? (i := 65) rfl)) rfl
theorem tw_1628 : Cond.fieldLink "ForestCourtsModel" 118 "ForestCourtsModel" "pile" "[I" ∈ TT := in_tb (tb_7 (List.mem_of_getElem? (i := 66) rfl)) rfl
theorem tw_1629 : Cond.fieldLink "ForestCourtsModel" 534 "ForestCourtsModel" "wordText" "I" ∈ TT := in_tb (tb_7 (List.mem_of_getElem? (i := 67) rfl)) rfl
theorem tw_1630 : Cond.fieldLink "ForestCourtsModel" 537 "ForestCourtsModel" "wordClause" "I" ∈ TT := in_tb (tb_7 (List.mem_of_getElem? (i := 68) rfl)) rfl
theorem tw_1631 : Cond.fieldLink "ForestCourtsModel" 544 "ForestCourtsModel" "fineOf" "I" ∈ TT := in_tb (tb_7 (List.mem_of_getElem? (i := 69) rfl)) rfl
theorem tw_1632 : Cond.fieldLink "ForestCourtsModel" 540 "ForestCourtsModel" "isBar" "Z" ∈ TT := in_tb (tb_7 (List.mem_of_getElem? (i := 70) rfl)) rfl
theorem tw_1633 : Cond.fieldLink "ForestCourtsModel" 566 "ForestCourtsModel" "cases" "I" ∈ TT := in_tb (tb_7 (List.mem_of_getElem? (i := 71) rfl)) rfl
theorem tw_1634 : Cond.fieldLink "ForestCourtsModel" 121 "ForestCourtsModel" "caseDeed" "[I" ∈ TT := in_tb (tb_7 (List.mem_of_getElem? (i := 72) rfl)) rfl
theorem tw_1635 : Cond.fieldLink "ForestCourtsModel" 124 "ForestCourtsModel" "caseWarden" "[I" ∈ TT := in_tb (tb_7 (List.mem_of_getElem? (i := 73) rfl)) rfl
theorem tw_1636 : Cond.fieldLink "ForestCourtsModel" 127 "ForestCourtsModel" "pledge" "[I" ∈ TT := in_tb (tb_7 (List.mem_of_getElem? (i := 74) rfl)) rfl
theorem tw_1637 : Cond.fieldLink "ForestCourtsModel" 130 "ForestCourtsModel" "accused" "[I" ∈ TT := in_tb (tb_7 (List.mem_of_getElem? (i := 75) rfl)) rfl
theorem tw_1638 : Cond.fieldLink "ForestCourtsModel" 133 "ForestCourtsModel" "state" "[I" ∈ TT := in_tb (tb_7 (List.mem_of_getElem? (i := 76) rfl)) rfl
theorem tw_1639 : Cond.fieldLink "ForestCourtsModel" 136 "ForestCourtsModel" "since" "[I" ∈ TT := in_tb (tb_7 (List.mem_of_getElem? (i := 77) rfl)) rfl
theorem tw_1640 : Cond.fieldLink "ForestCourtsModel" 139 "ForestCourtsModel" "proofs" "[I" ∈ TT := in_tb (tb_7 (List.mem_of_getElem? (i := 78) rfl)) rfl
theorem tw_1641 : Cond.fieldLink "ForestCourtsModel" 142 "ForestCourtsModel" "owed" "[I" ∈ TT := in_tb (tb_7 (List.mem_of_getElem? (i := 79) rfl)) rfl
theorem tw_1642 : Cond.fieldLink "ForestCourtsModel" 145 "ForestCourtsModel" "paid" "[I" ∈ TT := in_tb (tb_7 (List.mem_of_getElem? (i := 80) rfl)) rfl
theorem tw_1643 : Cond.fieldLink "ForestCourtsModel" 148 "ForestCourtsModel" "got" "[I" ∈ TT := in_tb (tb_7 (List.mem_of_getElem? (i := 81) rfl)) rfl
theorem tw_1644 : Cond.fieldLink "ForestCourtsModel" 554 "ForestCourtsModel" "claims" "I" ∈ TT := in_tb (tb_7 (List.mem_of_getElem? (i := 82) rfl)) rfl
theorem tw_1645 : Cond.fieldLink "ForestCourtsModel" 151 "ForestCourtsModel" "claimer" "[I" ∈ TT := in_tb (tb_7 (List.mem_of_getElem? (i := 83) rfl)) rfl
theorem tw_1646 : Cond.fieldLink "ForestCourtsModel" 154 "ForestCourtsModel" "claimAct" "[I" ∈ TT := in_tb (tb_7 (List.mem_of_getElem? (i := 84) rfl)) rfl
theorem tw_1647 : Cond.fieldLink "ForestCourtsModel" 157 "ForestCourtsModel" "claimX" "[I" ∈ TT := in_tb (tb_7 (List.mem_of_getElem? (i := 85) rfl)) rfl
theorem tw_1648 : Cond.fieldLink "ForestCourtsModel" 160 "ForestCourtsModel" "claimY" "[I" ∈ TT := in_tb (tb_7 (List.mem_of_getElem? (i := 86) rfl)) rfl
theorem tw_1649 : Cond.fieldLink "ForestCourtsModel" 163 "ForestCourtsModel" "useMany" "[I" ∈ TT := in_tb (tb_7 (List.mem_of_getElem? (i := 87) rfl)) rfl
theorem tw_1650 : Cond.fieldLink "ForestCourtsModel" 166 "ForestCourtsModel" "useKind" "[I" ∈ TT := in_tb (tb_7 (List.mem_of_getElem? (i := 88) rfl)) rfl
theorem tw_1651 : Cond.fieldLink "ForestCourtsModel" 169 "ForestCourtsModel" "useDay" "[I" ∈ TT := in_tb (tb_7 (List.mem_of_getElem? (i := 89) rfl)) rfl
theorem tw_1652 : Cond.fieldLink "ForestCourtsModel" 172 "ForestCourtsModel" "entryMany" "[I" ∈ TT := in_tb (tb_7 (List.mem_of_getElem? (i := 90) rfl)) rfl
theorem tw_1653 : Cond.fieldLink "ForestCourtsModel" 175 "ForestCourtsModel" "entryCase" "[I" ∈ TT := in_tb (tb_7 (List.mem_of_getElem? (i := 91) rfl)) rfl
theorem tw_1654 : Cond.fieldLink "ForestCourtsModel" 178 "ForestCourtsModel" "entrySum" "[I" ∈ TT := in_tb (tb_7 (List.mem_of_getElem? (i := 92) rfl)) rfl
theorem tw_1655 : Cond.fieldLink "ForestCourtsModel" 181 "ForestCourtsModel" "listed" "[I" ∈ TT := in_tb (tb_7 (List.mem_of_getElem? (i := 93) rfl)) rfl
theorem tw_1656 : Cond.fieldLink "ForestCourtsModel" 184 "ForestCourtsModel" "ahead" "[I" ∈ TT := in_tb (tb_7 (List.mem_of_getElem? (i := 94) rfl)) rfl
theorem tw_1657 : Cond.fieldLink "ForestCourtsModel" 187 "ForestCourtsModel" "order" "[I" ∈ TT := in_tb (tb_7 (List.mem_of_getElem? (i := 95) rfl)) rfl
theorem tw_1658 : Cond.fieldLink "ForestCourtsModel" 190 "ForestCourtsModel" "bestOrder" "[I" ∈ TT := in_tb (tb_7 (List.mem_of_getElem? (i := 96) rfl)) rfl
theorem tw_1659 : Cond.fieldLink "ForestCourtsModel" 600 "ForestCourtsModel" "listedMany" "I" ∈ TT := in_tb (tb_7 (List.mem_of_getElem? (i := 97) rfl)) rfl
theorem tw_1660 : Cond.fieldLink "ForestCourtsModel" 606 "ForestCourtsModel" "bestQuarrel" "I" ∈ TT := in_tb (tb_7 (List.mem_of_getElem? (i := 98) rfl)) rfl
theorem tw_1661 : Cond.fieldLink "ForestCourtsModel" 193 "ForestCourtsModel" "hasLodge" "[Z" ∈ TT := in_tb (tb_7 (List.mem_of_getElem? (i := 99) rfl)) rfl
theorem tw_1662 : Cond.fieldLink "ForestCourtsModel" 196 "ForestCourtsModel" "lodgeX" "[I" ∈ TT := in_tb (tb_7 (List.mem_of_getElem? (i := 100) rfl)) rfl
theorem tw_1663 : Cond.fieldLink "ForestCourtsModel" 199 "ForestCourtsModel" "lodgeY" "[I" ∈ TT := in_tb (tb_7 (List.mem_of_getElem? (i := 101) rfl)) rfl
theorem tw_1664 : Cond.fieldLink "ForestCourtsModel" 202 "ForestCourtsModel" "reach" "[I" ∈ TT := in_tb (tb_7 (List.mem_of_getElem? (i := 102) rfl)) rfl
theorem tw_1665 : Cond.fieldLink "ForestCourtsModel" 622 "ForestCourtsModel" "spots" "I" ∈ TT := in_tb (tb_7 (List.mem_of_getElem? (i := 103) rfl)) rfl
theorem tw_1666 : Cond.fieldLink "ForestCourtsModel" 205 "ForestCourtsModel" "spotX" "[I" ∈ TT := in_tb (tb_7 (List.mem_of_getElem? (i := 104) rfl)) rfl
theorem tw_1667 : Cond.fieldLink "ForestCourtsModel" 208 "ForestCourtsModel" "spotY" "[I" ∈ TT := in_tb (tb_7 (List.mem_of_getElem? (i := 105) rfl)) rfl
theorem tw_1668 : Cond.fieldLink "ForestCourtsModel" 211 "ForestCourtsModel" "worth" "[I" ∈ TT := in_tb (tb_7 (List.mem_of_getElem? (i := 106) rfl)) rfl
theorem tw_1669 : Cond.fieldLink "ForestCourtsModel" 214 "ForestCourtsModel" "way" "[I" ∈ TT := in_tb (tb_7 (List.mem_of_getElem? (i := 107) rfl)) rfl
theorem tw_1670 : Cond.fieldLink "ForestCourtsModel" 217 "ForestCourtsModel" "canBe" "[Z" ∈ TT := in_tb (tb_7 (List.mem_of_getElem? (i := 108) rfl)) rfl
theorem tw_1671 : Cond.fieldLink "ForestCourtsModel" 220 "ForestCourtsModel" "who" "[I" ∈ TT := in_tb (tb_7 (List.mem_of_getElem? (i := 109) rfl)) rfl
theorem tw_1672 : Cond.fieldLink "ForestCourtsModel" 223 "ForestCourtsModel" "given" "[I" ∈ TT := in_tb (tb_7 (List.mem_of_getElem? (i := 110) rfl)) rfl
theorem tw_1673 : Cond.fieldLink "ForestCourtsModel" 226 "ForestCourtsModel" "bestGiven" "[I" ∈ TT := in_tb (tb_7 (List.mem_of_getElem? (i := 111) rfl)) rfl
theorem tw_1674 : Cond.fieldLink "ForestCourtsModel" 626 "ForestCourtsModel" "bestWorth" "I" ∈ TT := in_tb (tb_7 (List.mem_of_getElem? (i := 112) rfl)) rfl
theorem tw_1675 : Cond.fieldLink "ForestCourtsModel" 642 "ForestCourtsModel" "woods" "I" ∈ TT := in_tb (tb_7 (List.mem_of_getElem? (i := 113) rfl)) rfl
theorem tw_1676 : Cond.fieldLink "ForestCourtsModel" 648 "ForestCourtsModel" "takings" "I" ∈ TT := in_tb (tb_7 (List.mem_of_getElem? (i := 114) rfl)) rfl
theorem tw_1677 : Cond.fieldLink "ForestCourtsModel" 229 "ForestCourtsModel" "woodFrom" "[I" ∈ TT := in_tb (tb_7 (List.mem_of_getElem? (i := 115) rfl)) rfl
theorem tw_1678 : Cond.fieldLink "ForestCourtsModel" 232 "ForestCourtsModel" "oaks" "[I" ∈ TT := in_tb (tb_7 (List.mem_of_getElem? (i := 116) rfl)) rfl
theorem tw_1679 : Cond.fieldLink "ForestCourtsModel" 235 "ForestCourtsModel" "deer" "[I" ∈ TT := in_tb (tb_7 (List.mem_of_getElem? (i := 117) rfl)) rfl
theorem tw_1680 : Cond.fieldLink "ForestCourtsModel" 238 "ForestCourtsModel" "takeWood" "[I" ∈ TT := in_tb (tb_7 (List.mem_of_getElem? (i := 118) rfl)) rfl
theorem tw_1681 : Cond.fieldLink "ForestCourtsModel" 241 "ForestCourtsModel" "takeKind" "[I" ∈ TT := in_tb (tb_7 (List.mem_of_getElem? (i := 119) rfl)) rfl
theorem tw_1682 : Cond.fieldLink "ForestCourtsModel" 244 "ForestCourtsModel" "takeYear" "[I" ∈ TT := in_tb (tb_7 (List.mem_of_getElem? (i := 120) rfl)) rfl
theorem tw_1683 : Cond.fieldLink "ForestCourtsModel" 247 "ForestCourtsModel" "takeMany" "[I" ∈ TT := in_tb (tb_7 (List.mem_of_getElem? (i := 121) rfl)) rfl
theorem tw_1684 : Cond.fieldLink "ForestCourtsModel" 250 "ForestCourtsModel" "takeTold" "[I" ∈ TT := in_tb (tb_7 (List.mem_of_getElem? (i := 122) rfl)) rfl
theorem tw_1685 : Cond.lays "ForestCourtsModel" "ForestCourtsModel" "thrown" "I" ∈ TT := in_tb (tb_7 (List.mem_of_getElem? (i := 123) rfl)) rfl
theorem tw_1687 : Cond.lays "ForestCourtsModel" "ForestCourtsModel" "today" "I" ∈ TT := in_tb (tb_7 (List.mem_of_getElem? (i := 125) rfl)) rfl
theorem tw_1689 : Cond.lays "ForestCourtsModel" "ForestCourtsModel" "marks" "I" ∈ TT := in_tb (tb_7 (List.mem_of_getElem? (i := 127) rfl)) rfl
theorem tw_1691 : Cond.laysFinal "ForestCourtsModel" "ForestCourtsModel" "nameOf" "[I" ∈ TT := in_tb (tb_7 (List.mem_of_getElem? (i := 129) rfl)) rfl
theorem tw_1693 : Cond.laysFinal "ForestCourtsModel" "ForestCourtsModel" "markX" "[I" ∈ TT := in_tb (tb_7 (List.mem_of_getElem? (i := 131) rfl)) rfl
theorem tw_1695 : Cond.laysFinal "ForestCourtsModel" "ForestCourtsModel" "markY" "[I" ∈ TT := in_tb (tb_7 (List.mem_of_getElem? (i := 133) rfl)) rfl
theorem tw_1697 : Cond.laysFinal "ForestCourtsModel" "ForestCourtsModel" "tape" "[B" ∈ TT := in_tb (tb_7 (List.mem_of_getElem? (i := 135) rfl)) rfl
theorem tw_1699 : Cond.lays "ForestCourtsModel" "ForestCourtsModel" "taped" "I" ∈ TT := in_tb (tb_7 (List.mem_of_getElem? (i := 137) rfl)) rfl
theorem tw_1701 : Cond.laysFinal "ForestCourtsModel" "ForestCourtsModel" "row" "[I" ∈ TT := in_tb (tb_7 (List.mem_of_getElem? (i := 139) rfl)) rfl
theorem tw_1703 : Cond.lays "ForestCourtsModel" "ForestCourtsModel" "rowLong" "I" ∈ TT := in_tb (tb_7 (List.mem_of_getElem? (i := 141) rfl)) rfl
theorem tw_1705 : Cond.lays "ForestCourtsModel" "ForestCourtsModel" "rings" "I" ∈ TT := in_tb (tb_7 (List.mem_of_getElem? (i := 143) rfl)) rfl
theorem tw_1707 : Cond.lays "ForestCourtsModel" "ForestCourtsModel" "strip" "I" ∈ TT := in_tb (tb_7 (List.mem_of_getElem? (i := 145) rfl)) rfl
theorem tw_1709 : Cond.laysFinal "ForestCourtsModel" "ForestCourtsModel" "ringMarks" "[I" ∈ TT := in_tb (tb_7 (List.mem_of_getElem? (i := 147) rfl)) rfl
theorem tw_1711 : Cond.laysFinal "ForestCourtsModel" "ForestCourtsModel" "ringLong" "[I" ∈ TT := in_tb (tb_7 (List.mem_of_getElem? (i := 149) rfl)) rfl
theorem tw_1713 : Cond.laysFinal "ForestCourtsModel" "ForestCourtsModel" "ringFrom" "[I" ∈ TT := in_tb (tb_7 (List.mem_of_getElem? (i := 151) rfl)) rfl
theorem tw_1715 : Cond.laysFinal "ForestCourtsModel" "ForestCourtsModel" "ringTill" "[I" ∈ TT := in_tb (tb_7 (List.mem_of_getElem? (i := 153) rfl)) rfl
theorem tw_1717 : Cond.laysFinal "ForestCourtsModel" "ForestCourtsModel" "wanted" "[I" ∈ TT := in_tb (tb_7 (List.mem_of_getElem? (i := 155) rfl)) rfl
theorem tw_1719 : Cond.laysFinal "ForestCourtsModel" "ForestCourtsModel" "bestWalk" "[I" ∈ TT := in_tb (tb_7 (List.mem_of_getElem? (i := 157) rfl)) rfl
theorem tw_1721 : Cond.lays "ForestCourtsModel" "ForestCourtsModel" "walkedLong" "I" ∈ TT := in_tb (tb_7 (List.mem_of_getElem? (i := 159) rfl)) rfl
theorem tw_1723 : Cond.lays "ForestCourtsModel" "ForestCourtsModel" "walks" "I" ∈ TT := in_tb (tb_7 (List.mem_of_getElem? (i := 161) rfl)) rfl
theorem tw_1725 : Cond.lays "ForestCourtsModel" "ForestCourtsModel" "bestLength" "I" ∈ TT := in_tb (tb_7 (List.mem_of_getElem? (i := 163) rfl)) rfl
theorem tw_1727 : Cond.lays "ForestCourtsModel" "ForestCourtsModel" "texts" "I" ∈ TT := in_tb (tb_7 (List.mem_of_getElem? (i := 165) rfl)) rfl
theorem tw_1729 : Cond.lays "ForestCourtsModel" "ForestCourtsModel" "size" "I" ∈ TT := in_tb (tb_7 (List.mem_of_getElem? (i := 167) rfl)) rfl
theorem tw_1731 : Cond.lays "ForestCourtsModel" "ForestCourtsModel" "at" "I" ∈ TT := in_tb (tb_7 (List.mem_of_getElem? (i := 169) rfl)) rfl
theorem tw_1733 : Cond.lays "ForestCourtsModel" "ForestCourtsModel" "fault" "I" ∈ TT := in_tb (tb_7 (List.mem_of_getElem? (i := 171) rfl)) rfl
theorem tw_1735 : Cond.lays "ForestCourtsModel" "ForestCourtsModel" "place" "I" ∈ TT := in_tb (tb_7 (List.mem_of_getElem? (i := 173) rfl)) rfl
theorem tw_1737 : Cond.lays "ForestCourtsModel" "ForestCourtsModel" "open" "I" ∈ TT := in_tb (tb_7 (List.mem_of_getElem? (i := 175) rfl)) rfl
theorem tw_1739 : Cond.lays "ForestCourtsModel" "ForestCourtsModel" "codes" "I" ∈ TT := in_tb (tb_7 (List.mem_of_getElem? (i := 177) rfl)) rfl
theorem tw_1741 : Cond.laysFinal "ForestCourtsModel" "ForestCourtsModel" "textFrom" "[I" ∈ TT := in_tb (tb_7 (List.mem_of_getElem? (i := 179) rfl)) rfl
theorem tw_1743 : Cond.laysFinal "ForestCourtsModel" "ForestCourtsModel" "clauseMany" "[I" ∈ TT := in_tb (tb_7 (List.mem_of_getElem? (i := 181) rfl)) rfl
theorem tw_1745 : Cond.laysFinal "ForestCourtsModel" "ForestCourtsModel" "kind" "[I" ∈ TT := in_tb (tb_7 (List.mem_of_getElem? (i := 183) rfl)) rfl
theorem tw_1747 : Cond.laysFinal "ForestCourtsModel" "ForestCourtsModel" "what" "[I" ∈ TT := in_tb (tb_7 (List.mem_of_getElem? (i := 185) rfl)) rfl
theorem tw_1749 : Cond.laysFinal "ForestCourtsModel" "ForestCourtsModel" "begin" "[I" ∈ TT := in_tb (tb_7 (List.mem_of_getElem? (i := 187) rfl)) rfl
theorem tw_1751 : Cond.laysFinal "ForestCourtsModel" "ForestCourtsModel" "second" "[I" ∈ TT := in_tb (tb_7 (List.mem_of_getElem? (i := 189) rfl)) rfl
theorem tw_1753 : Cond.laysFinal "ForestCourtsModel" "ForestCourtsModel" "third" "[I" ∈ TT := in_tb (tb_7 (List.mem_of_getElem? (i := 191) rfl)) rfl
theorem tw_1755 : Cond.laysFinal "ForestCourtsModel" "ForestCourtsModel" "code" "[I" ∈ TT := in_tb (tb_7 (List.mem_of_getElem? (i := 193) rfl)) rfl
theorem tw_1757 : Cond.laysFinal "ForestCourtsModel" "ForestCourtsModel" "number" "[I" ∈ TT := in_tb (tb_7 (List.mem_of_getElem? (i := 195) rfl)) rfl
theorem tw_1759 : Cond.laysFinal "ForestCourtsModel" "ForestCourtsModel" "isForce" "[Z" ∈ TT := in_tb (tb_7 (List.mem_of_getElem? (i := 197) rfl)) rfl
theorem tw_1761 : Cond.lays "ForestCourtsModel" "ForestCourtsModel" "people" "I" ∈ TT := in_tb (tb_7 (List.mem_of_getElem? (i := 199) rfl)) rfl
theorem tw_1763 : Cond.lays "ForestCourtsModel" "ForestCourtsModel" "chest" "I" ∈ TT := in_tb (tb_7 (List.mem_of_getElem? (i := 201) rfl)) rfl
theorem tw_1765 : Cond.laysFinal "ForestCourtsModel" "ForestCourtsModel" "rank" "[I" ∈ TT := in_tb (tb_7 (List.mem_of_getElem? (i := 203) rfl)) rfl
theorem tw_1767 : Cond.laysFinal "ForestCourtsModel" "ForestCourtsModel" "coins" "[I" ∈ TT := in_tb (tb_7 (List.mem_of_getElem? (i := 205) rfl)) rfl
theorem tw_1769 : Cond.laysFinal "ForestCourtsModel" "ForestCourtsModel" "heirOf" "[I" ∈ TT := in_tb (tb_7 (List.mem_of_getElem? (i := 207) rfl)) rfl
theorem tw_1771 : Cond.laysFinal "ForestCourtsModel" "ForestCourtsModel" "died" "[I" ∈ TT := in_tb (tb_7 (List.mem_of_getElem? (i := 209) rfl)) rfl
theorem tw_1773 : Cond.lays "ForestCourtsModel" "ForestCourtsModel" "wardens" "I" ∈ TT := in_tb (tb_7 (List.mem_of_getElem? (i := 211) rfl)) rfl
theorem tw_1775 : Cond.laysFinal "ForestCourtsModel" "ForestCourtsModel" "wardenIs" "[I" ∈ TT := in_tb (tb_7 (List.mem_of_getElem? (i := 213) rfl)) rfl
theorem tw_1777 : Cond.laysFinal "ForestCourtsModel" "ForestCourtsModel" "weight" "[I" ∈ TT := in_tb (tb_7 (List.mem_of_getElem? (i := 215) rfl)) rfl
theorem tw_1779 : Cond.laysFinal "ForestCourtsModel" "ForestCourtsModel" "share" "[I" ∈ TT := in_tb (tb_7 (List.mem_of_getElem? (i := 217) rfl)) rfl
theorem tw_1781 : Cond.lays "ForestCourtsModel" "ForestCourtsModel" "deeds" "I" ∈ TT := in_tb (tb_7 (List.mem_of_getElem? (i := 219) rfl)) rfl
theorem tw_1783 : Cond.laysFinal "ForestCourtsModel" "ForestCourtsModel" "doer" "[I" ∈ TT := in_tb (tb_7 (List.mem_of_getElem? (i := 221) rfl)) rfl
theorem tw_1785 : Cond.laysFinal "ForestCourtsModel" "ForestCourtsModel" "actOf" "[I" ∈ TT := in_tb (tb_7 (List.mem_of_getElem? (i := 223) rfl)) rfl
theorem tw_1787 : Cond.laysFinal "ForestCourtsModel" "ForestCourtsModel" "deedX" "[I" ∈ TT := in_tb (tb_7 (List.mem_of_getElem? (i := 225) rfl)) rfl
theorem tw_1789 : Cond.laysFinal "ForestCourtsModel" "ForestCourtsModel" "deedY" "[I" ∈ TT := in_tb (tb_7 (List.mem_of_getElem? (i := 227) rfl)) rfl
theorem tw_1791 : Cond.laysFinal "ForestCourtsModel" "ForestCourtsModel" "deedDay" "[I" ∈ TT := in_tb (tb_7 (List.mem_of_getElem? (i := 229) rfl)) rfl
theorem tw_1793 : Cond.laysFinal "ForestCourtsModel" "ForestCourtsModel" "manyOf" "[I" ∈ TT := in_tb (tb_7 (List.mem_of_getElem? (i := 231) rfl)) rfl
theorem tw_1795 : Cond.laysFinal "ForestCourtsModel" "ForestCourtsModel" "pile" "[I" ∈ TT := in_tb (tb_7 (List.mem_of_getElem? (i := 233) rfl)) rfl
theorem tw_1797 : Cond.lays "ForestCourtsModel" "ForestCourtsModel" "wordText" "I" ∈ TT := in_tb (tb_7 (List.mem_of_getElem? (i := 235) rfl)) rfl
theorem tw_1799 : Cond.lays "ForestCourtsModel" "ForestCourtsModel" "wordClause" "I" ∈ TT := in_tb (tb_7 (List.mem_of_getElem? (i := 237) rfl)) rfl
theorem tw_1801 : Cond.lays "ForestCourtsModel" "ForestCourtsModel" "fineOf" "I" ∈ TT := in_tb (tb_7 (List.mem_of_getElem? (i := 239) rfl)) rfl
theorem tw_1803 : Cond.lays "ForestCourtsModel" "ForestCourtsModel" "isBar" "Z" ∈ TT := in_tb (tb_8 (List.mem_of_getElem? (i := 1) rfl)) rfl
theorem tw_1805 : Cond.lays "ForestCourtsModel" "ForestCourtsModel" "cases" "I" ∈ TT := in_tb (tb_8 (List.mem_of_getElem? (i := 3) rfl)) rfl
theorem tw_1807 : Cond.laysFinal "ForestCourtsModel" "ForestCourtsModel" "caseDeed" "[I" ∈ TT := in_tb (tb_8 (List.mem_of_getElem? (i := 5) rfl)) rfl
theorem tw_1809 : Cond.laysFinal "ForestCourtsModel" "ForestCourtsModel" "caseWarden" "[I" ∈ TT := in_tb (tb_8 (List.mem_of_getElem? (i := 7) rfl)) rfl
theorem tw_1811 : Cond.laysFinal "ForestCourtsModel" "ForestCourtsModel" "pledge" "[I" ∈ TT := in_tb (tb_8 (List.mem_of_getElem? (i := 9) rfl)) rfl
theorem tw_1813 : Cond.laysFinal "ForestCourtsModel" "ForestCourtsModel" "accused" "[I" ∈ TT := in_tb (tb_8 (List.mem_of_getElem? (i := 11) rfl)) rfl
theorem tw_1815 : Cond.laysFinal "ForestCourtsModel" "ForestCourtsModel" "state" "[I" ∈ TT := in_tb (tb_8 (List.mem_of_getElem? (i := 13) rfl)) rfl
theorem tw_1817 : Cond.laysFinal "ForestCourtsModel" "ForestCourtsModel" "since" "[I" ∈ TT := in_tb (tb_8 (List.mem_of_getElem? (i := 15) rfl)) rfl
theorem tw_1819 : Cond.laysFinal "ForestCourtsModel" "ForestCourtsModel" "proofs" "[I" ∈ TT := in_tb (tb_8 (List.mem_of_getElem? (i := 17) rfl)) rfl
theorem tw_1821 : Cond.laysFinal "ForestCourtsModel" "ForestCourtsModel" "owed" "[I" ∈ TT := in_tb (tb_8 (List.mem_of_getElem? (i := 19) rfl)) rfl
theorem tw_1823 : Cond.laysFinal "ForestCourtsModel" "ForestCourtsModel" "paid" "[I" ∈ TT := in_tb (tb_8 (List.mem_of_getElem? (i := 21) rfl)) rfl
theorem tw_1825 : Cond.laysFinal "ForestCourtsModel" "ForestCourtsModel" "got" "[I" ∈ TT := in_tb (tb_8 (List.mem_of_getElem? (i := 23) rfl)) rfl
theorem tw_1827 : Cond.lays "ForestCourtsModel" "ForestCourtsModel" "claims" "I" ∈ TT := in_tb (tb_8 (List.mem_of_getElem? (i := 25) rfl)) rfl
theorem tw_1829 : Cond.laysFinal "ForestCourtsModel" "ForestCourtsModel" "claimer" "[I" ∈ TT := in_tb (tb_8 (List.mem_of_getElem? (i := 27) rfl)) rfl
theorem tw_1831 : Cond.laysFinal "ForestCourtsModel" "ForestCourtsModel" "claimAct" "[I" ∈ TT := in_tb (tb_8 (List.mem_of_getElem? (i := 29) rfl)) rfl
theorem tw_1833 : Cond.laysFinal "ForestCourtsModel" "ForestCourtsModel" "claimX" "[I" ∈ TT := in_tb (tb_8 (List.mem_of_getElem? (i := 31) rfl)) rfl
theorem tw_1835 : Cond.laysFinal "ForestCourtsModel" "ForestCourtsModel" "claimY" "[I" ∈ TT := in_tb (tb_8 (List.mem_of_getElem? (i := 33) rfl)) rfl
theorem tw_1837 : Cond.laysFinal "ForestCourtsModel" "ForestCourtsModel" "useMany" "[I" ∈ TT := in_tb (tb_8 (List.mem_of_getElem? (i := 35) rfl)) rfl
theorem tw_1839 : Cond.laysFinal "ForestCourtsModel" "ForestCourtsModel" "useKind" "[I" ∈ TT := in_tb (tb_8 (List.mem_of_getElem? (i := 37) rfl)) rfl
theorem tw_1841 : Cond.laysFinal "ForestCourtsModel" "ForestCourtsModel" "useDay" "[I" ∈ TT := in_tb (tb_8 (List.mem_of_getElem? (i := 39) rfl)) rfl
theorem tw_1843 : Cond.laysFinal "ForestCourtsModel" "ForestCourtsModel" "entryMany" "[I" ∈ TT := in_tb (tb_8 (List.mem_of_getElem? (i := 41) rfl)) rfl
theorem tw_1845 : Cond.laysFinal "ForestCourtsModel" "ForestCourtsModel" "entryCase" "[I" ∈ TT := in_tb (tb_8 (List.mem_of_getElem? (i := 43) rfl)) rfl
theorem tw_1847 : Cond.laysFinal "ForestCourtsModel" "ForestCourtsModel" "entrySum" "[I" ∈ TT := in_tb (tb_8 (List.mem_of_getElem? (i := 45) rfl)) rfl
theorem tw_1849 : Cond.laysFinal "ForestCourtsModel" "ForestCourtsModel" "listed" "[I" ∈ TT := in_tb (tb_8 (List.mem_of_getElem? (i := 47) rfl)) rfl
theorem tw_1851 : Cond.laysFinal "ForestCourtsModel" "ForestCourtsModel" "ahead" "[I" ∈ TT := in_tb (tb_8 (List.mem_of_getElem? (i := 49) rfl)) rfl
theorem tw_1853 : Cond.laysFinal "ForestCourtsModel" "ForestCourtsModel" "order" "[I" ∈ TT := in_tb (tb_8 (List.mem_of_getElem? (i := 51) rfl)) rfl
theorem tw_1855 : Cond.laysFinal "ForestCourtsModel" "ForestCourtsModel" "bestOrder" "[I" ∈ TT := in_tb (tb_8 (List.mem_of_getElem? (i := 53) rfl)) rfl
theorem tw_1857 : Cond.lays "ForestCourtsModel" "ForestCourtsModel" "listedMany" "I" ∈ TT := in_tb (tb_8 (List.mem_of_getElem? (i := 55) rfl)) rfl
theorem tw_1859 : Cond.lays "ForestCourtsModel" "ForestCourtsModel" "bestQuarrel" "I" ∈ TT := in_tb (tb_8 (List.mem_of_getElem? (i := 57) rfl)) rfl
theorem tw_1861 : Cond.laysFinal "ForestCourtsModel" "ForestCourtsModel" "hasLodge" "[Z" ∈ TT := in_tb (tb_8 (List.mem_of_getElem? (i := 59) rfl)) rfl
theorem tw_1863 : Cond.laysFinal "ForestCourtsModel" "ForestCourtsModel" "lodgeX" "[I" ∈ TT := in_tb (tb_8 (List.mem_of_getElem? (i := 61) rfl)) rfl
theorem tw_1865 : Cond.laysFinal "ForestCourtsModel" "ForestCourtsModel" "lodgeY" "[I" ∈ TT := in_tb (tb_8 (List.mem_of_getElem? (i := 63) rfl)) rfl
theorem tw_1867 : Cond.laysFinal "ForestCourtsModel" "ForestCourtsModel" "reach" "[I" ∈ TT := in_tb (tb_8 (List.mem_of_getElem? (i := 65) rfl)) rfl
theorem tw_1869 : Cond.lays "ForestCourtsModel" "ForestCourtsModel" "spots" "I" ∈ TT := in_tb (tb_8 (List.mem_of_getElem? (i := 67) rfl)) rfl
theorem tw_1871 : Cond.laysFinal "ForestCourtsModel" "ForestCourtsModel" "spotX" "[I" ∈ TT := in_tb (tb_8 (List.mem_of_getElem? (i := 69) rfl)) rfl
theorem tw_1873 : Cond.laysFinal "ForestCourtsModel" "ForestCourtsModel" "spotY" "[I" ∈ TT := in_tb (tb_8 (List.mem_of_getElem? (i := 71) rfl)) rfl
theorem tw_1875 : Cond.laysFinal "ForestCourtsModel" "ForestCourtsModel" "worth" "[I" ∈ TT := in_tb (tb_8 (List.mem_of_getElem? (i := 73) rfl)) rfl
theorem tw_1877 : Cond.laysFinal "ForestCourtsModel" "ForestCourtsModel" "way" "[I" ∈ TT := in_tb (tb_8 (List.mem_of_getElem? (i := 75) rfl)) rfl
theorem tw_1879 : Cond.laysFinal "ForestCourtsModel" "ForestCourtsModel" "canBe" "[Z" ∈ TT := in_tb (tb_8 (List.mem_of_getElem? (i := 77) rfl)) rfl
theorem tw_1881 : Cond.laysFinal "ForestCourtsModel" "ForestCourtsModel" "who" "[I" ∈ TT := in_tb (tb_8 (List.mem_of_getElem? (i := 79) rfl)) rfl
theorem tw_1883 : Cond.laysFinal "ForestCourtsModel" "ForestCourtsModel" "given" "[I" ∈ TT := in_tb (tb_8 (List.mem_of_getElem? (i := 81) rfl)) rfl
theorem tw_1885 : Cond.laysFinal "ForestCourtsModel" "ForestCourtsModel" "bestGiven" "[I" ∈ TT := in_tb (tb_8 (List.mem_of_getElem? (i := 83) rfl)) rfl
theorem tw_1887 : Cond.lays "ForestCourtsModel" "ForestCourtsModel" "bestWorth" "I" ∈ TT := in_tb (tb_8 (List.mem_of_getElem? (i := 85) rfl)) rfl
theorem tw_1889 : Cond.lays "ForestCourtsModel" "ForestCourtsModel" "woods" "I" ∈ TT := in_tb (tb_8 (List.mem_of_getElem? (i := 87) rfl)) rfl
theorem tw_1891 : Cond.lays "ForestCourtsModel" "ForestCourtsModel" "takings" "I" ∈ TT := in_tb (tb_8 (List.mem_of_getElem? (i := 89) rfl)) rfl
theorem tw_1893 : Cond.laysFinal "ForestCourtsModel" "ForestCourtsModel" "woodFrom" "[I" ∈ TT := in_tb (tb_8 (List.mem_of_getElem? (i := 91) rfl)) rfl
theorem tw_1895 : Cond.laysFinal "ForestCourtsModel" "ForestCourtsModel" "oaks" "[I" ∈ TT := in_tb (tb_8 (List.mem_of_getElem? (i := 93) rfl)) rfl
theorem tw_1897 : Cond.laysFinal "ForestCourtsModel" "ForestCourtsModel" "deer" "[I" ∈ TT := in_tb (tb_8 (List.mem_of_getElem? (i := 95) rfl)) rfl
theorem tw_1899 : Cond.laysFinal "ForestCourtsModel" "ForestCourtsModel" "takeWood" "[I" ∈ TT := in_tb (tb_8 (List.mem_of_getElem? (i := 97) rfl)) rfl
theorem tw_1901 : Cond.laysFinal "ForestCourtsModel" "ForestCourtsModel" "takeKind" "[I" ∈ TT := in_tb (tb_8 (List.mem_of_getElem? (i := 99) rfl)) rfl
theorem tw_1903 : Cond.laysFinal "ForestCourtsModel" "ForestCourtsModel" "takeYear" "[I" ∈ TT := in_tb (tb_8 (List.mem_of_getElem? (i := 101) rfl)) rfl
theorem tw_1905 : Cond.laysFinal "ForestCourtsModel" "ForestCourtsModel" "takeMany" "[I" ∈ TT := in_tb (tb_8 (List.mem_of_getElem? (i := 103) rfl)) rfl
theorem tw_1907 : Cond.laysFinal "ForestCourtsModel" "ForestCourtsModel" "takeTold" "[I" ∈ TT := in_tb (tb_8 (List.mem_of_getElem? (i := 105) rfl)) rfl
theorem tw_1910 : Cond.methodLink "ForestCourtsLaw" 134 ⟨"ForestCourtsModel", "thrown", "()I"⟩ ∈ TT := in_tb (tb_8 (List.mem_of_getElem? (i := 108) rfl)) rfl
theorem tw_1911 : Cond.instanceMethod ⟨"ForestCourtsModel", "thrown", "()I"⟩ ∈ TT := in_tb (tb_8 (List.mem_of_getElem? (i := 109) rfl)) rfl
theorem tw_1912 : Cond.selects "ForestCourtsModel" ⟨"ForestCourtsModel", "thrown", "()I"⟩ ⟨"ForestCourtsModel", "thrown", "()I"⟩ ∈ TT := in_tb (tb_8 (List.mem_of_getElem? (i := 110) rfl)) rfl
theorem tw_1913 : Cond.code ⟨"ForestCourtsModel", "thrown", "()I"⟩ prog_14_method_2_code 1 (Option.some FieldType.int) ∈ TT := in_tb (tb_8 (List.mem_of_getElem? (i := 111) rfl)) rfl
theorem tw_1914 : Cond.methodLink "ForestCourtsLaw" 141 ⟨"ForestCourtsModel", "mark", "(III)I"⟩ ∈ TT := in_tb (tb_8 (List.mem_of_getElem? (i := 112) rfl)) rfl
theorem tw_1915 : Cond.instanceMethod ⟨"ForestCourtsModel", "mark", "(III)I"⟩ ∈ TT := in_tb (tb_8 (List.mem_of_getElem? (i := 113) rfl)) rfl
theorem tw_1916 : Cond.selects "ForestCourtsModel" ⟨"ForestCourtsModel", "mark", "(III)I"⟩ ⟨"ForestCourtsModel", "mark", "(III)I"⟩ ∈ TT := in_tb (tb_8 (List.mem_of_getElem? (i := 114) rfl)) rfl
theorem tw_1917 : Cond.code ⟨"ForestCourtsModel", "mark", "(III)I"⟩ prog_14_method_8_code 6 (Option.some FieldType.int) ∈ TT := in_tb (tb_8 (List.mem_of_getElem? (i := 115) rfl)) rfl
theorem tw_1918 : Cond.methodLink "ForestCourtsModel" 257 ⟨"ForestCourtsModel", "in", "(III)Z"⟩ ∈ TT := in_tb (tb_8 (List.mem_of_getElem? (i := 116) rfl)) rfl
theorem tw_1919 : Cond.static ⟨"ForestCourtsModel", "in", "(III)Z"⟩ ∈ TT := in_tb (tb_8 (List.mem_of_getElem? (i := 117) rfl)) rfl
theorem tw_1920 : Cond.code ⟨"ForestCourtsModel", "in", "(III)Z"⟩ prog_14_method_4_code 3 (Option.some FieldType.boolean) ∈ TT := in_tb (tb_8 (List.mem_of_getElem? (i := 118) rfl)) rfl
theorem tw_1921 : Cond.methodLink "ForestCourtsModel" 261 ⟨"ForestCourtsModel", "isPlace", "(II)Z"⟩ ∈ TT := in_tb (tb_8 (List.mem_of_getElem? (i := 119) rfl)) rfl
theorem tw_1922 : Cond.static ⟨"ForestCourtsModel", "isPlace", "(II)Z"⟩ ∈ TT := in_tb (tb_8 (List.mem_of_getElem? (i := 120) rfl)) rfl
theorem tw_1923 : Cond.code ⟨"ForestCourtsModel", "isPlace", "(II)Z"⟩ prog_14_method_6_code 2 (Option.some FieldType.boolean) ∈ TT := in_tb (tb_8 (List.mem_of_getElem? (i := 121) rfl)) rfl
theorem tw_1924 : Cond.methodLink "ForestCourtsModel" 265 ⟨"ForestCourtsModel", "bad", "(ZI)Z"⟩ ∈ TT := in_tb (tb_8 (List.mem_of_getElem? (i := 122) rfl)) rfl
theorem tw_1926 : Cond.instanceMethod ⟨"ForestCourtsModel", "bad", "(ZI)Z"⟩ ∈ TT := in_tb (tb_8 (List.mem_of_getElem? (i := 124) rfl)) rfl
theorem tw_1927 : Cond.code ⟨"ForestCourtsModel", "bad", "(ZI)Z"⟩ prog_14_method_3_code 3 (Option.some FieldType.boolean) ∈ TT := in_tb (tb_8 (List.mem_of_getElem? (i := 125) rfl)) rfl
theorem tw_1928 : Cond.methodLink "ForestCourtsLaw" 146 ⟨"ForestCourtsModel", "feed", "(IIIII)I"⟩ ∈ TT := in_tb (tb_8 (List.mem_of_getElem? (i := 126) rfl)) rfl
theorem tw_1929 : Cond.instanceMethod ⟨"ForestCourtsModel", "feed", "(IIIII)I"⟩ ∈ TT := in_tb (tb_8 (List.mem_of_getElem? (i := 127) rfl)) rfl
theorem tw_1930 : Cond.selects "ForestCourtsModel" ⟨"ForestCourtsModel", "feed", "(IIIII)I"⟩ ⟨"ForestCourtsModel", "feed", "(IIIII)I"⟩ ∈ TT := in_tb (tb_8 (List.mem_of_getElem? (i := 128) rfl)) rfl
theorem tw_1931 : Cond.code ⟨"ForestCourtsModel", "feed", "(IIIII)I"⟩ prog_14_method_9_code 9 (Option.some FieldType.int) ∈ TT := in_tb (tb_8 (List.mem_of_getElem? (i := 129) rfl)) rfl
theorem tw_1932 : Cond.methodLink "ForestCourtsLaw" 150 ⟨"ForestCourtsModel", "ring", "(II)I"⟩ ∈ TT := in_tb (tb_8 (List.mem_of_getElem? (i := 130) rfl)) rfl
theorem tw_1933 : Cond.instanceMethod ⟨"ForestCourtsModel", "ring", "(II)I"⟩ ∈ TT := in_tb (tb_8 (List.mem_of_getElem? (i := 131) rfl)) rfl
theorem tw_1934 : Cond.selects "ForestCourtsModel" ⟨"ForestCourtsModel", "ring", "(II)I"⟩ ⟨"ForestCourtsModel", "ring", "(II)I"⟩ ∈ TT := in_tb (tb_8 (List.mem_of_getElem? (i := 132) rfl)) rfl
theorem tw_1935 : Cond.code ⟨"ForestCourtsModel", "ring", "(II)I"⟩ prog_14_method_17_code 4 (Option.some FieldType.int) ∈ TT := in_tb (tb_8 (List.mem_of_getElem? (i := 133) rfl)) rfl
theorem tw_1936 : Cond.methodLink "ForestCourtsModel" 298 ⟨"ForestCourtsModel", "isDay", "(I)Z"⟩ ∈ TT := in_tb (tb_8 (List.mem_of_getElem? (i := 134) rfl)) rfl
theorem tw_1937 : Cond.static ⟨"ForestCourtsModel", "isDay", "(I)Z"⟩ ∈ TT := in_tb (tb_8 (List.mem_of_getElem? (i := 135) rfl)) rfl
theorem tw_1938 : Cond.code ⟨"ForestCourtsModel", "isDay", "(I)Z"⟩ prog_14_method_5_code 1 (Option.some FieldType.boolean) ∈ TT := in_tb (tb_8 (List.mem_of_getElem? (i := 136) rfl)) rfl
theorem tw_1939 : Cond.constant "ForestCourtsModel" 256 (100000) ∈ TT := in_tb (tb_8 (List.mem_of_getElem? (i := 137) rfl)) rfl
theorem tw_1940 : Cond.methodLink "ForestCourtsModel" 305 ⟨"ForestCourtsModel", "isSimple", "()Z"⟩ ∈ TT := in_tb (tb_8 (List.mem_of_getElem? (i := 138) rfl)) rfl
theorem tw_1942 : Cond.instanceMethod ⟨"ForestCourtsModel", "isSimple", "()Z"⟩ ∈ TT := in_tb (tb_8 (List.mem_of_getElem? (i := 140) rfl)) rfl
theorem tw_1943 : Cond.code ⟨"ForestCourtsModel", "isSimple", "()Z"⟩ prog_14_method_16_code 3 (Option.some FieldType.boolean) ∈ TT := in_tb (tb_8 (List.mem_of_getElem? (i := 141) rfl)) rfl
theorem tw_1944 : Cond.methodLink "ForestCourtsModel" 278 ⟨"ForestCourtsModel", "x", "(I)I"⟩ ∈ TT := in_tb (tb_8 (List.mem_of_getElem? (i := 142) rfl)) rfl
theorem tw_1946 : Cond.instanceMethod ⟨"ForestCourtsModel", "x", "(I)I"⟩ ∈ TT := in_tb (tb_8 (List.mem_of_getElem? (i := 144) rfl)) rfl
theorem tw_1947 : Cond.code ⟨"ForestCourtsModel", "x", "(I)I"⟩ prog_14_method_10_code 2 (Option.some FieldType.int) ∈ TT := in_tb (tb_8 (List.mem_of_getElem? (i := 145) rfl)) rfl
theorem tw_1948 : Cond.methodLink "ForestCourtsModel" 282 ⟨"ForestCourtsModel", "y", "(I)I"⟩ ∈ TT := in_tb (tb_8 (List.mem_of_getElem? (i := 146) rfl)) rfl
theorem tw_1950 : Cond.instanceMethod ⟨"ForestCourtsModel", "y", "(I)I"⟩ ∈ TT := in_tb (tb_8 (List.mem_of_getElem? (i := 148) rfl)) rfl
theorem tw_1951 : Cond.code ⟨"ForestCourtsModel", "y", "(I)I"⟩ prog_14_method_11_code 2 (Option.some FieldType.int) ∈ TT := in_tb (tb_8 (List.mem_of_getElem? (i := 149) rfl)) rfl
theorem tw_1952 : Cond.methodLink "ForestCourtsModel" 292 ⟨"ForestCourtsModel", "isOn", "(III)Z"⟩ ∈ TT := in_tb (tb_8 (List.mem_of_getElem? (i := 150) rfl)) rfl
theorem tw_1954 : Cond.instanceMethod ⟨"ForestCourtsModel", "isOn", "(III)Z"⟩ ∈ TT := in_tb (tb_8 (List.mem_of_getElem? (i := 152) rfl)) rfl
theorem tw_1955 : Cond.code ⟨"ForestCourtsModel", "isOn", "(III)Z"⟩ prog_14_method_14_code 4 (Option.some FieldType.boolean) ∈ TT := in_tb (tb_8 (List.mem_of_getElem? (i := 153) rfl)) rfl
theorem tw_1956 : Cond.methodLink "ForestCourtsModel" 285 ⟨"ForestCourtsModel", "turn", "(IIIIII)I"⟩ ∈ TT := in_tb (tb_8 (List.mem_of_getElem? (i := 154) rfl)) rfl
theorem tw_1957 : Cond.static ⟨"ForestCourtsModel", "turn", "(IIIIII)I"⟩ ∈ TT := in_tb (tb_8 (List.mem_of_getElem? (i := 155) rfl)) rfl
theorem tw_1958 : Cond.code ⟨"ForestCourtsModel", "turn", "(IIIIII)I"⟩ prog_14_method_12_code 7 (Option.some FieldType.int) ∈ TT := in_tb (tb_8 (List.mem_of_getElem? (i := 156) rfl)) rfl
theorem tw_1959 : Cond.methodLink "ForestCourtsModel" 289 ⟨"ForestCourtsModel", "isBetween", "(III)Z"⟩ ∈ TT := in_tb (tb_8 (List.mem_of_getElem? (i := 157) rfl)) rfl
theorem tw_1960 : Cond.static ⟨"ForestCourtsModel", "isBetween", "(III)Z"⟩ ∈ TT := in_tb (tb_8 (List.mem_of_getElem? (i := 158) rfl)) rfl
theorem tw_1961 : Cond.code ⟨"ForestCourtsModel", "isBetween", "(III)Z"⟩ prog_14_method_13_code 3 (Option.some FieldType.boolean) ∈ TT := in_tb (tb_8 (List.mem_of_getElem? (i := 159) rfl)) rfl
theorem tw_1962 : Cond.methodLink "ForestCourtsModel" 295 ⟨"ForestCourtsModel", "isMet", "(II)Z"⟩ ∈ TT := in_tb (tb_8 (List.mem_of_getElem? (i := 160) rfl)) rfl
theorem tw_1964 : Cond.instanceMethod ⟨"ForestCourtsModel", "isMet", "(II)Z"⟩ ∈ TT := in_tb (tb_8 (List.mem_of_getElem? (i := 162) rfl)) rfl
theorem tw_1965 : Cond.code ⟨"ForestCourtsModel", "isMet", "(II)Z"⟩ prog_14_method_15_code 7 (Option.some FieldType.boolean) ∈ TT := in_tb (tb_8 (List.mem_of_getElem? (i := 163) rfl)) rfl
theorem tw_1966 : Cond.methodLink "ForestCourtsLaw" 153 ⟨"ForestCourtsModel", "unring", "(II)I"⟩ ∈ TT := in_tb (tb_8 (List.mem_of_getElem? (i := 164) rfl)) rfl
theorem tw_1967 : Cond.instanceMethod ⟨"ForestCourtsModel", "unring", "(II)I"⟩ ∈ TT := in_tb (tb_8 (List.mem_of_getElem? (i := 165) rfl)) rfl
theorem tw_1968 : Cond.selects "ForestCourtsModel" ⟨"ForestCourtsModel", "unring", "(II)I"⟩ ⟨"ForestCourtsModel", "unring", "(II)I"⟩ ∈ TT := in_tb (tb_8 (List.mem_of_getElem? (i := 166) rfl)) rfl
theorem tw_1969 : Cond.code ⟨"ForestCourtsModel", "unring", "(II)I"⟩ prog_14_method_18_code 4 (Option.some FieldType.int) ∈ TT := in_tb (tb_8 (List.mem_of_getElem? (i := 167) rfl)) rfl
theorem tw_1970 : Cond.methodLink "ForestCourtsLaw" 156 ⟨"ForestCourtsModel", "strip", "(I)I"⟩ ∈ TT := in_tb (tb_8 (List.mem_of_getElem? (i := 168) rfl)) rfl
theorem tw_1971 : Cond.instanceMethod ⟨"ForestCourtsModel", "strip", "(I)I"⟩ ∈ TT := in_tb (tb_8 (List.mem_of_getElem? (i := 169) rfl)) rfl
theorem tw_1972 : Cond.selects "ForestCourtsModel" ⟨"ForestCourtsModel", "strip", "(I)I"⟩ ⟨"ForestCourtsModel", "strip", "(I)I"⟩ ∈ TT := in_tb (tb_8 (List.mem_of_getElem? (i := 170) rfl)) rfl
theorem tw_1973 : Cond.code ⟨"ForestCourtsModel", "strip", "(I)I"⟩ prog_14_method_19_code 3 (Option.some FieldType.int) ∈ TT := in_tb (tb_8 (List.mem_of_getElem? (i := 171) rfl)) rfl
theorem tw_1974 : Cond.methodLink "ForestCourtsLaw" 159 ⟨"ForestCourtsModel", "bounds", "(I)I"⟩ ∈ TT := in_tb (tb_8 (List.mem_of_getElem? (i := 172) rfl)) rfl
theorem tw_1975 : Cond.instanceMethod ⟨"ForestCourtsModel", "bounds", "(I)I"⟩ ∈ TT := in_tb (tb_8 (List.mem_of_getElem? (i := 173) rfl)) rfl
theorem tw_1976 : Cond.selects "ForestCourtsModel" ⟨"ForestCourtsModel", "bounds", "(I)I"⟩ ⟨"ForestCourtsModel", "bounds", "(I)I"⟩ ∈ TT := in_tb (tb_8 (List.mem_of_getElem? (i := 174) rfl)) rfl
theorem tw_1977 : Cond.code ⟨"ForestCourtsModel", "bounds", "(I)I"⟩ prog_14_method_21_code 2 (Option.some FieldType.int) ∈ TT := in_tb (tb_8 (List.mem_of_getElem? (i := 175) rfl)) rfl
theorem tw_1978 : Cond.methodLink "ForestCourtsModel" 312 ⟨"ForestCourtsModel", "boundsOf", "(I)I"⟩ ∈ TT := in_tb (tb_8 (List.mem_of_getElem? (i := 176) rfl)) rfl
theorem tw_1980 : Cond.instanceMethod ⟨"ForestCourtsModel", "boundsOf", "(I)I"⟩ ∈ TT := in_tb (tb_8 (List.mem_of_getElem? (i := 178) rfl)) rfl
theorem tw_1981 : Cond.code ⟨"ForestCourtsModel", "boundsOf", "(I)I"⟩ prog_14_method_20_code 4 (Option.some FieldType.int) ∈ TT := in_tb (tb_8 (List.mem_of_getElem? (i := 179) rfl)) rfl
theorem tw_1982 : Cond.methodLink "ForestCourtsLaw" 162 ⟨"ForestCourtsModel", "where", "(III)I"⟩ ∈ TT := in_tb (tb_8 (List.mem_of_getElem? (i := 180) rfl)) rfl
theorem tw_1983 : Cond.instanceMethod ⟨"ForestCourtsModel", "where", "(III)I"⟩ ∈ TT := in_tb (tb_8 (List.mem_of_getElem? (i := 181) rfl)) rfl
theorem tw_1984 : Cond.selects "ForestCourtsModel" ⟨"ForestCourtsModel", "where", "(III)I"⟩ ⟨"ForestCourtsModel", "where", "(III)I"⟩ ∈ TT := in_tb (tb_8 (List.mem_of_getElem? (i := 182) rfl)) rfl
theorem tw_1985 : Cond.code ⟨"ForestCourtsModel", "where", "(III)I"⟩ prog_14_method_24_code 4 (Option.some FieldType.int) ∈ TT := in_tb (tb_8 (List.mem_of_getElem? (i := 183) rfl)) rfl
theorem tw_1986 : Cond.methodLink "ForestCourtsModel" 318 ⟨"ForestCourtsModel", "placed", "(III)I"⟩ ∈ TT := in_tb (tb_8 (List.mem_of_getElem? (i := 184) rfl)) rfl
theorem tw_1988 : Cond.instanceMethod ⟨"ForestCourtsModel", "placed", "(III)I"⟩ ∈ TT := in_tb (tb_8 (List.mem_of_getElem? (i := 186) rfl)) rfl
theorem tw_1989 : Cond.code ⟨"ForestCourtsModel", "placed", "(III)I"⟩ prog_14_method_23_code 8 (Option.some FieldType.int) ∈ TT := in_tb (tb_8 (List.mem_of_getElem? (i := 187) rfl)) rfl
theorem tw_1990 : Cond.methodLink "ForestCourtsModel" 315 ⟨"ForestCourtsModel", "isNear", "(III)Z"⟩ ∈ TT := in_tb (tb_8 (List.mem_of_getElem? (i := 188) rfl)) rfl
theorem tw_1992 : Cond.instanceMethod ⟨"ForestCourtsModel", "isNear", "(III)Z"⟩ ∈ TT := in_tb (tb_8 (List.mem_of_getElem? (i := 190) rfl)) rfl
theorem tw_1993 : Cond.code ⟨"ForestCourtsModel", "isNear", "(III)Z"⟩ prog_14_method_22_code 24 (Option.some FieldType.boolean) ∈ TT := in_tb (tb_8 (List.mem_of_getElem? (i := 191) rfl)) rfl
theorem tw_1994 : Cond.methodLink "ForestCourtsLaw" 165 ⟨"ForestCourtsModel", "walk", "(I)I"⟩ ∈ TT := in_tb (tb_8 (List.mem_of_getElem? (i := 192) rfl)) rfl
theorem tw_1995 : Cond.instanceMethod ⟨"ForestCourtsModel", "walk", "(I)I"⟩ ∈ TT := in_tb (tb_8 (List.mem_of_getElem? (i := 193) rfl)) rfl
theorem tw_1996 : Cond.selects "ForestCourtsModel" ⟨"ForestCourtsModel", "walk", "(I)I"⟩ ⟨"ForestCourtsModel", "walk", "(I)I"⟩ ∈ TT := in_tb (tb_8 (List.mem_of_getElem? (i := 194) rfl)) rfl
theorem tw_1997 : Cond.code ⟨"ForestCourtsModel", "walk", "(I)I"⟩ prog_14_method_27_code 3 (Option.some FieldType.int) ∈ TT := in_tb (tb_8 (List.mem_of_getElem? (i := 195) rfl)) rfl
theorem tw_1998 : Cond.methodLink "ForestCourtsModel" 335 ⟨"ForestCourtsModel", "walks", "(II)V"⟩ ∈ TT := in_tb (tb_8 (List.mem_of_getElem? (i := 196) rfl)) rfl
theorem tw_2000 : Cond.instanceMethod ⟨"ForestCourtsModel", "walks", "(II)V"⟩ ∈ TT := in_tb (tb_8 (List.mem_of_getElem? (i := 198) rfl)) rfl
theorem tw_2001 : Cond.code ⟨"ForestCourtsModel", "walks", "(II)V"⟩ prog_14_method_26_code 4 (Option.none : Option FieldType) ∈ TT := in_tb (tb_8 (List.mem_of_getElem? (i := 199) rfl)) rfl
theorem tw_2002 : Cond.methodLink "ForestCourtsModel" 331 ⟨"ForestCourtsModel", "sides", "()I"⟩ ∈ TT := in_tb (tb_8 (List.mem_of_getElem? (i := 200) rfl)) rfl
theorem tw_2004 : Cond.instanceMethod ⟨"ForestCourtsModel", "sides", "()I"⟩ ∈ TT := in_tb (tb_8 (List.mem_of_getElem? (i := 202) rfl)) rfl
theorem tw_2005 : Cond.code ⟨"ForestCourtsModel", "sides", "()I"⟩ prog_14_method_25_code 3 (Option.some FieldType.int) ∈ TT := in_tb (tb_8 (List.mem_of_getElem? (i := 203) rfl)) rfl
theorem tw_2006 : Cond.methodLink "ForestCourtsModel" 322 ⟨"ForestCourtsModel", "size", "(I)I"⟩ ∈ TT := in_tb (tb_8 (List.mem_of_getElem? (i := 204) rfl)) rfl
theorem tw_2007 : Cond.static ⟨"ForestCourtsModel", "size", "(I)I"⟩ ∈ TT := in_tb (tb_8 (List.mem_of_getElem? (i := 205) rfl)) rfl
theorem tw_2008 : Cond.code ⟨"ForestCourtsModel", "size", "(I)I"⟩ prog_14_method_7_code 1 (Option.some FieldType.int) ∈ TT := in_tb (tb_8 (List.mem_of_getElem? (i := 206) rfl)) rfl
theorem tw_2009 : Cond.methodLink "ForestCourtsLaw" 169 ⟨"ForestCourtsModel", "walked", "(I)I"⟩ ∈ TT := in_tb (tb_8 (List.mem_of_getElem? (i := 207) rfl)) rfl
theorem tw_2010 : Cond.instanceMethod ⟨"ForestCourtsModel", "walked", "(I)I"⟩ ∈ TT := in_tb (tb_8 (List.mem_of_getElem? (i := 208) rfl)) rfl
theorem tw_2011 : Cond.selects "ForestCourtsModel" ⟨"ForestCourtsModel", "walked", "(I)I"⟩ ⟨"ForestCourtsModel", "walked", "(I)I"⟩ ∈ TT := in_tb (tb_8 (List.mem_of_getElem? (i := 209) rfl)) rfl
theorem tw_2012 : Cond.code ⟨"ForestCourtsModel", "walked", "(I)I"⟩ prog_14_method_28_code 2 (Option.some FieldType.int) ∈ TT := in_tb (tb_8 (List.mem_of_getElem? (i := 210) rfl)) rfl
theorem tw_2013 : Cond.methodLink "ForestCourtsLaw" 173 ⟨"ForestCourtsModel", "rivals", "()I"⟩ ∈ TT := in_tb (tb_8 (List.mem_of_getElem? (i := 211) rfl)) rfl
theorem tw_2014 : Cond.instanceMethod ⟨"ForestCourtsModel", "rivals", "()I"⟩ ∈ TT := in_tb (tb_8 (List.mem_of_getElem? (i := 212) rfl)) rfl
theorem tw_2015 : Cond.selects "ForestCourtsModel" ⟨"ForestCourtsModel", "rivals", "()I"⟩ ⟨"ForestCourtsModel", "rivals", "()I"⟩ ∈ TT := in_tb (tb_8 (List.mem_of_getElem? (i := 213) rfl)) rfl
theorem tw_2016 : Cond.code ⟨"ForestCourtsModel", "rivals", "()I"⟩ prog_14_method_29_code 1 (Option.some FieldType.int) ∈ TT := in_tb (tb_8 (List.mem_of_getElem? (i := 214) rfl)) rfl
theorem tw_2017 : Cond.methodLink "ForestCourtsLaw" 176 ⟨"ForestCourtsModel", "text", "(II)I"⟩ ∈ TT := in_tb (tb_8 (List.mem_of_getElem? (i := 215) rfl)) rfl
theorem tw_2018 : Cond.instanceMethod ⟨"ForestCourtsModel", "text", "(II)I"⟩ ∈ TT := in_tb (tb_8 (List.mem_of_getElem? (i := 216) rfl)) rfl
theorem tw_2019 : Cond.selects "ForestCourtsModel" ⟨"ForestCourtsModel", "text", "(II)I"⟩ ⟨"ForestCourtsModel", "text", "(II)I"⟩ ∈ TT := in_tb (tb_8 (List.mem_of_getElem? (i := 217) rfl)) rfl
theorem tw_2020 : Cond.code ⟨"ForestCourtsModel", "text", "(II)I"⟩ prog_14_method_53_code 4 (Option.some FieldType.int) ∈ TT := in_tb (tb_8 (List.mem_of_getElem? (i := 218) rfl)) rfl
theorem tw_2021 : Cond.methodLink "ForestCourtsModel" 352 ⟨"ForestCourtsModel", "blanks", "()V"⟩ ∈ TT := in_tb (tb_8 (List.mem_of_getElem? (i := 219) rfl)) rfl
theorem tw_2023 : Cond.instanceMethod ⟨"ForestCourtsModel", "blanks", "()V"⟩ ∈ TT := in_tb (tb_8 (List.mem_of_getElem? (i := 221) rfl)) rfl
theorem tw_2024 : Cond.code ⟨"ForestCourtsModel", "blanks", "()V"⟩ prog_14_method_31_code 1 (Option.none : Option FieldType) ∈ TT := in_tb (tb_8 (List.mem_of_getElem? (i := 222) rfl)) rfl
theorem tw_2025 : Cond.methodLink "ForestCourtsModel" 346 ⟨"ForestCourtsModel", "byteAt", "(I)I"⟩ ∈ TT := in_tb (tb_8 (List.mem_of_getElem? (i := 223) rfl)) rfl
theorem tw_2027 : Cond.instanceMethod ⟨"ForestCourtsModel", "byteAt", "(I)I"⟩ ∈ TT := in_tb (tb_8 (List.mem_of_getElem? (i := 225) rfl)) rfl
theorem tw_2028 : Cond.code ⟨"ForestCourtsModel", "byteAt", "(I)I"⟩ prog_14_method_30_code 2 (Option.some FieldType.int) ∈ TT := in_tb (tb_8 (List.mem_of_getElem? (i := 226) rfl)) rfl
theorem tw_2029 : Cond.methodLink "ForestCourtsModel" 479 ⟨"ForestCourtsModel", "clauseHere", "()I"⟩ ∈ TT := in_tb (tb_8 (List.mem_of_getElem? (i := 227) rfl)) rfl
theorem tw_2031 : Cond.instanceMethod ⟨"ForestCourtsModel", "clauseHere", "()I"⟩ ∈ TT := in_tb (tb_8 (List.mem_of_getElem? (i := 229) rfl)) rfl
theorem tw_2032 : Cond.code ⟨"ForestCourtsModel", "clauseHere", "()I"⟩ prog_14_method_39_code 2 (Option.some FieldType.int) ∈ TT := in_tb (tb_8 (List.mem_of_getElem? (i := 230) rfl)) rfl
theorem tw_2033 : Cond.methodLink "ForestCourtsModel" 406 ⟨"ForestCourtsModel", "clauseName", "(I)Ljava/lang/String;"⟩ ∈ TT := in_tb (tb_8 (List.mem_of_getElem? (i := 231) rfl)) rfl
theorem tw_2034 : Cond.static ⟨"ForestCourtsModel", "clauseName", "(I)Ljava/lang/String;"⟩ ∈ TT := in_tb (tb_8 (List.mem_of_getElem? (i := 232) rfl)) rfl
theorem tw_2035 : Cond.code ⟨"ForestCourtsModel", "clauseName", "(I)Ljava/lang/String;"⟩ prog_14_method_36_code 1 (Option.some (FieldType.object "java/lang/String")) ∈ TT := in_tb (tb_8 (List.mem_of_getElem? (i := 233) rfl)) rfl
theorem tw_2044 : Cond.methodLink "ForestCourtsModel" 364 ⟨"ForestCourtsModel", "isWord", "(Ljava/lang/String;)Z"⟩ ∈ TT := in_tb (tb_9 (List.mem_of_getElem? (i := 2) rfl)) rfl
theorem tw_2046 : Cond.instanceMethod ⟨"ForestCourtsModel", "isWord", "(Ljava/lang/String;)Z"⟩ ∈ TT := in_tb (tb_9 (List.mem_of_getElem? (i := 4) rfl)) rfl
theorem tw_2047 : Cond.code ⟨"ForestCourtsModel", "isWord", "(Ljava/lang/String;)Z"⟩ prog_14_method_34_code 3 (Option.some FieldType.boolean) ∈ TT := in_tb (tb_9 (List.mem_of_getElem? (i := 5) rfl)) rfl
theorem tw_2048 : Cond.methodLink "ForestCourtsModel" 355 ⟨"java/lang/String", "length", "()I"⟩ ∈ TT := in_tb (tb_9 (List.mem_of_getElem? (i := 6) rfl)) rfl
theorem tw_2049 : Cond.methodLink "ForestCourtsModel" 360 ⟨"java/lang/String", "charAt", "(I)C"⟩ ∈ TT := in_tb (tb_9 (List.mem_of_getElem? (i := 7) rfl)) rfl
theorem tw_2050 : Cond.methodLink "ForestCourtsModel" 416 ⟨"ForestCourtsModel", "wrong", "(II)V"⟩ ∈ TT := in_tb (tb_9 (List.mem_of_getElem? (i := 8) rfl)) rfl
theorem tw_2052 : Cond.instanceMethod ⟨"ForestCourtsModel", "wrong", "(II)V"⟩ ∈ TT := in_tb (tb_9 (List.mem_of_getElem? (i := 10) rfl)) rfl
theorem tw_2053 : Cond.code ⟨"ForestCourtsModel", "wrong", "(II)V"⟩ prog_14_method_33_code 3 (Option.none : Option FieldType) ∈ TT := in_tb (tb_9 (List.mem_of_getElem? (i := 11) rfl)) rfl
theorem tw_2054 : Cond.methodLink "ForestCourtsModel" 491 ⟨"ForestCourtsModel", "clause", "(I)V"⟩ ∈ TT := in_tb (tb_9 (List.mem_of_getElem? (i := 12) rfl)) rfl
theorem tw_2056 : Cond.instanceMethod ⟨"ForestCourtsModel", "clause", "(I)V"⟩ ∈ TT := in_tb (tb_9 (List.mem_of_getElem? (i := 14) rfl)) rfl
theorem tw_2057 : Cond.code ⟨"ForestCourtsModel", "clause", "(I)V"⟩ prog_14_method_52_code 3 (Option.none : Option FieldType) ∈ TT := in_tb (tb_9 (List.mem_of_getElem? (i := 15) rfl)) rfl
theorem tw_2058 : Cond.methodLink "ForestCourtsModel" 482 ⟨"ForestCourtsModel", "act", "()I"⟩ ∈ TT := in_tb (tb_9 (List.mem_of_getElem? (i := 16) rfl)) rfl
theorem tw_2060 : Cond.instanceMethod ⟨"ForestCourtsModel", "act", "()I"⟩ ∈ TT := in_tb (tb_9 (List.mem_of_getElem? (i := 18) rfl)) rfl
theorem tw_2061 : Cond.code ⟨"ForestCourtsModel", "act", "()I"⟩ prog_14_method_40_code 2 (Option.some FieldType.int) ∈ TT := in_tb (tb_9 (List.mem_of_getElem? (i := 19) rfl)) rfl
theorem tw_2062 : Cond.methodLink "ForestCourtsModel" 410 ⟨"ForestCourtsModel", "actName", "(I)Ljava/lang/String;"⟩ ∈ TT := in_tb (tb_9 (List.mem_of_getElem? (i := 20) rfl)) rfl
theorem tw_2063 : Cond.static ⟨"ForestCourtsModel", "actName", "(I)Ljava/lang/String;"⟩ ∈ TT := in_tb (tb_9 (List.mem_of_getElem? (i := 21) rfl)) rfl
theorem tw_2064 : Cond.code ⟨"ForestCourtsModel", "actName", "(I)Ljava/lang/String;"⟩ prog_14_method_37_code 1 (Option.some (FieldType.object "java/lang/String")) ∈ TT := in_tb (tb_9 (List.mem_of_getElem? (i := 22) rfl)) rfl
theorem tw_2071 : Cond.methodLink "ForestCourtsModel" 413 ⟨"ForestCourtsModel", "eat", "(Ljava/lang/String;)Z"⟩ ∈ TT := in_tb (tb_9 (List.mem_of_getElem? (i := 29) rfl)) rfl
theorem tw_2073 : Cond.instanceMethod ⟨"ForestCourtsModel", "eat", "(Ljava/lang/String;)Z"⟩ ∈ TT := in_tb (tb_9 (List.mem_of_getElem? (i := 31) rfl)) rfl
theorem tw_2074 : Cond.code ⟨"ForestCourtsModel", "eat", "(Ljava/lang/String;)Z"⟩ prog_14_method_35_code 3 (Option.some FieldType.boolean) ∈ TT := in_tb (tb_9 (List.mem_of_getElem? (i := 32) rfl)) rfl
theorem tw_2075 : Cond.methodLink "ForestCourtsModel" 431 ⟨"ForestCourtsModel", "sign", "(I)V"⟩ ∈ TT := in_tb (tb_9 (List.mem_of_getElem? (i := 33) rfl)) rfl
theorem tw_2077 : Cond.instanceMethod ⟨"ForestCourtsModel", "sign", "(I)V"⟩ ∈ TT := in_tb (tb_9 (List.mem_of_getElem? (i := 35) rfl)) rfl
theorem tw_2078 : Cond.code ⟨"ForestCourtsModel", "sign", "(I)V"⟩ prog_14_method_42_code 2 (Option.none : Option FieldType) ∈ TT := in_tb (tb_9 (List.mem_of_getElem? (i := 36) rfl)) rfl
theorem tw_2079 : Cond.methodLink "ForestCourtsModel" 458 ⟨"ForestCourtsModel", "sum", "()V"⟩ ∈ TT := in_tb (tb_9 (List.mem_of_getElem? (i := 37) rfl)) rfl
theorem tw_2081 : Cond.instanceMethod ⟨"ForestCourtsModel", "sum", "()V"⟩ ∈ TT := in_tb (tb_9 (List.mem_of_getElem? (i := 39) rfl)) rfl
theorem tw_2082 : Cond.code ⟨"ForestCourtsModel", "sum", "()V"⟩ prog_14_method_46_code 2 (Option.none : Option FieldType) ∈ TT := in_tb (tb_9 (List.mem_of_getElem? (i := 40) rfl)) rfl
theorem tw_2083 : Cond.methodLink "ForestCourtsModel" 435 ⟨"ForestCourtsModel", "product", "()V"⟩ ∈ TT := in_tb (tb_9 (List.mem_of_getElem? (i := 41) rfl)) rfl
theorem tw_2085 : Cond.instanceMethod ⟨"ForestCourtsModel", "product", "()V"⟩ ∈ TT := in_tb (tb_9 (List.mem_of_getElem? (i := 43) rfl)) rfl
theorem tw_2086 : Cond.code ⟨"ForestCourtsModel", "product", "()V"⟩ prog_14_method_47_code 2 (Option.none : Option FieldType) ∈ TT := in_tb (tb_9 (List.mem_of_getElem? (i := 44) rfl)) rfl
theorem tw_2087 : Cond.methodLink "ForestCourtsModel" 441 ⟨"ForestCourtsModel", "unit", "()V"⟩ ∈ TT := in_tb (tb_9 (List.mem_of_getElem? (i := 45) rfl)) rfl
theorem tw_2089 : Cond.instanceMethod ⟨"ForestCourtsModel", "unit", "()V"⟩ ∈ TT := in_tb (tb_9 (List.mem_of_getElem? (i := 47) rfl)) rfl
theorem tw_2090 : Cond.code ⟨"ForestCourtsModel", "unit", "()V"⟩ prog_14_method_48_code 3 (Option.none : Option FieldType) ∈ TT := in_tb (tb_9 (List.mem_of_getElem? (i := 48) rfl)) rfl
theorem tw_2091 : Cond.methodLink "ForestCourtsModel" 419 ⟨"ForestCourtsModel", "isDigit", "(I)Z"⟩ ∈ TT := in_tb (tb_9 (List.mem_of_getElem? (i := 49) rfl)) rfl
theorem tw_2092 : Cond.static ⟨"ForestCourtsModel", "isDigit", "(I)Z"⟩ ∈ TT := in_tb (tb_9 (List.mem_of_getElem? (i := 50) rfl)) rfl
theorem tw_2093 : Cond.code ⟨"ForestCourtsModel", "isDigit", "(I)Z"⟩ prog_14_method_32_code 1 (Option.some FieldType.boolean) ∈ TT := in_tb (tb_9 (List.mem_of_getElem? (i := 51) rfl)) rfl
theorem tw_2094 : Cond.methodLink "ForestCourtsModel" 444 ⟨"ForestCourtsModel", "figures", "(II)I"⟩ ∈ TT := in_tb (tb_9 (List.mem_of_getElem? (i := 52) rfl)) rfl
theorem tw_2096 : Cond.instanceMethod ⟨"ForestCourtsModel", "figures", "(II)I"⟩ ∈ TT := in_tb (tb_9 (List.mem_of_getElem? (i := 54) rfl)) rfl
theorem tw_2097 : Cond.code ⟨"ForestCourtsModel", "figures", "(II)I"⟩ prog_14_method_41_code 5 (Option.some FieldType.int) ∈ TT := in_tb (tb_9 (List.mem_of_getElem? (i := 55) rfl)) rfl
theorem tw_2098 : Cond.methodLink "ForestCourtsModel" 438 ⟨"ForestCourtsModel", "emits", "(II)V"⟩ ∈ TT := in_tb (tb_9 (List.mem_of_getElem? (i := 56) rfl)) rfl
theorem tw_2100 : Cond.instanceMethod ⟨"ForestCourtsModel", "emits", "(II)V"⟩ ∈ TT := in_tb (tb_9 (List.mem_of_getElem? (i := 58) rfl)) rfl
theorem tw_2101 : Cond.code ⟨"ForestCourtsModel", "emits", "(II)V"⟩ prog_14_method_43_code 3 (Option.none : Option FieldType) ∈ TT := in_tb (tb_9 (List.mem_of_getElem? (i := 59) rfl)) rfl
theorem tw_2102 : Cond.methodLink "ForestCourtsModel" 448 ⟨"ForestCourtsModel", "toldName", "(I)Ljava/lang/String;"⟩ ∈ TT := in_tb (tb_9 (List.mem_of_getElem? (i := 60) rfl)) rfl
theorem tw_2103 : Cond.static ⟨"ForestCourtsModel", "toldName", "(I)Ljava/lang/String;"⟩ ∈ TT := in_tb (tb_9 (List.mem_of_getElem? (i := 61) rfl)) rfl
theorem tw_2104 : Cond.code ⟨"ForestCourtsModel", "toldName", "(I)Ljava/lang/String;"⟩ prog_14_method_38_code 1 (Option.some (FieldType.object "java/lang/String")) ∈ TT := in_tb (tb_9 (List.mem_of_getElem? (i := 62) rfl)) rfl
theorem tw_2113 : Cond.methodLink "ForestCourtsModel" 455 ⟨"ForestCourtsModel", "opens", "(I)V"⟩ ∈ TT := in_tb (tb_9 (List.mem_of_getElem? (i := 71) rfl)) rfl
theorem tw_2115 : Cond.instanceMethod ⟨"ForestCourtsModel", "opens", "(I)V"⟩ ∈ TT := in_tb (tb_9 (List.mem_of_getElem? (i := 73) rfl)) rfl
theorem tw_2116 : Cond.code ⟨"ForestCourtsModel", "opens", "(I)V"⟩ prog_14_method_44_code 2 (Option.none : Option FieldType) ∈ TT := in_tb (tb_9 (List.mem_of_getElem? (i := 74) rfl)) rfl
theorem tw_2117 : Cond.methodLink "ForestCourtsModel" 461 ⟨"ForestCourtsModel", "closes", "(I)V"⟩ ∈ TT := in_tb (tb_9 (List.mem_of_getElem? (i := 75) rfl)) rfl
theorem tw_2119 : Cond.instanceMethod ⟨"ForestCourtsModel", "closes", "(I)V"⟩ ∈ TT := in_tb (tb_9 (List.mem_of_getElem? (i := 77) rfl)) rfl
theorem tw_2120 : Cond.code ⟨"ForestCourtsModel", "closes", "(I)V"⟩ prog_14_method_45_code 2 (Option.none : Option FieldType) ∈ TT := in_tb (tb_9 (List.mem_of_getElem? (i := 78) rfl)) rfl
theorem tw_2122 : Cond.methodLink "ForestCourtsModel" 476 ⟨"ForestCourtsModel", "ors", "()V"⟩ ∈ TT := in_tb (tb_9 (List.mem_of_getElem? (i := 80) rfl)) rfl
theorem tw_2124 : Cond.instanceMethod ⟨"ForestCourtsModel", "ors", "()V"⟩ ∈ TT := in_tb (tb_9 (List.mem_of_getElem? (i := 82) rfl)) rfl
theorem tw_2125 : Cond.code ⟨"ForestCourtsModel", "ors", "()V"⟩ prog_14_method_49_code 1 (Option.none : Option FieldType) ∈ TT := in_tb (tb_9 (List.mem_of_getElem? (i := 83) rfl)) rfl
theorem tw_2126 : Cond.methodLink "ForestCourtsModel" 464 ⟨"ForestCourtsModel", "ands", "()V"⟩ ∈ TT := in_tb (tb_9 (List.mem_of_getElem? (i := 84) rfl)) rfl
theorem tw_2128 : Cond.instanceMethod ⟨"ForestCourtsModel", "ands", "()V"⟩ ∈ TT := in_tb (tb_9 (List.mem_of_getElem? (i := 86) rfl)) rfl
theorem tw_2129 : Cond.code ⟨"ForestCourtsModel", "ands", "()V"⟩ prog_14_method_50_code 1 (Option.none : Option FieldType) ∈ TT := in_tb (tb_9 (List.mem_of_getElem? (i := 87) rfl)) rfl
theorem tw_2130 : Cond.methodLink "ForestCourtsModel" 469 ⟨"ForestCourtsModel", "test", "()V"⟩ ∈ TT := in_tb (tb_9 (List.mem_of_getElem? (i := 88) rfl)) rfl
theorem tw_2132 : Cond.instanceMethod ⟨"ForestCourtsModel", "test", "()V"⟩ ∈ TT := in_tb (tb_9 (List.mem_of_getElem? (i := 90) rfl)) rfl
theorem tw_2133 : Cond.code ⟨"ForestCourtsModel", "test", "()V"⟩ prog_14_method_51_code 2 (Option.none : Option FieldType) ∈ TT := in_tb (tb_9 (List.mem_of_getElem? (i := 91) rfl)) rfl
theorem tw_2139 : Cond.methodLink "ForestCourtsLaw" 180 ⟨"ForestCourtsModel", "fault", "()I"⟩ ∈ TT := in_tb (tb_9 (List.mem_of_getElem? (i := 97) rfl)) rfl
theorem tw_2140 : Cond.instanceMethod ⟨"ForestCourtsModel", "fault", "()I"⟩ ∈ TT := in_tb (tb_9 (List.mem_of_getElem? (i := 98) rfl)) rfl
theorem tw_2141 : Cond.selects "ForestCourtsModel" ⟨"ForestCourtsModel", "fault", "()I"⟩ ⟨"ForestCourtsModel", "fault", "()I"⟩ ∈ TT := in_tb (tb_9 (List.mem_of_getElem? (i := 99) rfl)) rfl
theorem tw_2142 : Cond.code ⟨"ForestCourtsModel", "fault", "()I"⟩ prog_14_method_54_code 1 (Option.some FieldType.int) ∈ TT := in_tb (tb_9 (List.mem_of_getElem? (i := 100) rfl)) rfl
theorem tw_2143 : Cond.methodLink "ForestCourtsLaw" 183 ⟨"ForestCourtsModel", "force", "(II)Z"⟩ ∈ TT := in_tb (tb_9 (List.mem_of_getElem? (i := 101) rfl)) rfl
theorem tw_2144 : Cond.instanceMethod ⟨"ForestCourtsModel", "force", "(II)Z"⟩ ∈ TT := in_tb (tb_9 (List.mem_of_getElem? (i := 102) rfl)) rfl
theorem tw_2145 : Cond.selects "ForestCourtsModel" ⟨"ForestCourtsModel", "force", "(II)Z"⟩ ⟨"ForestCourtsModel", "force", "(II)Z"⟩ ∈ TT := in_tb (tb_9 (List.mem_of_getElem? (i := 103) rfl)) rfl
theorem tw_2146 : Cond.code ⟨"ForestCourtsModel", "force", "(II)Z"⟩ prog_14_method_57_code 3 (Option.some FieldType.boolean) ∈ TT := in_tb (tb_9 (List.mem_of_getElem? (i := 104) rfl)) rfl
theorem tw_2147 : Cond.methodLink "ForestCourtsModel" 494 ⟨"ForestCourtsModel", "isText", "(I)Z"⟩ ∈ TT := in_tb (tb_9 (List.mem_of_getElem? (i := 105) rfl)) rfl
theorem tw_2149 : Cond.instanceMethod ⟨"ForestCourtsModel", "isText", "(I)Z"⟩ ∈ TT := in_tb (tb_9 (List.mem_of_getElem? (i := 107) rfl)) rfl
theorem tw_2150 : Cond.code ⟨"ForestCourtsModel", "isText", "(I)Z"⟩ prog_14_method_56_code 2 (Option.some FieldType.boolean) ∈ TT := in_tb (tb_9 (List.mem_of_getElem? (i := 108) rfl)) rfl
theorem tw_2151 : Cond.methodLink "ForestCourtsModel" 497 ⟨"ForestCourtsModel", "forces", "(I)V"⟩ ∈ TT := in_tb (tb_9 (List.mem_of_getElem? (i := 109) rfl)) rfl
theorem tw_2153 : Cond.instanceMethod ⟨"ForestCourtsModel", "forces", "(I)V"⟩ ∈ TT := in_tb (tb_9 (List.mem_of_getElem? (i := 111) rfl)) rfl
theorem tw_2154 : Cond.code ⟨"ForestCourtsModel", "forces", "(I)V"⟩ prog_14_method_55_code 5 (Option.none : Option FieldType) ∈ TT := in_tb (tb_9 (List.mem_of_getElem? (i := 112) rfl)) rfl
theorem tw_2155 : Cond.methodLink "ForestCourtsLaw" 186 ⟨"ForestCourtsModel", "rule", "(II)I"⟩ ∈ TT := in_tb (tb_9 (List.mem_of_getElem? (i := 113) rfl)) rfl
theorem tw_2156 : Cond.instanceMethod ⟨"ForestCourtsModel", "rule", "(II)I"⟩ ∈ TT := in_tb (tb_9 (List.mem_of_getElem? (i := 114) rfl)) rfl
theorem tw_2157 : Cond.selects "ForestCourtsModel" ⟨"ForestCourtsModel", "rule", "(II)I"⟩ ⟨"ForestCourtsModel", "rule", "(II)I"⟩ ∈ TT := in_tb (tb_9 (List.mem_of_getElem? (i := 115) rfl)) rfl
theorem tw_2158 : Cond.code ⟨"ForestCourtsModel", "rule", "(II)I"⟩ prog_14_method_59_code 3 (Option.some FieldType.int) ∈ TT := in_tb (tb_9 (List.mem_of_getElem? (i := 116) rfl)) rfl
theorem tw_2159 : Cond.methodLink "ForestCourtsModel" 500 ⟨"ForestCourtsModel", "ruleOf", "(II)I"⟩ ∈ TT := in_tb (tb_9 (List.mem_of_getElem? (i := 117) rfl)) rfl
theorem tw_2161 : Cond.instanceMethod ⟨"ForestCourtsModel", "ruleOf", "(II)I"⟩ ∈ TT := in_tb (tb_9 (List.mem_of_getElem? (i := 119) rfl)) rfl
theorem tw_2162 : Cond.code ⟨"ForestCourtsModel", "ruleOf", "(II)I"⟩ prog_14_method_58_code 7 (Option.some FieldType.int) ∈ TT := in_tb (tb_9 (List.mem_of_getElem? (i := 120) rfl)) rfl
theorem tw_2163 : Cond.methodLink "ForestCourtsLaw" 189 ⟨"ForestCourtsModel", "person", "(II)I"⟩ ∈ TT := in_tb (tb_9 (List.mem_of_getElem? (i := 121) rfl)) rfl
theorem tw_2164 : Cond.instanceMethod ⟨"ForestCourtsModel", "person", "(II)I"⟩ ∈ TT := in_tb (tb_9 (List.mem_of_getElem? (i := 122) rfl)) rfl
theorem tw_2165 : Cond.selects "ForestCourtsModel" ⟨"ForestCourtsModel", "person", "(II)I"⟩ ⟨"ForestCourtsModel", "person", "(II)I"⟩ ∈ TT := in_tb (tb_9 (List.mem_of_getElem? (i := 123) rfl)) rfl
theorem tw_2166 : Cond.code ⟨"ForestCourtsModel", "person", "(II)I"⟩ prog_14_method_60_code 3 (Option.some FieldType.int) ∈ TT := in_tb (tb_9 (List.mem_of_getElem? (i := 124) rfl)) rfl
theorem tw_2167 : Cond.constant "ForestCourtsModel" 503 (1000000) ∈ TT := in_tb (tb_9 (List.mem_of_getElem? (i := 125) rfl)) rfl
theorem tw_2168 : Cond.methodLink "ForestCourtsLaw" 192 ⟨"ForestCourtsModel", "heir", "(II)I"⟩ ∈ TT := in_tb (tb_9 (List.mem_of_getElem? (i := 126) rfl)) rfl
theorem tw_2169 : Cond.instanceMethod ⟨"ForestCourtsModel", "heir", "(II)I"⟩ ∈ TT := in_tb (tb_9 (List.mem_of_getElem? (i := 127) rfl)) rfl
theorem tw_2170 : Cond.selects "ForestCourtsModel" ⟨"ForestCourtsModel", "heir", "(II)I"⟩ ⟨"ForestCourtsModel", "heir", "(II)I"⟩ ∈ TT := in_tb (tb_9 (List.mem_of_getElem? (i := 128) rfl)) rfl
theorem tw_2171 : Cond.code ⟨"ForestCourtsModel", "heir", "(II)I"⟩ prog_14_method_63_code 4 (Option.some FieldType.int) ∈ TT := in_tb (tb_9 (List.mem_of_getElem? (i := 129) rfl)) rfl
theorem tw_2172 : Cond.methodLink "ForestCourtsModel" 507 ⟨"ForestCourtsModel", "isPerson", "(I)Z"⟩ ∈ TT := in_tb (tb_9 (List.mem_of_getElem? (i := 130) rfl)) rfl
theorem tw_2174 : Cond.instanceMethod ⟨"ForestCourtsModel", "isPerson", "(I)Z"⟩ ∈ TT := in_tb (tb_9 (List.mem_of_getElem? (i := 132) rfl)) rfl
theorem tw_2175 : Cond.code ⟨"ForestCourtsModel", "isPerson", "(I)Z"⟩ prog_14_method_61_code 2 (Option.some FieldType.boolean) ∈ TT := in_tb (tb_9 (List.mem_of_getElem? (i := 133) rfl)) rfl
theorem tw_2176 : Cond.methodLink "ForestCourtsLaw" 195 ⟨"ForestCourtsModel", "die", "(I)I"⟩ ∈ TT := in_tb (tb_9 (List.mem_of_getElem? (i := 134) rfl)) rfl
theorem tw_2177 : Cond.instanceMethod ⟨"ForestCourtsModel", "die", "(I)I"⟩ ∈ TT := in_tb (tb_9 (List.mem_of_getElem? (i := 135) rfl)) rfl
theorem tw_2178 : Cond.selects "ForestCourtsModel" ⟨"ForestCourtsModel", "die", "(I)I"⟩ ⟨"ForestCourtsModel", "die", "(I)I"⟩ ∈ TT := in_tb (tb_9 (List.mem_of_getElem? (i := 136) rfl)) rfl
theorem tw_2179 : Cond.code ⟨"ForestCourtsModel", "die", "(I)I"⟩ prog_14_method_64_code 2 (Option.some FieldType.int) ∈ TT := in_tb (tb_9 (List.mem_of_getElem? (i := 137) rfl)) rfl
theorem tw_2180 : Cond.methodLink "ForestCourtsModel" 510 ⟨"ForestCourtsModel", "isDead", "(I)Z"⟩ ∈ TT := in_tb (tb_9 (List.mem_of_getElem? (i := 138) rfl)) rfl
theorem tw_2182 : Cond.instanceMethod ⟨"ForestCourtsModel", "isDead", "(I)Z"⟩ ∈ TT := in_tb (tb_9 (List.mem_of_getElem? (i := 140) rfl)) rfl
theorem tw_2183 : Cond.code ⟨"ForestCourtsModel", "isDead", "(I)Z"⟩ prog_14_method_62_code 2 (Option.some FieldType.boolean) ∈ TT := in_tb (tb_9 (List.mem_of_getElem? (i := 141) rfl)) rfl
theorem tw_2184 : Cond.methodLink "ForestCourtsLaw" 198 ⟨"ForestCourtsModel", "told", "(II)I"⟩ ∈ TT := in_tb (tb_9 (List.mem_of_getElem? (i := 142) rfl)) rfl
theorem tw_2185 : Cond.instanceMethod ⟨"ForestCourtsModel", "told", "(II)I"⟩ ∈ TT := in_tb (tb_9 (List.mem_of_getElem? (i := 143) rfl)) rfl
theorem tw_2186 : Cond.selects "ForestCourtsModel" ⟨"ForestCourtsModel", "told", "(II)I"⟩ ⟨"ForestCourtsModel", "told", "(II)I"⟩ ∈ TT := in_tb (tb_9 (List.mem_of_getElem? (i := 144) rfl)) rfl
theorem tw_2187 : Cond.code ⟨"ForestCourtsModel", "told", "(II)I"⟩ prog_14_method_66_code 3 (Option.some FieldType.int) ∈ TT := in_tb (tb_9 (List.mem_of_getElem? (i := 145) rfl)) rfl
theorem tw_2188 : Cond.methodLink "ForestCourtsModel" 516 ⟨"ForestCourtsModel", "owes", "(I)I"⟩ ∈ TT := in_tb (tb_9 (List.mem_of_getElem? (i := 146) rfl)) rfl
theorem tw_2190 : Cond.instanceMethod ⟨"ForestCourtsModel", "owes", "(I)I"⟩ ∈ TT := in_tb (tb_9 (List.mem_of_getElem? (i := 148) rfl)) rfl
theorem tw_2191 : Cond.code ⟨"ForestCourtsModel", "owes", "(I)I"⟩ prog_14_method_65_code 4 (Option.some FieldType.int) ∈ TT := in_tb (tb_9 (List.mem_of_getElem? (i := 149) rfl)) rfl
theorem tw_2192 : Cond.methodLink "ForestCourtsLaw" 201 ⟨"ForestCourtsModel", "warden", "(III)I"⟩ ∈ TT := in_tb (tb_9 (List.mem_of_getElem? (i := 150) rfl)) rfl
theorem tw_2193 : Cond.instanceMethod ⟨"ForestCourtsModel", "warden", "(III)I"⟩ ∈ TT := in_tb (tb_9 (List.mem_of_getElem? (i := 151) rfl)) rfl
theorem tw_2194 : Cond.selects "ForestCourtsModel" ⟨"ForestCourtsModel", "warden", "(III)I"⟩ ⟨"ForestCourtsModel", "warden", "(III)I"⟩ ∈ TT := in_tb (tb_9 (List.mem_of_getElem? (i := 152) rfl)) rfl
theorem tw_2195 : Cond.code ⟨"ForestCourtsModel", "warden", "(III)I"⟩ prog_14_method_67_code 4 (Option.some FieldType.int) ∈ TT := in_tb (tb_9 (List.mem_of_getElem? (i := 153) rfl)) rfl
theorem tw_2196 : Cond.methodLink "ForestCourtsLaw" 205 ⟨"ForestCourtsModel", "deed", "(IIIIII)I"⟩ ∈ TT := in_tb (tb_9 (List.mem_of_getElem? (i := 154) rfl)) rfl
theorem tw_2197 : Cond.instanceMethod ⟨"ForestCourtsModel", "deed", "(IIIIII)I"⟩ ∈ TT := in_tb (tb_9 (List.mem_of_getElem? (i := 155) rfl)) rfl
theorem tw_2198 : Cond.selects "ForestCourtsModel" ⟨"ForestCourtsModel", "deed", "(IIIIII)I"⟩ ⟨"ForestCourtsModel", "deed", "(IIIIII)I"⟩ ∈ TT := in_tb (tb_9 (List.mem_of_getElem? (i := 156) rfl)) rfl
theorem tw_2199 : Cond.code ⟨"ForestCourtsModel", "deed", "(IIIIII)I"⟩ prog_14_method_68_code 8 (Option.some FieldType.int) ∈ TT := in_tb (tb_9 (List.mem_of_getElem? (i := 157) rfl)) rfl
theorem tw_2200 : Cond.methodLink "ForestCourtsLaw" 208 ⟨"ForestCourtsModel", "barred", "(I)Z"⟩ ∈ TT := in_tb (tb_9 (List.mem_of_getElem? (i := 158) rfl)) rfl
theorem tw_2201 : Cond.instanceMethod ⟨"ForestCourtsModel", "barred", "(I)Z"⟩ ∈ TT := in_tb (tb_9 (List.mem_of_getElem? (i := 159) rfl)) rfl
theorem tw_2202 : Cond.selects "ForestCourtsModel" ⟨"ForestCourtsModel", "barred", "(I)Z"⟩ ⟨"ForestCourtsModel", "barred", "(I)Z"⟩ ∈ TT := in_tb (tb_9 (List.mem_of_getElem? (i := 160) rfl)) rfl
theorem tw_2203 : Cond.code ⟨"ForestCourtsModel", "barred", "(I)Z"⟩ prog_14_method_76_code 2 (Option.some FieldType.boolean) ∈ TT := in_tb (tb_9 (List.mem_of_getElem? (i := 161) rfl)) rfl
theorem tw_2204 : Cond.methodLink "ForestCourtsModel" 560 ⟨"ForestCourtsModel", "isDeed", "(I)Z"⟩ ∈ TT := in_tb (tb_9 (List.mem_of_getElem? (i := 162) rfl)) rfl
theorem tw_2206 : Cond.instanceMethod ⟨"ForestCourtsModel", "isDeed", "(I)Z"⟩ ∈ TT := in_tb (tb_9 (List.mem_of_getElem? (i := 164) rfl)) rfl
theorem tw_2207 : Cond.code ⟨"ForestCourtsModel", "isDeed", "(I)Z"⟩ prog_14_method_75_code 2 (Option.some FieldType.boolean) ∈ TT := in_tb (tb_9 (List.mem_of_getElem? (i := 165) rfl)) rfl
theorem tw_2208 : Cond.methodLink "ForestCourtsModel" 563 ⟨"ForestCourtsModel", "isBarred", "(I)Z"⟩ ∈ TT := in_tb (tb_9 (List.mem_of_getElem? (i := 166) rfl)) rfl
theorem tw_2210 : Cond.instanceMethod ⟨"ForestCourtsModel", "isBarred", "(I)Z"⟩ ∈ TT := in_tb (tb_9 (List.mem_of_getElem? (i := 168) rfl)) rfl
theorem tw_2211 : Cond.code ⟨"ForestCourtsModel", "isBarred", "(I)Z"⟩ prog_14_method_74_code 4 (Option.some FieldType.boolean) ∈ TT := in_tb (tb_9 (List.mem_of_getElem? (i := 169) rfl)) rfl
theorem tw_2212 : Cond.methodLink "ForestCourtsModel" 551 ⟨"ForestCourtsModel", "words", "(I)V"⟩ ∈ TT := in_tb (tb_9 (List.mem_of_getElem? (i := 170) rfl)) rfl
theorem tw_2214 : Cond.instanceMethod ⟨"ForestCourtsModel", "words", "(I)V"⟩ ∈ TT := in_tb (tb_9 (List.mem_of_getElem? (i := 172) rfl)) rfl
theorem tw_2215 : Cond.code ⟨"ForestCourtsModel", "words", "(I)V"⟩ prog_14_method_73_code 7 (Option.none : Option FieldType) ∈ TT := in_tb (tb_9 (List.mem_of_getElem? (i := 173) rfl)) rfl
theorem tw_2216 : Cond.methodLink "ForestCourtsModel" 531 ⟨"ForestCourtsModel", "deedPlace", "(I)I"⟩ ∈ TT := in_tb (tb_9 (List.mem_of_getElem? (i := 174) rfl)) rfl
theorem tw_2218 : Cond.instanceMethod ⟨"ForestCourtsModel", "deedPlace", "(I)I"⟩ ∈ TT := in_tb (tb_9 (List.mem_of_getElem? (i := 176) rfl)) rfl
theorem tw_2219 : Cond.code ⟨"ForestCourtsModel", "deedPlace", "(I)I"⟩ prog_14_method_69_code 2 (Option.some FieldType.int) ∈ TT := in_tb (tb_9 (List.mem_of_getElem? (i := 177) rfl)) rfl
theorem tw_2220 : Cond.methodLink "ForestCourtsModel" 547 ⟨"ForestCourtsModel", "value", "(IIII)I"⟩ ∈ TT := in_tb (tb_9 (List.mem_of_getElem? (i := 178) rfl)) rfl
theorem tw_2222 : Cond.instanceMethod ⟨"ForestCourtsModel", "value", "(IIII)I"⟩ ∈ TT := in_tb (tb_9 (List.mem_of_getElem? (i := 180) rfl)) rfl
theorem tw_2223 : Cond.code ⟨"ForestCourtsModel", "value", "(IIII)I"⟩ prog_14_method_72_code 8 (Option.some FieldType.int) ∈ TT := in_tb (tb_9 (List.mem_of_getElem? (i := 181) rfl)) rfl
theorem tw_2224 : Cond.methodLink "ForestCourtsModel" 525 ⟨"ForestCourtsModel", "valueOf", "(III)I"⟩ ∈ TT := in_tb (tb_9 (List.mem_of_getElem? (i := 182) rfl)) rfl
theorem tw_2226 : Cond.instanceMethod ⟨"ForestCourtsModel", "valueOf", "(III)I"⟩ ∈ TT := in_tb (tb_9 (List.mem_of_getElem? (i := 184) rfl)) rfl
theorem tw_2227 : Cond.code ⟨"ForestCourtsModel", "valueOf", "(III)I"⟩ prog_14_method_70_code 4 (Option.some FieldType.int) ∈ TT := in_tb (tb_9 (List.mem_of_getElem? (i := 185) rfl)) rfl
theorem tw_2228 : Cond.methodLink "ForestCourtsModel" 528 ⟨"ForestCourtsModel", "worked", "(III)I"⟩ ∈ TT := in_tb (tb_9 (List.mem_of_getElem? (i := 186) rfl)) rfl
theorem tw_2229 : Cond.static ⟨"ForestCourtsModel", "worked", "(III)I"⟩ ∈ TT := in_tb (tb_9 (List.mem_of_getElem? (i := 187) rfl)) rfl
theorem tw_2230 : Cond.code ⟨"ForestCourtsModel", "worked", "(III)I"⟩ prog_14_method_71_code 3 (Option.some FieldType.int) ∈ TT := in_tb (tb_9 (List.mem_of_getElem? (i := 188) rfl)) rfl
theorem tw_2231 : Cond.methodLink "ForestCourtsModel" 557 ⟨"ForestCourtsModel", "sureOf", "(II)I"⟩ ∈ TT := in_tb (tb_9 (List.mem_of_getElem? (i := 189) rfl)) rfl
theorem tw_2233 : Cond.instanceMethod ⟨"ForestCourtsModel", "sureOf", "(II)I"⟩ ∈ TT := in_tb (tb_9 (List.mem_of_getElem? (i := 191) rfl)) rfl
theorem tw_2234 : Cond.code ⟨"ForestCourtsModel", "sureOf", "(II)I"⟩ prog_14_method_93_code 9 (Option.some FieldType.int) ∈ TT := in_tb (tb_9 (List.mem_of_getElem? (i := 192) rfl)) rfl
theorem tw_2235 : Cond.methodLink "ForestCourtsLaw" 211 ⟨"ForestCourtsModel", "why", "(I)I"⟩ ∈ TT := in_tb (tb_9 (List.mem_of_getElem? (i := 193) rfl)) rfl
theorem tw_2236 : Cond.instanceMethod ⟨"ForestCourtsModel", "why", "(I)I"⟩ ∈ TT := in_tb (tb_9 (List.mem_of_getElem? (i := 194) rfl)) rfl
theorem tw_2237 : Cond.selects "ForestCourtsModel" ⟨"ForestCourtsModel", "why", "(I)I"⟩ ⟨"ForestCourtsModel", "why", "(I)I"⟩ ∈ TT := in_tb (tb_9 (List.mem_of_getElem? (i := 195) rfl)) rfl
theorem tw_2238 : Cond.code ⟨"ForestCourtsModel", "why", "(I)I"⟩ prog_14_method_77_code 2 (Option.some FieldType.int) ∈ TT := in_tb (tb_9 (List.mem_of_getElem? (i := 196) rfl)) rfl
theorem tw_2239 : Cond.methodLink "ForestCourtsLaw" 214 ⟨"ForestCourtsModel", "fine", "(I)I"⟩ ∈ TT := in_tb (tb_9 (List.mem_of_getElem? (i := 197) rfl)) rfl
theorem tw_2240 : Cond.instanceMethod ⟨"ForestCourtsModel", "fine", "(I)I"⟩ ∈ TT := in_tb (tb_9 (List.mem_of_getElem? (i := 198) rfl)) rfl
theorem tw_2241 : Cond.selects "ForestCourtsModel" ⟨"ForestCourtsModel", "fine", "(I)I"⟩ ⟨"ForestCourtsModel", "fine", "(I)I"⟩ ∈ TT := in_tb (tb_9 (List.mem_of_getElem? (i := 199) rfl)) rfl
theorem tw_2242 : Cond.code ⟨"ForestCourtsModel", "fine", "(I)I"⟩ prog_14_method_78_code 2 (Option.some FieldType.int) ∈ TT := in_tb (tb_9 (List.mem_of_getElem? (i := 200) rfl)) rfl
theorem tw_2243 : Cond.methodLink "ForestCourtsLaw" 218 ⟨"ForestCourtsModel", "present", "(IIII)I"⟩ ∈ TT := in_tb (tb_9 (List.mem_of_getElem? (i := 201) rfl)) rfl
theorem tw_2244 : Cond.instanceMethod ⟨"ForestCourtsModel", "present", "(IIII)I"⟩ ∈ TT := in_tb (tb_9 (List.mem_of_getElem? (i := 202) rfl)) rfl
theorem tw_2245 : Cond.selects "ForestCourtsModel" ⟨"ForestCourtsModel", "present", "(IIII)I"⟩ ⟨"ForestCourtsModel", "present", "(IIII)I"⟩ ∈ TT := in_tb (tb_9 (List.mem_of_getElem? (i := 203) rfl)) rfl
theorem tw_2246 : Cond.code ⟨"ForestCourtsModel", "present", "(IIII)I"⟩ prog_14_method_79_code 6 (Option.some FieldType.int) ∈ TT := in_tb (tb_9 (List.mem_of_getElem? (i := 204) rfl)) rfl
theorem tw_2247 : Cond.methodLink "ForestCourtsLaw" 221 ⟨"ForestCourtsModel", "proof", "(II)I"⟩ ∈ TT := in_tb (tb_9 (List.mem_of_getElem? (i := 205) rfl)) rfl
theorem tw_2248 : Cond.instanceMethod ⟨"ForestCourtsModel", "proof", "(II)I"⟩ ∈ TT := in_tb (tb_9 (List.mem_of_getElem? (i := 206) rfl)) rfl
theorem tw_2249 : Cond.selects "ForestCourtsModel" ⟨"ForestCourtsModel", "proof", "(II)I"⟩ ⟨"ForestCourtsModel", "proof", "(II)I"⟩ ∈ TT := in_tb (tb_9 (List.mem_of_getElem? (i := 207) rfl)) rfl
theorem tw_2250 : Cond.code ⟨"ForestCourtsModel", "proof", "(II)I"⟩ prog_14_method_81_code 3 (Option.some FieldType.int) ∈ TT := in_tb (tb_9 (List.mem_of_getElem? (i := 208) rfl)) rfl
theorem tw_2251 : Cond.methodLink "ForestCourtsModel" 569 ⟨"ForestCourtsModel", "isCase", "(I)Z"⟩ ∈ TT := in_tb (tb_9 (List.mem_of_getElem? (i := 209) rfl)) rfl
theorem tw_2253 : Cond.instanceMethod ⟨"ForestCourtsModel", "isCase", "(I)Z"⟩ ∈ TT := in_tb (tb_9 (List.mem_of_getElem? (i := 211) rfl)) rfl
theorem tw_2254 : Cond.code ⟨"ForestCourtsModel", "isCase", "(I)Z"⟩ prog_14_method_80_code 2 (Option.some FieldType.boolean) ∈ TT := in_tb (tb_9 (List.mem_of_getElem? (i := 212) rfl)) rfl
theorem tw_2255 : Cond.methodLink "ForestCourtsLaw" 224 ⟨"ForestCourtsModel", "of", "(II)I"⟩ ∈ TT := in_tb (tb_9 (List.mem_of_getElem? (i := 213) rfl)) rfl
theorem tw_2256 : Cond.instanceMethod ⟨"ForestCourtsModel", "of", "(II)I"⟩ ∈ TT := in_tb (tb_9 (List.mem_of_getElem? (i := 214) rfl)) rfl
theorem tw_2257 : Cond.selects "ForestCourtsModel" ⟨"ForestCourtsModel", "of", "(II)I"⟩ ⟨"ForestCourtsModel", "of", "(II)I"⟩ ∈ TT := in_tb (tb_9 (List.mem_of_getElem? (i := 215) rfl)) rfl
theorem tw_2258 : Cond.code ⟨"ForestCourtsModel", "of", "(II)I"⟩ prog_14_method_82_code 3 (Option.some FieldType.int) ∈ TT := in_tb (tb_9 (List.mem_of_getElem? (i := 216) rfl)) rfl
theorem tw_2259 : Cond.methodLink "ForestCourtsLaw" 133 ⟨"ForestCourtsModel", "wait", "(I)I"⟩ ∈ TT := in_tb (tb_9 (List.mem_of_getElem? (i := 217) rfl)) rfl
theorem tw_2260 : Cond.instanceMethod ⟨"ForestCourtsModel", "wait", "(I)I"⟩ ∈ TT := in_tb (tb_9 (List.mem_of_getElem? (i := 218) rfl)) rfl
theorem tw_2261 : Cond.selects "ForestCourtsModel" ⟨"ForestCourtsModel", "wait", "(I)I"⟩ ⟨"ForestCourtsModel", "wait", "(I)I"⟩ ∈ TT := in_tb (tb_9 (List.mem_of_getElem? (i := 219) rfl)) rfl
theorem tw_2262 : Cond.code ⟨"ForestCourtsModel", "wait", "(I)I"⟩ prog_14_method_90_code 4 (Option.some FieldType.int) ∈ TT := in_tb (tb_9 (List.mem_of_getElem? (i := 220) rfl)) rfl
theorem tw_2263 : Cond.methodLink "ForestCourtsModel" 594 ⟨"ForestCourtsModel", "sits", "(I)V"⟩ ∈ TT := in_tb (tb_9 (List.mem_of_getElem? (i := 221) rfl)) rfl
theorem tw_2265 : Cond.instanceMethod ⟨"ForestCourtsModel", "sits", "(I)V"⟩ ∈ TT := in_tb (tb_9 (List.mem_of_getElem? (i := 223) rfl)) rfl
theorem tw_2266 : Cond.code ⟨"ForestCourtsModel", "sits", "(I)V"⟩ prog_14_method_89_code 4 (Option.none : Option FieldType) ∈ TT := in_tb (tb_9 (List.mem_of_getElem? (i := 224) rfl)) rfl
theorem tw_2267 : Cond.methodLink "ForestCourtsModel" 588 ⟨"ForestCourtsModel", "isAnswered", "(I)Z"⟩ ∈ TT := in_tb (tb_9 (List.mem_of_getElem? (i := 225) rfl)) rfl
theorem tw_2269 : Cond.instanceMethod ⟨"ForestCourtsModel", "isAnswered", "(I)Z"⟩ ∈ TT := in_tb (tb_9 (List.mem_of_getElem? (i := 227) rfl)) rfl
theorem tw_2270 : Cond.code ⟨"ForestCourtsModel", "isAnswered", "(I)Z"⟩ prog_14_method_84_code 3 (Option.some FieldType.boolean) ∈ TT := in_tb (tb_9 (List.mem_of_getElem? (i := 228) rfl)) rfl
theorem tw_2271 : Cond.methodLink "ForestCourtsModel" 572 ⟨"ForestCourtsModel", "becomes", "(II)V"⟩ ∈ TT := in_tb (tb_9 (List.mem_of_getElem? (i := 229) rfl)) rfl
theorem tw_2273 : Cond.instanceMethod ⟨"ForestCourtsModel", "becomes", "(II)V"⟩ ∈ TT := in_tb (tb_9 (List.mem_of_getElem? (i := 231) rfl)) rfl
theorem tw_2274 : Cond.code ⟨"ForestCourtsModel", "becomes", "(II)V"⟩ prog_14_method_83_code 3 (Option.none : Option FieldType) ∈ TT := in_tb (tb_9 (List.mem_of_getElem? (i := 232) rfl)) rfl
theorem tw_2275 : Cond.methodLink "ForestCourtsModel" 591 ⟨"ForestCourtsModel", "asks", "(I)V"⟩ ∈ TT := in_tb (tb_9 (List.mem_of_getElem? (i := 233) rfl)) rfl
theorem tw_2277 : Cond.instanceMethod ⟨"ForestCourtsModel", "asks", "(I)V"⟩ ∈ TT := in_tb (tb_9 (List.mem_of_getElem? (i := 235) rfl)) rfl
theorem tw_2278 : Cond.code ⟨"ForestCourtsModel", "asks", "(I)V"⟩ prog_14_method_88_code 3 (Option.none : Option FieldType) ∈ TT := in_tb (tb_9 (List.mem_of_getElem? (i := 236) rfl)) rfl
theorem tw_2279 : Cond.methodLink "ForestCourtsModel" 581 ⟨"ForestCourtsModel", "pays", "(IIII)V"⟩ ∈ TT := in_tb (tb_9 (List.mem_of_getElem? (i := 237) rfl)) rfl
theorem tw_2281 : Cond.instanceMethod ⟨"ForestCourtsModel", "pays", "(IIII)V"⟩ ∈ TT := in_tb (tb_9 (List.mem_of_getElem? (i := 239) rfl)) rfl
theorem tw_2282 : Cond.code ⟨"ForestCourtsModel", "pays", "(IIII)V"⟩ prog_14_method_86_code 8 (Option.none : Option FieldType) ∈ TT := in_tb (tb_10 (List.mem_of_getElem? (i := 0) rfl)) rfl
theorem tw_2283 : Cond.methodLink "ForestCourtsModel" 575 ⟨"ForestCourtsModel", "gains", "(II)V"⟩ ∈ TT := in_tb (tb_10 (List.mem_of_getElem? (i := 1) rfl)) rfl
theorem tw_2285 : Cond.instanceMethod ⟨"ForestCourtsModel", "gains", "(II)V"⟩ ∈ TT := in_tb (tb_10 (List.mem_of_getElem? (i := 3) rfl)) rfl
theorem tw_2286 : Cond.code ⟨"ForestCourtsModel", "gains", "(II)V"⟩ prog_14_method_85_code 3 (Option.none : Option FieldType) ∈ TT := in_tb (tb_10 (List.mem_of_getElem? (i := 4) rfl)) rfl
theorem tw_2287 : Cond.methodLink "ForestCourtsModel" 585 ⟨"ForestCourtsModel", "payer", "(I)I"⟩ ∈ TT := in_tb (tb_10 (List.mem_of_getElem? (i := 5) rfl)) rfl
theorem tw_2289 : Cond.instanceMethod ⟨"ForestCourtsModel", "payer", "(I)I"⟩ ∈ TT := in_tb (tb_10 (List.mem_of_getElem? (i := 7) rfl)) rfl
theorem tw_2290 : Cond.code ⟨"ForestCourtsModel", "payer", "(I)I"⟩ prog_14_method_87_code 2 (Option.some FieldType.int) ∈ TT := in_tb (tb_10 (List.mem_of_getElem? (i := 8) rfl)) rfl
theorem tw_2291 : Cond.methodLink "ForestCourtsLaw" 227 ⟨"ForestCourtsModel", "claim", "(IIII)I"⟩ ∈ TT := in_tb (tb_10 (List.mem_of_getElem? (i := 9) rfl)) rfl
theorem tw_2292 : Cond.instanceMethod ⟨"ForestCourtsModel", "claim", "(IIII)I"⟩ ∈ TT := in_tb (tb_10 (List.mem_of_getElem? (i := 10) rfl)) rfl
theorem tw_2293 : Cond.selects "ForestCourtsModel" ⟨"ForestCourtsModel", "claim", "(IIII)I"⟩ ⟨"ForestCourtsModel", "claim", "(IIII)I"⟩ ∈ TT := in_tb (tb_10 (List.mem_of_getElem? (i := 11) rfl)) rfl
theorem tw_2294 : Cond.code ⟨"ForestCourtsModel", "claim", "(IIII)I"⟩ prog_14_method_91_code 5 (Option.some FieldType.int) ∈ TT := in_tb (tb_10 (List.mem_of_getElem? (i := 12) rfl)) rfl
theorem tw_2295 : Cond.methodLink "ForestCourtsLaw" 230 ⟨"ForestCourtsModel", "use", "(III)I"⟩ ∈ TT := in_tb (tb_10 (List.mem_of_getElem? (i := 13) rfl)) rfl
theorem tw_2296 : Cond.instanceMethod ⟨"ForestCourtsModel", "use", "(III)I"⟩ ∈ TT := in_tb (tb_10 (List.mem_of_getElem? (i := 14) rfl)) rfl
theorem tw_2297 : Cond.selects "ForestCourtsModel" ⟨"ForestCourtsModel", "use", "(III)I"⟩ ⟨"ForestCourtsModel", "use", "(III)I"⟩ ∈ TT := in_tb (tb_10 (List.mem_of_getElem? (i := 15) rfl)) rfl
theorem tw_2298 : Cond.code ⟨"ForestCourtsModel", "use", "(III)I"⟩ prog_14_method_92_code 4 (Option.some FieldType.int) ∈ TT := in_tb (tb_10 (List.mem_of_getElem? (i := 16) rfl)) rfl
theorem tw_2299 : Cond.methodLink "ForestCourtsLaw" 233 ⟨"ForestCourtsModel", "sure", "(II)I"⟩ ∈ TT := in_tb (tb_10 (List.mem_of_getElem? (i := 17) rfl)) rfl
theorem tw_2300 : Cond.instanceMethod ⟨"ForestCourtsModel", "sure", "(II)I"⟩ ∈ TT := in_tb (tb_10 (List.mem_of_getElem? (i := 18) rfl)) rfl
theorem tw_2301 : Cond.selects "ForestCourtsModel" ⟨"ForestCourtsModel", "sure", "(II)I"⟩ ⟨"ForestCourtsModel", "sure", "(II)I"⟩ ∈ TT := in_tb (tb_10 (List.mem_of_getElem? (i := 19) rfl)) rfl
theorem tw_2302 : Cond.code ⟨"ForestCourtsModel", "sure", "(II)I"⟩ prog_14_method_94_code 3 (Option.some FieldType.int) ∈ TT := in_tb (tb_10 (List.mem_of_getElem? (i := 20) rfl)) rfl
theorem tw_2303 : Cond.methodLink "ForestCourtsLaw" 236 ⟨"ForestCourtsModel", "enter", "(III)I"⟩ ∈ TT := in_tb (tb_10 (List.mem_of_getElem? (i := 21) rfl)) rfl
theorem tw_2304 : Cond.instanceMethod ⟨"ForestCourtsModel", "enter", "(III)I"⟩ ∈ TT := in_tb (tb_10 (List.mem_of_getElem? (i := 22) rfl)) rfl
theorem tw_2305 : Cond.selects "ForestCourtsModel" ⟨"ForestCourtsModel", "enter", "(III)I"⟩ ⟨"ForestCourtsModel", "enter", "(III)I"⟩ ∈ TT := in_tb (tb_10 (List.mem_of_getElem? (i := 23) rfl)) rfl
theorem tw_2306 : Cond.code ⟨"ForestCourtsModel", "enter", "(III)I"⟩ prog_14_method_95_code 6 (Option.some FieldType.int) ∈ TT := in_tb (tb_10 (List.mem_of_getElem? (i := 24) rfl)) rfl
theorem tw_2307 : Cond.methodLink "ForestCourtsLaw" 240 ⟨"ForestCourtsModel", "quarrel", "()I"⟩ ∈ TT := in_tb (tb_10 (List.mem_of_getElem? (i := 25) rfl)) rfl
theorem tw_2308 : Cond.instanceMethod ⟨"ForestCourtsModel", "quarrel", "()I"⟩ ∈ TT := in_tb (tb_10 (List.mem_of_getElem? (i := 26) rfl)) rfl
theorem tw_2309 : Cond.selects "ForestCourtsModel" ⟨"ForestCourtsModel", "quarrel", "()I"⟩ ⟨"ForestCourtsModel", "quarrel", "()I"⟩ ∈ TT := in_tb (tb_10 (List.mem_of_getElem? (i := 27) rfl)) rfl
theorem tw_2310 : Cond.code ⟨"ForestCourtsModel", "quarrel", "()I"⟩ prog_14_method_100_code 1 (Option.some FieldType.int) ∈ TT := in_tb (tb_10 (List.mem_of_getElem? (i := 28) rfl)) rfl
theorem tw_2311 : Cond.methodLink "ForestCourtsModel" 613 ⟨"ForestCourtsModel", "lists", "()Z"⟩ ∈ TT := in_tb (tb_10 (List.mem_of_getElem? (i := 29) rfl)) rfl
theorem tw_2313 : Cond.instanceMethod ⟨"ForestCourtsModel", "lists", "()Z"⟩ ∈ TT := in_tb (tb_10 (List.mem_of_getElem? (i := 31) rfl)) rfl
theorem tw_2314 : Cond.code ⟨"ForestCourtsModel", "lists", "()Z"⟩ prog_14_method_98_code 6 (Option.some FieldType.boolean) ∈ TT := in_tb (tb_10 (List.mem_of_getElem? (i := 32) rfl)) rfl
theorem tw_2315 : Cond.methodLink "ForestCourtsModel" 603 ⟨"ForestCourtsModel", "isListed", "(I)Z"⟩ ∈ TT := in_tb (tb_10 (List.mem_of_getElem? (i := 33) rfl)) rfl
theorem tw_2317 : Cond.instanceMethod ⟨"ForestCourtsModel", "isListed", "(I)Z"⟩ ∈ TT := in_tb (tb_10 (List.mem_of_getElem? (i := 35) rfl)) rfl
theorem tw_2318 : Cond.code ⟨"ForestCourtsModel", "isListed", "(I)Z"⟩ prog_14_method_97_code 3 (Option.some FieldType.boolean) ∈ TT := in_tb (tb_10 (List.mem_of_getElem? (i := 36) rfl)) rfl
theorem tw_2319 : Cond.methodLink "ForestCourtsModel" 597 ⟨"ForestCourtsModel", "placeIn", "(II)I"⟩ ∈ TT := in_tb (tb_10 (List.mem_of_getElem? (i := 37) rfl)) rfl
theorem tw_2321 : Cond.instanceMethod ⟨"ForestCourtsModel", "placeIn", "(II)I"⟩ ∈ TT := in_tb (tb_10 (List.mem_of_getElem? (i := 39) rfl)) rfl
theorem tw_2322 : Cond.code ⟨"ForestCourtsModel", "placeIn", "(II)I"⟩ prog_14_method_96_code 4 (Option.some FieldType.int) ∈ TT := in_tb (tb_10 (List.mem_of_getElem? (i := 40) rfl)) rfl
theorem tw_2323 : Cond.methodLink "ForestCourtsModel" 609 ⟨"ForestCourtsModel", "orders", "(III)V"⟩ ∈ TT := in_tb (tb_10 (List.mem_of_getElem? (i := 41) rfl)) rfl
theorem tw_2325 : Cond.instanceMethod ⟨"ForestCourtsModel", "orders", "(III)V"⟩ ∈ TT := in_tb (tb_10 (List.mem_of_getElem? (i := 43) rfl)) rfl
theorem tw_2326 : Cond.code ⟨"ForestCourtsModel", "orders", "(III)V"⟩ prog_14_method_99_code 7 (Option.none : Option FieldType) ∈ TT := in_tb (tb_10 (List.mem_of_getElem? (i := 44) rfl)) rfl
theorem tw_2327 : Cond.methodLink "ForestCourtsLaw" 243 ⟨"ForestCourtsModel", "joined", "(II)I"⟩ ∈ TT := in_tb (tb_10 (List.mem_of_getElem? (i := 45) rfl)) rfl
theorem tw_2328 : Cond.instanceMethod ⟨"ForestCourtsModel", "joined", "(II)I"⟩ ∈ TT := in_tb (tb_10 (List.mem_of_getElem? (i := 46) rfl)) rfl
theorem tw_2329 : Cond.selects "ForestCourtsModel" ⟨"ForestCourtsModel", "joined", "(II)I"⟩ ⟨"ForestCourtsModel", "joined", "(II)I"⟩ ∈ TT := in_tb (tb_10 (List.mem_of_getElem? (i := 47) rfl)) rfl
theorem tw_2330 : Cond.code ⟨"ForestCourtsModel", "joined", "(II)I"⟩ prog_14_method_103_code 4 (Option.some FieldType.int) ∈ TT := in_tb (tb_10 (List.mem_of_getElem? (i := 48) rfl)) rfl
theorem tw_2331 : Cond.methodLink "ForestCourtsModel" 619 ⟨"ForestCourtsModel", "sumOf", "(I)I"⟩ ∈ TT := in_tb (tb_10 (List.mem_of_getElem? (i := 49) rfl)) rfl
theorem tw_2333 : Cond.instanceMethod ⟨"ForestCourtsModel", "sumOf", "(I)I"⟩ ∈ TT := in_tb (tb_10 (List.mem_of_getElem? (i := 51) rfl)) rfl
theorem tw_2334 : Cond.code ⟨"ForestCourtsModel", "sumOf", "(I)I"⟩ prog_14_method_102_code 6 (Option.some FieldType.int) ∈ TT := in_tb (tb_10 (List.mem_of_getElem? (i := 52) rfl)) rfl
theorem tw_2335 : Cond.methodLink "ForestCourtsModel" 616 ⟨"ForestCourtsModel", "apart", "(II)I"⟩ ∈ TT := in_tb (tb_10 (List.mem_of_getElem? (i := 53) rfl)) rfl
theorem tw_2337 : Cond.instanceMethod ⟨"ForestCourtsModel", "apart", "(II)I"⟩ ∈ TT := in_tb (tb_10 (List.mem_of_getElem? (i := 55) rfl)) rfl
theorem tw_2338 : Cond.code ⟨"ForestCourtsModel", "apart", "(II)I"⟩ prog_14_method_101_code 6 (Option.some FieldType.int) ∈ TT := in_tb (tb_10 (List.mem_of_getElem? (i := 56) rfl)) rfl
theorem tw_2339 : Cond.methodLink "ForestCourtsLaw" 246 ⟨"ForestCourtsModel", "lodge", "(IIII)I"⟩ ∈ TT := in_tb (tb_10 (List.mem_of_getElem? (i := 57) rfl)) rfl
theorem tw_2340 : Cond.instanceMethod ⟨"ForestCourtsModel", "lodge", "(IIII)I"⟩ ∈ TT := in_tb (tb_10 (List.mem_of_getElem? (i := 58) rfl)) rfl
theorem tw_2341 : Cond.selects "ForestCourtsModel" ⟨"ForestCourtsModel", "lodge", "(IIII)I"⟩ ⟨"ForestCourtsModel", "lodge", "(IIII)I"⟩ ∈ TT := in_tb (tb_10 (List.mem_of_getElem? (i := 59) rfl)) rfl
theorem tw_2342 : Cond.code ⟨"ForestCourtsModel", "lodge", "(IIII)I"⟩ prog_14_method_104_code 5 (Option.some FieldType.int) ∈ TT := in_tb (tb_10 (List.mem_of_getElem? (i := 60) rfl)) rfl
theorem tw_2343 : Cond.methodLink "ForestCourtsLaw" 249 ⟨"ForestCourtsModel", "spot", "(III)I"⟩ ∈ TT := in_tb (tb_10 (List.mem_of_getElem? (i := 61) rfl)) rfl
theorem tw_2344 : Cond.instanceMethod ⟨"ForestCourtsModel", "spot", "(III)I"⟩ ∈ TT := in_tb (tb_10 (List.mem_of_getElem? (i := 62) rfl)) rfl
theorem tw_2345 : Cond.selects "ForestCourtsModel" ⟨"ForestCourtsModel", "spot", "(III)I"⟩ ⟨"ForestCourtsModel", "spot", "(III)I"⟩ ∈ TT := in_tb (tb_10 (List.mem_of_getElem? (i := 63) rfl)) rfl
theorem tw_2346 : Cond.code ⟨"ForestCourtsModel", "spot", "(III)I"⟩ prog_14_method_105_code 4 (Option.some FieldType.int) ∈ TT := in_tb (tb_10 (List.mem_of_getElem? (i := 64) rfl)) rfl
theorem tw_2347 : Cond.methodLink "ForestCourtsLaw" 253 ⟨"ForestCourtsModel", "beats", "()I"⟩ ∈ TT := in_tb (tb_10 (List.mem_of_getElem? (i := 65) rfl)) rfl
theorem tw_2348 : Cond.instanceMethod ⟨"ForestCourtsModel", "beats", "()I"⟩ ∈ TT := in_tb (tb_10 (List.mem_of_getElem? (i := 66) rfl)) rfl
theorem tw_2349 : Cond.selects "ForestCourtsModel" ⟨"ForestCourtsModel", "beats", "()I"⟩ ⟨"ForestCourtsModel", "beats", "()I"⟩ ∈ TT := in_tb (tb_10 (List.mem_of_getElem? (i := 67) rfl)) rfl
theorem tw_2350 : Cond.code ⟨"ForestCourtsModel", "beats", "()I"⟩ prog_14_method_109_code 1 (Option.some FieldType.int) ∈ TT := in_tb (tb_10 (List.mem_of_getElem? (i := 68) rfl)) rfl
theorem tw_2351 : Cond.methodLink "ForestCourtsModel" 636 ⟨"ForestCourtsModel", "beaten", "()Z"⟩ ∈ TT := in_tb (tb_10 (List.mem_of_getElem? (i := 69) rfl)) rfl
theorem tw_2353 : Cond.instanceMethod ⟨"ForestCourtsModel", "beaten", "()Z"⟩ ∈ TT := in_tb (tb_10 (List.mem_of_getElem? (i := 71) rfl)) rfl
theorem tw_2354 : Cond.code ⟨"ForestCourtsModel", "beaten", "()Z"⟩ prog_14_method_108_code 3 (Option.some FieldType.boolean) ∈ TT := in_tb (tb_10 (List.mem_of_getElem? (i := 72) rfl)) rfl
theorem tw_2355 : Cond.methodLink "ForestCourtsModel" 633 ⟨"ForestCourtsModel", "rounds", "(I)V"⟩ ∈ TT := in_tb (tb_10 (List.mem_of_getElem? (i := 73) rfl)) rfl
theorem tw_2357 : Cond.instanceMethod ⟨"ForestCourtsModel", "rounds", "(I)V"⟩ ∈ TT := in_tb (tb_10 (List.mem_of_getElem? (i := 75) rfl)) rfl
theorem tw_2358 : Cond.code ⟨"ForestCourtsModel", "rounds", "(I)V"⟩ prog_14_method_106_code 11 (Option.none : Option FieldType) ∈ TT := in_tb (tb_10 (List.mem_of_getElem? (i := 76) rfl)) rfl
theorem tw_2359 : Cond.constant "ForestCourtsModel" 625 (1000000000) ∈ TT := in_tb (tb_10 (List.mem_of_getElem? (i := 77) rfl)) rfl
theorem tw_2360 : Cond.methodLink "ForestCourtsModel" 629 ⟨"ForestCourtsModel", "gives", "(IIIIZ)V"⟩ ∈ TT := in_tb (tb_10 (List.mem_of_getElem? (i := 78) rfl)) rfl
theorem tw_2362 : Cond.instanceMethod ⟨"ForestCourtsModel", "gives", "(IIIIZ)V"⟩ ∈ TT := in_tb (tb_10 (List.mem_of_getElem? (i := 80) rfl)) rfl
theorem tw_2363 : Cond.code ⟨"ForestCourtsModel", "gives", "(IIIIZ)V"⟩ prog_14_method_107_code 7 (Option.none : Option FieldType) ∈ TT := in_tb (tb_10 (List.mem_of_getElem? (i := 81) rfl)) rfl
theorem tw_2364 : Cond.methodLink "ForestCourtsLaw" 256 ⟨"ForestCourtsModel", "beat", "(I)I"⟩ ∈ TT := in_tb (tb_10 (List.mem_of_getElem? (i := 82) rfl)) rfl
theorem tw_2365 : Cond.instanceMethod ⟨"ForestCourtsModel", "beat", "(I)I"⟩ ∈ TT := in_tb (tb_10 (List.mem_of_getElem? (i := 83) rfl)) rfl
theorem tw_2366 : Cond.selects "ForestCourtsModel" ⟨"ForestCourtsModel", "beat", "(I)I"⟩ ⟨"ForestCourtsModel", "beat", "(I)I"⟩ ∈ TT := in_tb (tb_10 (List.mem_of_getElem? (i := 84) rfl)) rfl
theorem tw_2367 : Cond.code ⟨"ForestCourtsModel", "beat", "(I)I"⟩ prog_14_method_110_code 2 (Option.some FieldType.int) ∈ TT := in_tb (tb_10 (List.mem_of_getElem? (i := 85) rfl)) rfl
theorem tw_2368 : Cond.methodLink "ForestCourtsLaw" 259 ⟨"ForestCourtsModel", "wood", "(III)I"⟩ ∈ TT := in_tb (tb_10 (List.mem_of_getElem? (i := 86) rfl)) rfl
theorem tw_2369 : Cond.instanceMethod ⟨"ForestCourtsModel", "wood", "(III)I"⟩ ∈ TT := in_tb (tb_10 (List.mem_of_getElem? (i := 87) rfl)) rfl
theorem tw_2370 : Cond.selects "ForestCourtsModel" ⟨"ForestCourtsModel", "wood", "(III)I"⟩ ⟨"ForestCourtsModel", "wood", "(III)I"⟩ ∈ TT := in_tb (tb_10 (List.mem_of_getElem? (i := 88) rfl)) rfl
theorem tw_2371 : Cond.code ⟨"ForestCourtsModel", "wood", "(III)I"⟩ prog_14_method_112_code 4 (Option.some FieldType.int) ∈ TT := in_tb (tb_10 (List.mem_of_getElem? (i := 89) rfl)) rfl
theorem tw_2372 : Cond.methodLink "ForestCourtsModel" 639 ⟨"ForestCourtsModel", "isYear", "(I)Z"⟩ ∈ TT := in_tb (tb_10 (List.mem_of_getElem? (i := 90) rfl)) rfl
theorem tw_2373 : Cond.static ⟨"ForestCourtsModel", "isYear", "(I)Z"⟩ ∈ TT := in_tb (tb_10 (List.mem_of_getElem? (i := 91) rfl)) rfl
theorem tw_2374 : Cond.code ⟨"ForestCourtsModel", "isYear", "(I)Z"⟩ prog_14_method_111_code 1 (Option.some FieldType.boolean) ∈ TT := in_tb (tb_10 (List.mem_of_getElem? (i := 92) rfl)) rfl
theorem tw_2375 : Cond.methodLink "ForestCourtsLaw" 262 ⟨"ForestCourtsModel", "take", "(IIII)I"⟩ ∈ TT := in_tb (tb_10 (List.mem_of_getElem? (i := 93) rfl)) rfl
theorem tw_2376 : Cond.instanceMethod ⟨"ForestCourtsModel", "take", "(IIII)I"⟩ ∈ TT := in_tb (tb_10 (List.mem_of_getElem? (i := 94) rfl)) rfl
theorem tw_2377 : Cond.selects "ForestCourtsModel" ⟨"ForestCourtsModel", "take", "(IIII)I"⟩ ⟨"ForestCourtsModel", "take", "(IIII)I"⟩ ∈ TT := in_tb (tb_10 (List.mem_of_getElem? (i := 95) rfl)) rfl
theorem tw_2378 : Cond.code ⟨"ForestCourtsModel", "take", "(IIII)I"⟩ prog_14_method_114_code 5 (Option.some FieldType.int) ∈ TT := in_tb (tb_10 (List.mem_of_getElem? (i := 96) rfl)) rfl
theorem tw_2379 : Cond.methodLink "ForestCourtsModel" 645 ⟨"ForestCourtsModel", "isWood", "(I)Z"⟩ ∈ TT := in_tb (tb_10 (List.mem_of_getElem? (i := 97) rfl)) rfl
theorem tw_2381 : Cond.instanceMethod ⟨"ForestCourtsModel", "isWood", "(I)Z"⟩ ∈ TT := in_tb (tb_10 (List.mem_of_getElem? (i := 99) rfl)) rfl
theorem tw_2382 : Cond.code ⟨"ForestCourtsModel", "isWood", "(I)Z"⟩ prog_14_method_113_code 2 (Option.some FieldType.boolean) ∈ TT := in_tb (tb_10 (List.mem_of_getElem? (i := 100) rfl)) rfl
theorem tw_2383 : Cond.methodLink "ForestCourtsLaw" 265 ⟨"ForestCourtsModel", "stock", "(IIII)I"⟩ ∈ TT := in_tb (tb_10 (List.mem_of_getElem? (i := 101) rfl)) rfl
theorem tw_2384 : Cond.instanceMethod ⟨"ForestCourtsModel", "stock", "(IIII)I"⟩ ∈ TT := in_tb (tb_10 (List.mem_of_getElem? (i := 102) rfl)) rfl
theorem tw_2385 : Cond.selects "ForestCourtsModel" ⟨"ForestCourtsModel", "stock", "(IIII)I"⟩ ⟨"ForestCourtsModel", "stock", "(IIII)I"⟩ ∈ TT := in_tb (tb_10 (List.mem_of_getElem? (i := 103) rfl)) rfl
theorem tw_2386 : Cond.code ⟨"ForestCourtsModel", "stock", "(IIII)I"⟩ prog_14_method_117_code 8 (Option.some FieldType.int) ∈ TT := in_tb (tb_10 (List.mem_of_getElem? (i := 104) rfl)) rfl
theorem tw_2387 : Cond.methodLink "ForestCourtsModel" 651 ⟨"ForestCourtsModel", "left", "(IIIII)I"⟩ ∈ TT := in_tb (tb_10 (List.mem_of_getElem? (i := 105) rfl)) rfl
theorem tw_2389 : Cond.instanceMethod ⟨"ForestCourtsModel", "left", "(IIIII)I"⟩ ∈ TT := in_tb (tb_10 (List.mem_of_getElem? (i := 107) rfl)) rfl
theorem tw_2390 : Cond.code ⟨"ForestCourtsModel", "left", "(IIIII)I"⟩ prog_14_method_115_code 8 (Option.some FieldType.int) ∈ TT := in_tb (tb_10 (List.mem_of_getElem? (i := 108) rfl)) rfl
theorem tw_2391 : Cond.methodLink "ForestCourtsModel" 655 ⟨"ForestCourtsModel", "most", "(I)I"⟩ ∈ TT := in_tb (tb_10 (List.mem_of_getElem? (i := 109) rfl)) rfl
theorem tw_2392 : Cond.static ⟨"ForestCourtsModel", "most", "(I)I"⟩ ∈ TT := in_tb (tb_10 (List.mem_of_getElem? (i := 110) rfl)) rfl
theorem tw_2393 : Cond.code ⟨"ForestCourtsModel", "most", "(I)I"⟩ prog_14_method_116_code 1 (Option.some FieldType.int) ∈ TT := in_tb (tb_10 (List.mem_of_getElem? (i := 111) rfl)) rfl
theorem tw_2394 : Cond.methodLink "ForestCourtsLaw" 269 ⟨"ForestCourtsModel", "count", "(I)I"⟩ ∈ TT := in_tb (tb_10 (List.mem_of_getElem? (i := 112) rfl)) rfl
theorem tw_2395 : Cond.instanceMethod ⟨"ForestCourtsModel", "count", "(I)I"⟩ ∈ TT := in_tb (tb_10 (List.mem_of_getElem? (i := 113) rfl)) rfl
theorem tw_2396 : Cond.selects "ForestCourtsModel" ⟨"ForestCourtsModel", "count", "(I)I"⟩ ⟨"ForestCourtsModel", "count", "(I)I"⟩ ∈ TT := in_tb (tb_10 (List.mem_of_getElem? (i := 114) rfl)) rfl
theorem tw_2397 : Cond.code ⟨"ForestCourtsModel", "count", "(I)I"⟩ prog_14_method_118_code 2 (Option.some FieldType.int) ∈ TT := in_tb (tb_10 (List.mem_of_getElem? (i := 115) rfl)) rfl
theorem tw_2400 : Cond.fieldLink "java/lang/String" 9 "java/lang/String" "value" "[B" ∈ TT := in_tb (tb_10 (List.mem_of_getElem? (i := 118) rfl)) rfl
theorem tw_2401 : Cond.fieldLink "java/lang/String" 15 "java/lang/String" "coder" "B" ∈ TT := in_tb (tb_10 (List.mem_of_getElem? (i := 119) rfl)) rfl
theorem tm_min : Cond.code ⟨"java/lang/Math", "min", "(II)I"⟩ Lib.Math.min.code 2 (some .int) ∈ TT := in_tb (tb_2 (List.mem_of_getElem? (i := 6) rfl)) rfl
theorem tm_max : Cond.code ⟨"java/lang/Math", "max", "(II)I"⟩ Lib.Math.max.code 2 (some .int) ∈ TT := in_tb (tb_1 (List.mem_of_getElem? (i := 44) rfl)) rfl
theorem tm_abs : Cond.code ⟨"java/lang/Math", "abs", "(I)I"⟩ Lib.Math.abs.code 1 (some .int) ∈ TT := in_tb (tb_3 (List.mem_of_getElem? (i := 50) rfl)) rfl
theorem in_X0 : ∀ w ∈ u_ws RX0 TX0 4, w ∈ TT := by
  intro w h
  obtain ⟨k, hk, rfl⟩ := List.mem_map.mp h
  have hk := List.mem_range.mp hk
  exact match k, hk with | 0, _ => tw_331 | 1, _ => tw_333 | 2, _ => tw_335 | 3, _ => tw_337 | j + 4, h => absurd h (by omega)
theorem in_X1 : ∀ w ∈ u_ws RX1 TX1 13, w ∈ TT := by
  intro w h
  obtain ⟨k, hk, rfl⟩ := List.mem_map.mp h
  have hk := List.mem_range.mp hk
  exact match k, hk with | 0, _ => tw_394 | 1, _ => tw_396 | 2, _ => tw_398 | 3, _ => tw_400 | 4, _ => tw_402 | 5, _ => tw_404 | 6, _ => tw_406 | 7, _ => tw_408 | 8, _ => tw_410 | 9, _ => tw_412 | 10, _ => tw_414 | 11, _ => tw_416 | 12, _ => tw_418 | j + 13, h => absurd h (by omega)
theorem in_X2 : ∀ w ∈ u_ws RX2 TX2 4, w ∈ TT := by
  intro w h
  obtain ⟨k, hk, rfl⟩ := List.mem_map.mp h
  have hk := List.mem_range.mp hk
  exact match k, hk with | 0, _ => tw_197 | 1, _ => tw_199 | 2, _ => tw_201 | 3, _ => tw_203 | j + 4, h => absurd h (by omega)
theorem in_X3 : ∀ w ∈ u_ws RX3 TX3 8, w ∈ TT := by
  intro w h
  obtain ⟨k, hk, rfl⟩ := List.mem_map.mp h
  have hk := List.mem_range.mp hk
  exact match k, hk with | 0, _ => tw_287 | 1, _ => tw_289 | 2, _ => tw_291 | 3, _ => tw_293 | 4, _ => tw_295 | 5, _ => tw_297 | 6, _ => tw_299 | 7, _ => tw_301 | j + 8, h => absurd h (by omega)
theorem in_X4 : ∀ w ∈ u_ws RX4 TX4 9, w ∈ TT := by
  intro w h
  obtain ⟨k, hk, rfl⟩ := List.mem_map.mp h
  have hk := List.mem_range.mp hk
  exact match k, hk with | 0, _ => tw_473 | 1, _ => tw_475 | 2, _ => tw_477 | 3, _ => tw_479 | 4, _ => tw_481 | 5, _ => tw_483 | 6, _ => tw_485 | 7, _ => tw_487 | 8, _ => tw_489 | j + 9, h => absurd h (by omega)
theorem in_X5 : ∀ w ∈ u_ws RX5 TX5 1, w ∈ TT := by
  intro w h
  obtain ⟨k, hk, rfl⟩ := List.mem_map.mp h
  have hk := List.mem_range.mp hk
  exact match k, hk with | 0, _ => tw_315 | j + 1, h => absurd h (by omega)
theorem in_X6 : ∀ w ∈ u_ws RX6 TX6 8, w ∈ TT := by
  intro w h
  obtain ⟨k, hk, rfl⟩ := List.mem_map.mp h
  have hk := List.mem_range.mp hk
  exact match k, hk with | 0, _ => tw_259 | 1, _ => tw_261 | 2, _ => tw_263 | 3, _ => tw_265 | 4, _ => tw_267 | 5, _ => tw_269 | 6, _ => tw_271 | 7, _ => tw_273 | j + 8, h => absurd h (by omega)
theorem in_X7 : ∀ w ∈ u_ws RX7 TX7 8, w ∈ TT := by
  intro w h
  obtain ⟨k, hk, rfl⟩ := List.mem_map.mp h
  have hk := List.mem_range.mp hk
  exact match k, hk with | 0, _ => tw_437 | 1, _ => tw_439 | 2, _ => tw_441 | 3, _ => tw_443 | 4, _ => tw_445 | 5, _ => tw_447 | 6, _ => tw_449 | 7, _ => tw_451 | j + 8, h => absurd h (by omega)
theorem in_X8 : ∀ w ∈ u_ws RX8 TX8 7, w ∈ TT := by
  intro w h
  obtain ⟨k, hk, rfl⟩ := List.mem_map.mp h
  have hk := List.mem_range.mp hk
  exact match k, hk with | 0, _ => tw_220 | 1, _ => tw_222 | 2, _ => tw_224 | 3, _ => tw_226 | 4, _ => tw_228 | 5, _ => tw_230 | 6, _ => tw_232 | j + 7, h => absurd h (by omega)
theorem in_X9 : ∀ w ∈ u_ws RX9 TX9 4, w ∈ TT := by
  intro w h
  obtain ⟨k, hk, rfl⟩ := List.mem_map.mp h
  have hk := List.mem_range.mp hk
  exact match k, hk with | 0, _ => tw_171 | 1, _ => tw_173 | 2, _ => tw_175 | 3, _ => tw_177 | j + 4, h => absurd h (by omega)
theorem in_X10 : ∀ w ∈ u_ws RX10 TX10 2, w ∈ TT := by
  intro w h
  obtain ⟨k, hk, rfl⟩ := List.mem_map.mp h
  have hk := List.mem_range.mp hk
  exact match k, hk with | 0, _ => tw_505 | 1, _ => tw_507 | j + 2, h => absurd h (by omega)
theorem in_X11 : ∀ w ∈ u_ws RX11 TX11 10, w ∈ TT := by
  intro w h
  obtain ⟨k, hk, rfl⟩ := List.mem_map.mp h
  have hk := List.mem_range.mp hk
  exact match k, hk with | 0, _ => tw_520 | 1, _ => tw_522 | 2, _ => tw_524 | 3, _ => tw_526 | 4, _ => tw_528 | 5, _ => tw_530 | 6, _ => tw_532 | 7, _ => tw_534 | 8, _ => tw_536 | 9, _ => tw_538 | j + 10, h => absurd h (by omega)
theorem in_X12 : ∀ w ∈ u_ws RX12 TX12 112, w ∈ TT := by
  intro w h
  obtain ⟨k, hk, rfl⟩ := List.mem_map.mp h
  have hk := List.mem_range.mp hk
  exact match k, hk with | 0, _ => tw_1685 | 1, _ => tw_1687 | 2, _ => tw_1689 | 3, _ => tw_1691 | 4, _ => tw_1693 | 5, _ => tw_1695 | 6, _ => tw_1697 | 7, _ => tw_1699 | 8, _ => tw_1701 | 9, _ => tw_1703 | 10, _ => tw_1705 | 11, _ => tw_1707 | 12, _ => tw_1709 | 13, _ => tw_1711 | 14, _ => tw_1713 | 15, _ => tw_1715 | 16, _ => tw_1717 | 17, _ => tw_1719 | 18, _ => tw_1721 | 19, _ => tw_1723 | 20, _ => tw_1725 | 21, _ => tw_1727 | 22, _ => tw_1729 | 23, _ => tw_1731 | 24, _ => tw_1733 | 25, _ => tw_1735 | 26, _ => tw_1737 | 27, _ => tw_1739 | 28, _ => tw_1741 | 29, _ => tw_1743 | 30, _ => tw_1745 | 31, _ => tw_1747 | 32, _ => tw_1749 | 33, _ => tw_1751 | 34, _ => tw_1753 | 35, _ => tw_1755 | 36, _ => tw_1757 | 37, _ => tw_1759 | 38, _ => tw_1761 | 39, _ => tw_1763 | 40, _ => tw_1765 | 41, _ => tw_1767 | 42, _ => tw_1769 | 43, _ => tw_1771 | 44, _ => tw_1773 | 45, _ => tw_1775 | 46, _ => tw_1777 | 47, _ => tw_1779 | 48, _ => tw_1781 | 49, _ => tw_1783 | 50, _ => tw_1785 | 51, _ => tw_1787 | 52, _ => tw_1789 | 53, _ => tw_1791 | 54, _ => tw_1793 | 55, _ => tw_1795 | 56, _ => tw_1797 | 57, _ => tw_1799 | 58, _ => tw_1801 | 59, _ => tw_1803 | 60, _ => tw_1805 | 61, _ => tw_1807 | 62, _ => tw_1809 | 63, _ => tw_1811 | 64, _ => tw_1813 | 65, _ => tw_1815 | 66, _ => tw_1817 | 67, _ => tw_1819 | 68, _ => tw_1821 | 69, _ => tw_1823 | 70, _ => tw_1825 | 71, _ => tw_1827 | 72, _ => tw_1829 | 73, _ => tw_1831 | 74, _ => tw_1833 | 75, _ => tw_1835 | 76, _ => tw_1837 | 77, _ => tw_1839 | 78, _ => tw_1841 | 79, _ => tw_1843 | 80, _ => tw_1845 | 81, _ => tw_1847 | 82, _ => tw_1849 | 83, _ => tw_1851 | 84, _ => tw_1853 | 85, _ => tw_1855 | 86, _ => tw_1857 | 87, _ => tw_1859 | 88, _ => tw_1861 | 89, _ => tw_1863 | 90, _ => tw_1865 | 91, _ => tw_1867 | 92, _ => tw_1869 | 93, _ => tw_1871 | 94, _ => tw_1873 | 95, _ => tw_1875 | 96, _ => tw_1877 | 97, _ => tw_1879 | 98, _ => tw_1881 | 99, _ => tw_1883 | 100, _ => tw_1885 | 101, _ => tw_1887 | 102, _ => tw_1889 | 103, _ => tw_1891 | 104, _ => tw_1893 | 105, _ => tw_1895 | 106, _ => tw_1897 | 107, _ => tw_1899 | 108, _ => tw_1901 | 109, _ => tw_1903 | 110, _ => tw_1905 | 111, _ => tw_1907 | j + 112, h => absurd h (by omega)
theorem kv_X0_addClaim : Kv yX0_addClaim RX0 cX0_addClaim 6 (some .int) 4 := ⟨tw_1421, tw_1422, tw_131, tw_1423, by decide +kernel, by decide +kernel⟩
theorem kv_X0_addEvent : Kv yX0_addEvent RX0 cX0_addEvent 5 (some .int) 3 := ⟨tw_1434, tw_1435, tw_131, tw_1436, by decide +kernel, by decide +kernel⟩
theorem kv_X0_allows : Kv yX0_allows RX0 cX0_allows 8 (some .boolean) 5 := ⟨tw_1339, tw_1340, tw_131, tw_1341, by decide +kernel, by decide +kernel⟩
theorem kv_X0_isHeldBy : Kv yX0_isHeldBy RX0 cX0_isHeldBy 4 (some .boolean) 2 := ⟨tw_1347, tw_57, tw_131, tw_1348, by decide +kernel, by decide +kernel⟩
theorem kv_X0_sureOn : Kv yX0_sureOn RX0 cX0_sureOn 8 (some .int) 2 := ⟨tw_1352, tw_1353, tw_131, tw_1354, by decide +kernel, by decide +kernel⟩
theorem kv_X1_addDeed : Kv yX1_addDeed RX1 cX1_addDeed 8 (some .int) 6 := ⟨tw_1320, tw_1321, tw_132, tw_1322, by decide +kernel, by decide +kernel⟩
theorem kv_X1_addPresentment : Kv yX1_addPresentment RX1 cX1_addPresentment 8 (some .int) 4 := ⟨tw_1390, tw_1391, tw_132, tw_1392, by decide +kernel, by decide +kernel⟩
theorem kv_X1_addProof : Kv yX1_addProof RX1 cX1_addProof 4 (some .int) 2 := ⟨tw_1403, tw_1404, tw_132, tw_1405, by decide +kernel, by decide +kernel⟩
theorem kv_X1_addWarden : Kv yX1_addWarden RX1 cX1_addWarden 5 (some .int) 3 := ⟨tw_1306, tw_1307, tw_132, tw_1308, by decide +kernel, by decide +kernel⟩
theorem kv_X1_askFor : Kv yX1_askFor RX1 cX1_askFor 6 none 1 := ⟨tw_855, tw_24, tw_132, tw_856, by decide +kernel, by decide +kernel⟩
theorem kv_X1_attach : Kv yX1_attach RX1 cX1_attach 3 none 1 := ⟨tw_826, tw_20, tw_132, tw_827, by decide +kernel, by decide +kernel⟩
theorem kv_X1_beginDay : Kv yX1_beginDay RX1 cX1_beginDay 4 none 0 := ⟨tw_770, tw_771, tw_132, tw_772, by decide +kernel, by decide +kernel⟩
theorem kv_X1_charge : Kv yX1_charge RX1 cX1_charge 9 (some .int) 4 := ⟨tw_888, tw_27, tw_132, tw_889, by decide +kernel, by decide +kernel⟩
theorem kv_X1_comesUp : Kv yX1_comesUp RX1 cX1_comesUp 5 (some .boolean) 2 := ⟨tw_797, tw_17, tw_132, tw_798, by decide +kernel, by decide +kernel⟩
theorem kv_X1_find : Kv yX1_find RX1 cX1_find 4 none 1 := ⟨tw_830, tw_21, tw_132, tw_831, by decide +kernel, by decide +kernel⟩
theorem kv_X1_findAccused : Kv yX1_findAccused RX1 cX1_findAccused 5 (some .boolean) 1 := ⟨tw_802, tw_18, tw_132, tw_803, by decide +kernel, by decide +kernel⟩
theorem kv_X1_fineOf : Kv yX1_fineOf RX1 cX1_fineOf 2 (some .int) 1 := ⟨tw_858, tw_859, tw_132, tw_860, by decide +kernel, by decide +kernel⟩
theorem kv_X1_hearLaws : Kv yX1_hearLaws RX1 cX1_hearLaws 4 none 1 := ⟨tw_862, tw_863, tw_132, tw_864, by decide +kernel, by decide +kernel⟩
theorem kv_X1_isBarred : Kv yX1_isBarred RX1 cX1_isBarred 3 (some .boolean) 1 := ⟨tw_1331, tw_1332, tw_132, tw_1333, by decide +kernel, by decide +kernel⟩
theorem kv_X1_readRules : Kv yX1_readRules RX1 cX1_readRules 2 none 0 := ⟨tw_776, tw_16, tw_132, tw_777, by decide +kernel, by decide +kernel⟩
theorem kv_X1_settle : Kv yX1_settle RX1 cX1_settle 3 none 2 := ⟨tw_821, tw_19, tw_132, tw_822, by decide +kernel, by decide +kernel⟩
theorem kv_X1_whoPaysFor : Kv yX1_whoPaysFor RX1 cX1_whoPaysFor 2 (some .int) 1 := ⟨tw_910, tw_28, tw_132, tw_911, by decide +kernel, by decide +kernel⟩
theorem kv_X2_addMark : Kv yX2_addMark RX2 cX2_addMark 6 (some .int) 3 := ⟨tw_924, tw_925, tw_126, tw_926, by decide +kernel, by decide +kernel⟩
theorem kv_X2_addRing : Kv yX2_addRing RX2 cX2_addRing 6 (some .int) 2 := ⟨tw_944, tw_945, tw_126, tw_946, by decide +kernel, by decide +kernel⟩
theorem kv_X2_boundsOn : Kv yX2_boundsOn RX2 cX2_boundsOn 7 (some .int) 1 := ⟨tw_837, tw_838, tw_126, tw_839, by decide +kernel, by decide +kernel⟩
theorem kv_X2_closes : Kv yX2_closes RX2 cX2_closes 5 (some .boolean) 2 := ⟨tw_979, tw_980, tw_126, tw_981, by decide +kernel, by decide +kernel⟩
theorem kv_X2_foldsBack : Kv yX2_foldsBack RX2 cX2_foldsBack 7 (some .boolean) 3 := ⟨tw_963, tw_31, tw_126, tw_964, by decide +kernel, by decide +kernel⟩
theorem kv_X2_follows : Kv yX2_follows RX2 cX2_follows 4 (some .boolean) 2 := ⟨tw_954, tw_955, tw_126, tw_956, by decide +kernel, by decide +kernel⟩
theorem ks_X2_handOf : Ks yX2_handOf cX2_handOf 5 (some .int) 4 := ⟨tw_851, tw_126, tw_852, by decide +kernel, by decide +kernel⟩
theorem kv_X2_isLeftOf : Kv yX2_isLeftOf RX2 cX2_isLeftOf 9 (some .boolean) 4 := ⟨tw_848, tw_23, tw_126, tw_849, by decide +kernel, by decide +kernel⟩
theorem kv_X2_isNear : Kv yX2_isNear RX2 cX2_isNear 21 (some .boolean) 4 := ⟨tw_844, tw_22, tw_126, tw_845, by decide +kernel, by decide +kernel⟩
theorem kv_X2_isSamePlace : Kv yX2_isSamePlace RX2 cX2_isSamePlace 3 (some .boolean) 2 := ⟨tw_959, tw_30, tw_126, tw_960, by decide +kernel, by decide +kernel⟩
theorem kv_X2_isSimple : Kv yX2_isSimple RX2 cX2_isSimple 3 (some .boolean) 1 := ⟨tw_951, tw_29, tw_126, tw_952, by decide +kernel, by decide +kernel⟩
theorem ks_X2_overlap : Ks yX2_overlap cX2_overlap 4 (some .boolean) 4 := ⟨tw_974, tw_126, tw_975, by decide +kernel, by decide +kernel⟩
theorem kv_X2_placeOn : Kv yX2_placeOn RX2 cX2_placeOn 10 (some .int) 3 := ⟨tw_833, tw_834, tw_126, tw_835, by decide +kernel, by decide +kernel⟩
theorem kv_X2_touch : Kv yX2_touch RX2 cX2_touch 5 (some .boolean) 4 := ⟨tw_971, tw_33, tw_126, tw_972, by decide +kernel, by decide +kernel⟩
theorem kv_X2_turn : Kv yX2_turn RX2 cX2_turn 6 (some .int) 3 := ⟨tw_967, tw_32, tw_126, tw_968, by decide +kernel, by decide +kernel⟩
theorem kv_X2_wayOf : Kv yX2_wayOf RX2 cX2_wayOf 3 (some .int) 2 := ⟨tw_1060, tw_1061, tw_126, tw_1062, by decide +kernel, by decide +kernel⟩
theorem kv_X3_addText : Kv yX3_addText RX3 cX3_addText 6 (some .int) 1 := ⟨tw_1073, tw_1074, tw_128, tw_1075, by decide +kernel, by decide +kernel⟩
theorem kv_X3_fineOr : Kv yX3_fineOr RX3 cX3_fineOr 2 (some .int) 1 := ⟨tw_883, tw_884, tw_128, tw_885, by decide +kernel, by decide +kernel⟩
theorem kv_X3_forceOn : Kv yX3_forceOn RX3 cX3_forceOn 5 (some .int) 1 := ⟨tw_785, tw_786, tw_128, tw_787, by decide +kernel, by decide +kernel⟩
theorem kv_X3_hear : Kv yX3_hear RX3 cX3_hear 7 none 3 := ⟨tw_866, tw_867, tw_128, tw_868, by decide +kernel, by decide +kernel⟩
theorem kv_X3_isWithoutIf : Kv yX3_isWithoutIf RX3 cX3_isWithoutIf 2 (some .boolean) 1 := ⟨tw_880, tw_26, tw_128, tw_881, by decide +kernel, by decide +kernel⟩
theorem ks_X3_join : Ks yX3_join cX3_join 3 (some .int) 3 := ⟨tw_874, tw_128, tw_875, by decide +kernel, by decide +kernel⟩
theorem kv_X3_keepRule : Kv yX3_keepRule RX3 cX3_keepRule 5 none 2 := ⟨tw_1243, tw_56, tw_128, tw_1244, by decide +kernel, by decide +kernel⟩
theorem kv_X3_nextChange : Kv yX3_nextChange RX3 cX3_nextChange 5 (some .int) 1 := ⟨tw_791, tw_792, tw_128, tw_793, by decide +kernel, by decide +kernel⟩
theorem kv_X3_ruleOn : Kv yX3_ruleOn RX3 cX3_ruleOn 6 (some .int) 2 := ⟨tw_779, tw_780, tw_128, tw_781, by decide +kernel, by decide +kernel⟩
theorem kv_X3_valueOf : Kv yX3_valueOf RX3 cX3_valueOf 6 (some .int) 2 := ⟨tw_871, tw_25, tw_128, tw_872, by decide +kernel, by decide +kernel⟩
theorem kv_X3_wordIsBar : Kv yX3_wordIsBar RX3 cX3_wordIsBar 1 (some .boolean) 0 := ⟨tw_1335, tw_1336, tw_128, tw_1337, by decide +kernel, by decide +kernel⟩
theorem kv_X3_wordNumber : Kv yX3_wordNumber RX3 cX3_wordNumber 1 (some .int) 0 := ⟨tw_1371, tw_1372, tw_128, tw_1373, by decide +kernel, by decide +kernel⟩
theorem kv_X4_addSpot : Kv yX4_addSpot RX4 cX4_addSpot 5 (some .int) 3 := ⟨tw_1500, tw_1501, tw_136, tw_1502, by decide +kernel, by decide +kernel⟩
theorem kv_X4_choose : Kv yX4_choose RX4 cX4_choose 7 none 2 := ⟨tw_656, tw_13, tw_136, tw_657, by decide +kernel, by decide +kernel⟩
theorem kv_X4_measure : Kv yX4_measure RX4 cX4_measure 5 none 2 := ⟨tw_632, tw_9, tw_136, tw_633, by decide +kernel, by decide +kernel⟩
theorem kv_X4_nextWithLodge : Kv yX4_nextWithLodge RX4 cX4_nextWithLodge 3 (some .int) 1 := ⟨tw_626, tw_8, tw_136, tw_627, by decide +kernel, by decide +kernel⟩
theorem kv_X4_pathTo : Kv yX4_pathTo RX4 cX4_pathTo 9 (some .int) 3 := ⟨tw_641, tw_11, tw_136, tw_642, by decide +kernel, by decide +kernel⟩
theorem kv_X4_plan : Kv yX4_plan RX4 cX4_plan 3 none 0 := ⟨tw_621, tw_622, tw_136, tw_623, by decide +kernel, by decide +kernel⟩
theorem kv_X4_roundOf : Kv yX4_roundOf RX4 cX4_roundOf 6 (some .int) 2 := ⟨tw_636, tw_10, tw_136, tw_637, by decide +kernel, by decide +kernel⟩
theorem kv_X4_setLodge : Kv yX4_setLodge RX4 cX4_setLodge 5 none 4 := ⟨tw_1488, tw_1489, tw_136, tw_1490, by decide +kernel, by decide +kernel⟩
theorem kv_X4_tryWay : Kv yX4_tryWay RX4 cX4_tryWay 7 (some .int) 1 := ⟨tw_660, tw_14, tw_136, tw_661, by decide +kernel, by decide +kernel⟩
theorem kv_X4_wardenOf : Kv yX4_wardenOf RX4 cX4_wardenOf 2 (some .int) 1 := ⟨tw_1512, tw_1513, tw_136, tw_1514, by decide +kernel, by decide +kernel⟩
theorem kv_X4_wayFromLodge : Kv yX4_wayFromLodge RX4 cX4_wayFromLodge 3 (some .int) 2 := ⟨tw_645, tw_12, tw_136, tw_646, by decide +kernel, by decide +kernel⟩
theorem kv_X5_addPerson : Kv yX5_addPerson RX5 cX5_addPerson 4 (some .int) 2 := ⟨tw_1270, tw_1271, tw_130, tw_1272, by decide +kernel, by decide +kernel⟩
theorem kv_X5_give : Kv yX5_give RX5 cX5_give 3 none 2 := ⟨tw_902, tw_903, tw_130, tw_904, by decide +kernel, by decide +kernel⟩
theorem kv_X5_heirOf : Kv yX5_heirOf RX5 cX5_heirOf 4 (some .int) 1 := ⟨tw_814, tw_815, tw_130, tw_816, by decide +kernel, by decide +kernel⟩
theorem kv_X5_lives : Kv yX5_lives RX5 cX5_lives 2 (some .boolean) 1 := ⟨tw_805, tw_806, tw_130, tw_807, by decide +kernel, by decide +kernel⟩
theorem kv_X5_pay : Kv yX5_pay RX5 cX5_pay 4 (some .int) 2 := ⟨tw_891, tw_892, tw_130, tw_893, by decide +kernel, by decide +kernel⟩
theorem kv_X6_begin : Kv yX6_begin RX6 cX6_begin 2 none 1 := ⟨tw_1078, tw_1079, tw_129, tw_1080, by decide +kernel, by decide +kernel⟩
theorem kv_X6_emit : Kv yX6_emit RX6 cX6_emit 2 (some .boolean) 1 := ⟨tw_1187, tw_45, tw_129, tw_1188, by decide +kernel, by decide +kernel⟩
theorem kv_X6_fail : Kv yX6_fail RX6 cX6_fail 3 (some .boolean) 2 := ⟨tw_1158, tw_39, tw_129, tw_1159, by decide +kernel, by decide +kernel⟩
theorem kv_X6_goPast : Kv yX6_goPast RX6 cX6_goPast 1 (some .boolean) 0 := ⟨tw_1195, tw_47, tw_129, tw_1196, by decide +kernel, by decide +kernel⟩
theorem kv_X6_goesOn : Kv yX6_goesOn RX6 cX6_goesOn 1 (some .boolean) 0 := ⟨tw_1083, tw_1084, tw_129, tw_1085, by decide +kernel, by decide +kernel⟩
theorem ks_X6_isDigit : Ks yX6_isDigit cX6_isDigit 1 (some .boolean) 1 := ⟨tw_1214, tw_129, tw_1215, by decide +kernel, by decide +kernel⟩
theorem ks_X6_isLetter : Ks yX6_isLetter cX6_isLetter 1 (some .boolean) 1 := ⟨tw_1101, tw_129, tw_1102, by decide +kernel, by decide +kernel⟩
theorem kv_X6_isWord : Kv yX6_isWord RX6 cX6_isWord 6 (some .boolean) 4 := ⟨tw_1154, tw_38, tw_129, tw_1155, by decide +kernel, by decide +kernel⟩
theorem kv_X6_mayOpen : Kv yX6_mayOpen RX6 cX6_mayOpen 3 (some .boolean) 2 := ⟨tw_1183, tw_44, tw_129, tw_1184, by decide +kernel, by decide +kernel⟩
theorem kv_X6_needSign : Kv yX6_needSign RX6 cX6_needSign 2 (some .boolean) 1 := ⟨tw_1199, tw_48, tw_129, tw_1200, by decide +kernel, by decide +kernel⟩
theorem kv_X6_readAct : Kv yX6_readAct RX6 cX6_readAct 3 (some .boolean) 1 := ⟨tw_1164, tw_40, tw_129, tw_1165, by decide +kernel, by decide +kernel⟩
theorem kv_X6_readBoth : Kv yX6_readBoth RX6 cX6_readBoth 4 (some .boolean) 1 := ⟨tw_1174, tw_42, tw_129, tw_1175, by decide +kernel, by decide +kernel⟩
theorem kv_X6_readClause : Kv yX6_readClause RX6 cX6_readClause 6 none 1 := ⟨tw_1092, tw_1093, tw_129, tw_1094, by decide +kernel, by decide +kernel⟩
theorem kv_X6_readEither : Kv yX6_readEither RX6 cX6_readEither 4 (some .boolean) 1 := ⟨tw_1170, tw_41, tw_129, tw_1171, by decide +kernel, by decide +kernel⟩
theorem kv_X6_readHeirs : Kv yX6_readHeirs RX6 cX6_readHeirs 3 (some .boolean) 1 := ⟨tw_1235, tw_55, tw_129, tw_1236, by decide +kernel, by decide +kernel⟩
theorem kv_X6_readNumber : Kv yX6_readNumber RX6 cX6_readNumber 6 (some .boolean) 4 := ⟨tw_1231, tw_54, tw_129, tw_1232, by decide +kernel, by decide +kernel⟩
theorem kv_X6_readPick : Kv yX6_readPick RX6 cX6_readPick 4 (some .boolean) 2 := ⟨tw_1225, tw_53, tw_129, tw_1226, by decide +kernel, by decide +kernel⟩
theorem kv_X6_readProduct : Kv yX6_readProduct RX6 cX6_readProduct 4 (some .boolean) 1 := ⟨tw_1207, tw_50, tw_129, tw_1208, by decide +kernel, by decide +kernel⟩
theorem kv_X6_readSum : Kv yX6_readSum RX6 cX6_readSum 4 (some .boolean) 1 := ⟨tw_1203, tw_49, tw_129, tw_1204, by decide +kernel, by decide +kernel⟩
theorem kv_X6_readTest : Kv yX6_readTest RX6 cX6_readTest 3 (some .boolean) 1 := ⟨tw_1178, tw_43, tw_129, tw_1179, by decide +kernel, by decide +kernel⟩
theorem kv_X6_readValue : Kv yX6_readValue RX6 cX6_readValue 5 (some .boolean) 1 := ⟨tw_1211, tw_51, tw_129, tw_1212, by decide +kernel, by decide +kernel⟩
theorem kv_X6_skipBlanks : Kv yX6_skipBlanks RX6 cX6_skipBlanks 2 none 0 := ⟨tw_1088, tw_36, tw_129, tw_1089, by decide +kernel, by decide +kernel⟩
theorem kv_X6_takeNumber : Kv yX6_takeNumber RX6 cX6_takeNumber 6 (some .int) 2 := ⟨tw_1218, tw_52, tw_129, tw_1219, by decide +kernel, by decide +kernel⟩
theorem kv_X6_takeSign : Kv yX6_takeSign RX6 cX6_takeSign 2 (some .boolean) 1 := ⟨tw_1191, tw_46, tw_129, tw_1192, by decide +kernel, by decide +kernel⟩
theorem kv_X6_takeWord : Kv yX6_takeWord RX6 cX6_takeWord 6 (some .int) 1 := ⟨tw_1098, tw_37, tw_129, tw_1099, by decide +kernel, by decide +kernel⟩
theorem kv_X7_addEntry : Kv yX7_addEntry RX7 cX7_addEntry 7 (some .int) 3 := ⟨tw_1454, tw_1455, tw_135, tw_1456, by decide +kernel, by decide +kernel⟩
theorem kv_X7_apartFrom : Kv yX7_apartFrom RX7 cX7_apartFrom 5 (some .int) 2 := ⟨tw_1477, tw_58, tw_135, tw_1478, by decide +kernel, by decide +kernel⟩
theorem kv_X7_choose : Kv yX7_choose RX7 cX7_choose 4 none 0 := ⟨tw_614, tw_7, tw_135, tw_615, by decide +kernel, by decide +kernel⟩
theorem kv_X7_entryAt : Kv yX7_entryAt RX7 cX7_entryAt 2 (some .int) 1 := ⟨tw_1467, tw_1468, tw_135, tw_1469, by decide +kernel, by decide +kernel⟩
theorem kv_X7_join : Kv yX7_join RX7 cX7_join 1 none 0 := ⟨tw_581, tw_1, tw_135, tw_582, by decide +kernel, by decide +kernel⟩
theorem kv_X7_leastQuarrel : Kv yX7_leastQuarrel RX7 cX7_leastQuarrel 1 (some .int) 0 := ⟨tw_576, tw_577, tw_135, tw_578, by decide +kernel, by decide +kernel⟩
theorem kv_X7_list : Kv yX7_list RX7 cX7_list 4 none 0 := ⟨tw_585, tw_2, tw_135, tw_586, by decide +kernel, by decide +kernel⟩
theorem kv_X7_measure : Kv yX7_measure RX7 cX7_measure 5 none 0 := ⟨tw_605, tw_5, tw_135, tw_606, by decide +kernel, by decide +kernel⟩
theorem kv_X7_placeOf : Kv yX7_placeOf RX7 cX7_placeOf 3 (some .int) 1 := ⟨tw_601, tw_4, tw_135, tw_602, by decide +kernel, by decide +kernel⟩
theorem kv_X7_quarrelOf : Kv yX7_quarrelOf RX7 cX7_quarrelOf 7 (some .int) 2 := ⟨tw_610, tw_6, tw_135, tw_611, by decide +kernel, by decide +kernel⟩
theorem kv_X7_sumAt : Kv yX7_sumAt RX7 cX7_sumAt 8 (some .int) 1 := ⟨tw_1471, tw_1472, tw_135, tw_1473, by decide +kernel, by decide +kernel⟩
theorem kv_X7_weigh : Kv yX7_weigh RX7 cX7_weigh 4 none 0 := ⟨tw_594, tw_3, tw_135, tw_595, by decide +kernel, by decide +kernel⟩
theorem kv_X8_go : Kv yX8_go RX8 cX8_go 4 (some .int) 1 := ⟨tw_1045, tw_1046, tw_127, tw_1047, by decide +kernel, by decide +kernel⟩
theorem kv_X8_markAt : Kv yX8_markAt RX8 cX8_markAt 2 (some .int) 1 := ⟨tw_560, tw_561, tw_127, tw_562, by decide +kernel, by decide +kernel⟩
theorem kv_X8_tryMarks : Kv yX8_tryMarks RX8 cX8_tryMarks 4 none 2 := ⟨tw_1052, tw_34, tw_127, tw_1053, by decide +kernel, by decide +kernel⟩
theorem kv_X8_tryRing : Kv yX8_tryRing RX8 cX8_tryRing 4 none 1 := ⟨tw_1056, tw_35, tw_127, tw_1057, by decide +kernel, by decide +kernel⟩
theorem kv_X9_add : Kv yX9_add RX9 cX9_add 3 (some .int) 0 := ⟨tw_349, tw_350, tw_124, tw_351, by decide +kernel, by decide +kernel⟩
theorem kv_X9_cut : Kv yX9_cut RX9 cX9_cut 2 none 1 := ⟨tw_940, tw_941, tw_124, tw_942, by decide +kernel, by decide +kernel⟩
theorem kv_X9_get : Kv yX9_get RX9 cX9_get 4 (some .int) 2 := ⟨tw_589, tw_590, tw_124, tw_591, by decide +kernel, by decide +kernel⟩
theorem kv_X9_has : Kv yX9_has RX9 cX9_has 2 (some .boolean) 1 := ⟨tw_809, tw_810, tw_124, tw_811, by decide +kernel, by decide +kernel⟩
theorem kv_X9_isFull : Kv yX9_isFull RX9 cX9_isFull 1 (some .boolean) 0 := ⟨tw_353, tw_354, tw_124, tw_355, by decide +kernel, by decide +kernel⟩
theorem kv_X9_put : Kv yX9_put RX9 cX9_put 5 none 3 := ⟨tw_373, tw_374, tw_124, tw_375, by decide +kernel, by decide +kernel⟩
theorem kv_X9_raise : Kv yX9_raise RX9 cX9_raise 4 (some .int) 3 := ⟨tw_897, tw_898, tw_124, tw_899, by decide +kernel, by decide +kernel⟩
theorem kv_X9_size : Kv yX9_size RX9 cX9_size 1 (some .int) 0 := ⟨tw_546, tw_547, tw_124, tw_548, by decide +kernel, by decide +kernel⟩
theorem kv_X9_swap : Kv yX9_swap RX9 cX9_swap 5 (some .int) 3 := ⟨tw_1011, tw_1012, tw_124, tw_1013, by decide +kernel, by decide +kernel⟩
theorem kv_X10_addTaking : Kv yX10_addTaking RX10 cX10_addTaking 7 (some .int) 5 := ⟨tw_1544, tw_1545, tw_137, tw_1546, by decide +kernel, by decide +kernel⟩
theorem kv_X10_addWood : Kv yX10_addWood RX10 cX10_addWood 5 (some .int) 3 := ⟨tw_1526, tw_1527, tw_137, tw_1528, by decide +kernel, by decide +kernel⟩
theorem kv_X10_firstYear : Kv yX10_firstYear RX10 cX10_firstYear 2 (some .int) 1 := ⟨tw_1539, tw_1540, tw_137, tw_1541, by decide +kernel, by decide +kernel⟩
theorem kv_X10_stockOf : Kv yX10_stockOf RX10 cX10_stockOf 8 (some .int) 4 := ⟨tw_1556, tw_1557, tw_137, tw_1558, by decide +kernel, by decide +kernel⟩
theorem kv_X10_takenIn : Kv yX10_takenIn RX10 cX10_takenIn 7 (some .int) 4 := ⟨tw_1562, tw_59, tw_137, tw_1563, by decide +kernel, by decide +kernel⟩
theorem kv_X11_addBytes : Kv yX11_addBytes RX11 cX11_addBytes 3 none 1 := ⟨tw_551, tw_0, tw_123, tw_552, by decide +kernel, by decide +kernel⟩
theorem kv_X11_barred : Kv yX11_barred RX11 cX11_barred 2 (some .boolean) 1 := ⟨tw_1327, tw_1328, tw_123, tw_1329, by decide +kernel, by decide +kernel⟩
theorem kv_X11_beat : Kv yX11_beat RX11 cX11_beat 2 (some .int) 1 := ⟨tw_1508, tw_1509, tw_123, tw_1510, by decide +kernel, by decide +kernel⟩
theorem kv_X11_beats : Kv yX11_beats RX11 cX11_beats 1 (some .int) 0 := ⟨tw_617, tw_618, tw_123, tw_619, by decide +kernel, by decide +kernel⟩
theorem kv_X11_bounds : Kv yX11_bounds RX11 cX11_bounds 2 (some .int) 1 := ⟨tw_1025, tw_1026, tw_123, tw_1027, by decide +kernel, by decide +kernel⟩
theorem ks_X11_checkArgument : Ks yX11_checkArgument cX11_checkArgument 1 none 1 := ⟨tw_679, tw_123, tw_680, by decide +kernel, by decide +kernel⟩
theorem ks_X11_checkIndex : Ks yX11_checkIndex cX11_checkIndex 1 none 1 := ⟨tw_992, tw_123, tw_993, by decide +kernel, by decide +kernel⟩
theorem ks_X11_checkState : Ks yX11_checkState cX11_checkState 1 none 1 := ⟨tw_751, tw_123, tw_752, by decide +kernel, by decide +kernel⟩
theorem kv_X11_claim : Kv yX11_claim RX11 cX11_claim 5 (some .int) 4 := ⟨tw_1417, tw_1418, tw_123, tw_1419, by decide +kernel, by decide +kernel⟩
theorem kv_X11_count : Kv yX11_count RX11 cX11_count 2 (some .int) 1 := ⟨tw_663, tw_664, tw_123, tw_665, by decide +kernel, by decide +kernel⟩
theorem kv_X11_deed : Kv yX11_deed RX11 cX11_deed 7 (some .int) 6 := ⟨tw_1313, tw_1314, tw_123, tw_1315, by decide +kernel, by decide +kernel⟩
theorem kv_X11_die : Kv yX11_die RX11 cX11_die 2 (some .int) 1 := ⟨tw_1285, tw_1286, tw_123, tw_1287, by decide +kernel, by decide +kernel⟩
theorem kv_X11_enter : Kv yX11_enter RX11 cX11_enter 4 (some .int) 3 := ⟨tw_1450, tw_1451, tw_123, tw_1452, by decide +kernel, by decide +kernel⟩
theorem kv_X11_fault : Kv yX11_fault RX11 cX11_fault 1 (some .int) 0 := ⟨tw_568, tw_569, tw_123, tw_570, by decide +kernel, by decide +kernel⟩
theorem kv_X11_feed : Kv yX11_feed RX11 cX11_feed 6 (some .int) 5 := ⟨tw_542, tw_543, tw_123, tw_544, by decide +kernel, by decide +kernel⟩
theorem kv_X11_fine : Kv yX11_fine RX11 cX11_fine 2 (some .int) 1 := ⟨tw_1378, tw_1379, tw_123, tw_1380, by decide +kernel, by decide +kernel⟩
theorem kv_X11_force : Kv yX11_force RX11 cX11_force 3 (some .boolean) 2 := ⟨tw_1249, tw_1250, tw_123, tw_1251, by decide +kernel, by decide +kernel⟩
theorem kv_X11_heir : Kv yX11_heir RX11 cX11_heir 3 (some .int) 2 := ⟨tw_1278, tw_1279, tw_123, tw_1280, by decide +kernel, by decide +kernel⟩
theorem ks_X11_isAct : Ks yX11_isAct cX11_isAct 1 (some .boolean) 1 := ⟨tw_1317, tw_123, tw_1318, by decide +kernel, by decide +kernel⟩
theorem ks_X11_isDay : Ks yX11_isDay cX11_isDay 1 (some .boolean) 1 := ⟨tw_937, tw_123, tw_938, by decide +kernel, by decide +kernel⟩
theorem ks_X11_isPlace : Ks yX11_isPlace cX11_isPlace 2 (some .boolean) 2 := ⟨tw_920, tw_123, tw_921, by decide +kernel, by decide +kernel⟩
theorem ks_X11_isYear : Ks yX11_isYear cX11_isYear 1 (some .boolean) 1 := ⟨tw_1523, tw_123, tw_1524, by decide +kernel, by decide +kernel⟩
theorem kv_X11_joined : Kv yX11_joined RX11 cX11_joined 3 (some .int) 2 := ⟨tw_1463, tw_1464, tw_123, tw_1465, by decide +kernel, by decide +kernel⟩
theorem kv_X11_lodge : Kv yX11_lodge RX11 cX11_lodge 5 (some .int) 4 := ⟨tw_1484, tw_1485, tw_123, tw_1486, by decide +kernel, by decide +kernel⟩
theorem kv_X11_mark : Kv yX11_mark RX11 cX11_mark 4 (some .int) 3 := ⟨tw_916, tw_917, tw_123, tw_918, by decide +kernel, by decide +kernel⟩
theorem kv_X11_of : Kv yX11_of RX11 cX11_of 3 (some .int) 2 := ⟨tw_1410, tw_1411, tw_123, tw_1412, by decide +kernel, by decide +kernel⟩
theorem kv_X11_person : Kv yX11_person RX11 cX11_person 3 (some .int) 2 := ⟨tw_1265, tw_1266, tw_123, tw_1267, by decide +kernel, by decide +kernel⟩
theorem kv_X11_present : Kv yX11_present RX11 cX11_present 5 (some .int) 4 := ⟨tw_1386, tw_1387, tw_123, tw_1388, by decide +kernel, by decide +kernel⟩
theorem kv_X11_proof : Kv yX11_proof RX11 cX11_proof 3 (some .int) 2 := ⟨tw_1399, tw_1400, tw_123, tw_1401, by decide +kernel, by decide +kernel⟩
theorem kv_X11_quarrel : Kv yX11_quarrel RX11 cX11_quarrel 1 (some .int) 0 := ⟨tw_572, tw_573, tw_123, tw_574, by decide +kernel, by decide +kernel⟩
theorem kv_X11_ring : Kv yX11_ring RX11 cX11_ring 4 (some .int) 2 := ⟨tw_933, tw_934, tw_123, tw_935, by decide +kernel, by decide +kernel⟩
theorem kv_X11_rivals : Kv yX11_rivals RX11 cX11_rivals 1 (some .int) 0 := ⟨tw_564, tw_565, tw_123, tw_566, by decide +kernel, by decide +kernel⟩
theorem kv_X11_rule : Kv yX11_rule RX11 cX11_rule 3 (some .int) 2 := ⟨tw_1257, tw_1258, tw_123, tw_1259, by decide +kernel, by decide +kernel⟩
theorem kv_X11_spot : Kv yX11_spot RX11 cX11_spot 4 (some .int) 3 := ⟨tw_1496, tw_1497, tw_123, tw_1498, by decide +kernel, by decide +kernel⟩
theorem kv_X11_stock : Kv yX11_stock RX11 cX11_stock 5 (some .int) 4 := ⟨tw_1552, tw_1553, tw_123, tw_1554, by decide +kernel, by decide +kernel⟩
theorem kv_X11_strip : Kv yX11_strip RX11 cX11_strip 3 (some .int) 1 := ⟨tw_1018, tw_1019, tw_123, tw_1020, by decide +kernel, by decide +kernel⟩
theorem kv_X11_sure : Kv yX11_sure RX11 cX11_sure 3 (some .int) 2 := ⟨tw_1442, tw_1443, tw_123, tw_1444, by decide +kernel, by decide +kernel⟩
theorem kv_X11_take : Kv yX11_take RX11 cX11_take 5 (some .int) 4 := ⟨tw_1535, tw_1536, tw_123, tw_1537, by decide +kernel, by decide +kernel⟩
theorem kv_X11_text : Kv yX11_text RX11 cX11_text 4 (some .int) 2 := ⟨tw_1069, tw_1070, tw_123, tw_1071, by decide +kernel, by decide +kernel⟩
theorem kv_X11_told : Kv yX11_told RX11 cX11_told 3 (some .int) 2 := ⟨tw_1293, tw_1294, tw_123, tw_1295, by decide +kernel, by decide +kernel⟩
theorem kv_X11_unring : Kv yX11_unring RX11 cX11_unring 3 (some .int) 2 := ⟨tw_987, tw_988, tw_123, tw_989, by decide +kernel, by decide +kernel⟩
theorem kv_X11_use : Kv yX11_use RX11 cX11_use 4 (some .int) 3 := ⟨tw_1430, tw_1431, tw_123, tw_1432, by decide +kernel, by decide +kernel⟩
theorem kv_X11_wait : Kv yX11_wait RX11 cX11_wait 3 (some .int) 1 := ⟨tw_672, tw_673, tw_123, tw_674, by decide +kernel, by decide +kernel⟩
theorem kv_X11_walk : Kv yX11_walk RX11 cX11_walk 3 (some .int) 1 := ⟨tw_1041, tw_1042, tw_123, tw_1043, by decide +kernel, by decide +kernel⟩
theorem kv_X11_walked : Kv yX11_walked RX11 cX11_walked 2 (some .int) 1 := ⟨tw_556, tw_557, tw_123, tw_558, by decide +kernel, by decide +kernel⟩
theorem kv_X11_warden : Kv yX11_warden RX11 cX11_warden 4 (some .int) 3 := ⟨tw_1302, tw_1303, tw_123, tw_1304, by decide +kernel, by decide +kernel⟩
theorem ks_X11_wayBetween : Ks yX11_wayBetween cX11_wayBetween 4 (some .int) 4 := ⟨tw_648, tw_123, tw_649, by decide +kernel, by decide +kernel⟩
theorem kv_X11_where : Kv yX11_where RX11 cX11_where 4 (some .int) 3 := ⟨tw_1033, tw_1034, tw_123, tw_1035, by decide +kernel, by decide +kernel⟩
theorem kv_X11_why : Kv yX11_why RX11 cX11_why 2 (some .int) 1 := ⟨tw_1366, tw_1367, tw_123, tw_1368, by decide +kernel, by decide +kernel⟩
theorem ks_X11_within : Ks yX11_within cX11_within 3 (some .boolean) 3 := ⟨tw_676, tw_123, tw_677, by decide +kernel, by decide +kernel⟩
theorem kv_X11_wood : Kv yX11_wood RX11 cX11_wood 4 (some .int) 3 := ⟨tw_1519, tw_1520, tw_123, tw_1521, by decide +kernel, by decide +kernel⟩
theorem kv_X12_act : Kv yX12_act RX12 cX12_act 2 (some .int) 0 := ⟨tw_2060, tw_77, tw_138, tw_2061, by decide +kernel, by decide +kernel⟩
theorem ks_X12_actName : Ks yX12_actName cX12_actName 1 (some (.object "java/lang/String")) 1 := ⟨tw_2063, tw_138, tw_2064, by decide +kernel, by decide +kernel⟩
theorem kv_X12_ands : Kv yX12_ands RX12 cX12_ands 1 none 0 := ⟨tw_2128, tw_88, tw_138, tw_2129, by decide +kernel, by decide +kernel⟩
theorem kv_X12_apart : Kv yX12_apart RX12 cX12_apart 6 (some .int) 2 := ⟨tw_2337, tw_116, tw_138, tw_2338, by decide +kernel, by decide +kernel⟩
theorem kv_X12_asks : Kv yX12_asks RX12 cX12_asks 3 none 1 := ⟨tw_2277, tw_107, tw_138, tw_2278, by decide +kernel, by decide +kernel⟩
theorem kv_X12_bad : Kv yX12_bad RX12 cX12_bad 3 (some .boolean) 2 := ⟨tw_1926, tw_60, tw_138, tw_1927, by decide +kernel, by decide +kernel⟩
theorem kv_X12_barred : Kv yX12_barred RX12 cX12_barred 2 (some .boolean) 1 := ⟨tw_2201, tw_2202, tw_138, tw_2203, by decide +kernel, by decide +kernel⟩
theorem kv_X12_beat : Kv yX12_beat RX12 cX12_beat 2 (some .int) 1 := ⟨tw_2365, tw_2366, tw_138, tw_2367, by decide +kernel, by decide +kernel⟩
theorem kv_X12_beaten : Kv yX12_beaten RX12 cX12_beaten 3 (some .boolean) 0 := ⟨tw_2353, tw_117, tw_138, tw_2354, by decide +kernel, by decide +kernel⟩
theorem kv_X12_beats : Kv yX12_beats RX12 cX12_beats 1 (some .int) 0 := ⟨tw_2348, tw_2349, tw_138, tw_2350, by decide +kernel, by decide +kernel⟩
theorem kv_X12_becomes : Kv yX12_becomes RX12 cX12_becomes 3 none 2 := ⟨tw_2273, tw_106, tw_138, tw_2274, by decide +kernel, by decide +kernel⟩
theorem kv_X12_blanks : Kv yX12_blanks RX12 cX12_blanks 1 none 0 := ⟨tw_2023, tw_71, tw_138, tw_2024, by decide +kernel, by decide +kernel⟩
theorem kv_X12_bounds : Kv yX12_bounds RX12 cX12_bounds 2 (some .int) 1 := ⟨tw_1975, tw_1976, tw_138, tw_1977, by decide +kernel, by decide +kernel⟩
theorem kv_X12_boundsOf : Kv yX12_boundsOf RX12 cX12_boundsOf 4 (some .int) 1 := ⟨tw_1980, tw_66, tw_138, tw_1981, by decide +kernel, by decide +kernel⟩
theorem kv_X12_byteAt : Kv yX12_byteAt RX12 cX12_byteAt 2 (some .int) 1 := ⟨tw_2027, tw_72, tw_138, tw_2028, by decide +kernel, by decide +kernel⟩
theorem kv_X12_claim : Kv yX12_claim RX12 cX12_claim 5 (some .int) 4 := ⟨tw_2292, tw_2293, tw_138, tw_2294, by decide +kernel, by decide +kernel⟩
theorem kv_X12_clause : Kv yX12_clause RX12 cX12_clause 3 none 1 := ⟨tw_2056, tw_76, tw_138, tw_2057, by decide +kernel, by decide +kernel⟩
theorem kv_X12_clauseHere : Kv yX12_clauseHere RX12 cX12_clauseHere 2 (some .int) 0 := ⟨tw_2031, tw_73, tw_138, tw_2032, by decide +kernel, by decide +kernel⟩
theorem ks_X12_clauseName : Ks yX12_clauseName cX12_clauseName 1 (some (.object "java/lang/String")) 1 := ⟨tw_2034, tw_138, tw_2035, by decide +kernel, by decide +kernel⟩
theorem kv_X12_closes : Kv yX12_closes RX12 cX12_closes 2 none 1 := ⟨tw_2119, tw_86, tw_138, tw_2120, by decide +kernel, by decide +kernel⟩
theorem kv_X12_count : Kv yX12_count RX12 cX12_count 2 (some .int) 1 := ⟨tw_2395, tw_2396, tw_138, tw_2397, by decide +kernel, by decide +kernel⟩
theorem kv_X12_deed : Kv yX12_deed RX12 cX12_deed 8 (some .int) 6 := ⟨tw_2197, tw_2198, tw_138, tw_2199, by decide +kernel, by decide +kernel⟩
theorem kv_X12_deedPlace : Kv yX12_deedPlace RX12 cX12_deedPlace 2 (some .int) 1 := ⟨tw_2218, tw_99, tw_138, tw_2219, by decide +kernel, by decide +kernel⟩
theorem kv_X12_die : Kv yX12_die RX12 cX12_die 2 (some .int) 1 := ⟨tw_2177, tw_2178, tw_138, tw_2179, by decide +kernel, by decide +kernel⟩
theorem kv_X12_eat : Kv yX12_eat RX12 cX12_eat 3 (some .boolean) 1 := ⟨tw_2073, tw_78, tw_138, tw_2074, by decide +kernel, by decide +kernel⟩
theorem kv_X12_emits : Kv yX12_emits RX12 cX12_emits 3 none 2 := ⟨tw_2100, tw_84, tw_138, tw_2101, by decide +kernel, by decide +kernel⟩
theorem kv_X12_enter : Kv yX12_enter RX12 cX12_enter 6 (some .int) 3 := ⟨tw_2304, tw_2305, tw_138, tw_2306, by decide +kernel, by decide +kernel⟩
theorem kv_X12_fault : Kv yX12_fault RX12 cX12_fault 1 (some .int) 0 := ⟨tw_2140, tw_2141, tw_138, tw_2142, by decide +kernel, by decide +kernel⟩
theorem kv_X12_feed : Kv yX12_feed RX12 cX12_feed 9 (some .int) 5 := ⟨tw_1929, tw_1930, tw_138, tw_1931, by decide +kernel, by decide +kernel⟩
theorem kv_X12_figures : Kv yX12_figures RX12 cX12_figures 5 (some .int) 2 := ⟨tw_2096, tw_83, tw_138, tw_2097, by decide +kernel, by decide +kernel⟩
theorem kv_X12_fine : Kv yX12_fine RX12 cX12_fine 2 (some .int) 1 := ⟨tw_2240, tw_2241, tw_138, tw_2242, by decide +kernel, by decide +kernel⟩
theorem kv_X12_force : Kv yX12_force RX12 cX12_force 3 (some .boolean) 2 := ⟨tw_2144, tw_2145, tw_138, tw_2146, by decide +kernel, by decide +kernel⟩
theorem kv_X12_forces : Kv yX12_forces RX12 cX12_forces 5 none 1 := ⟨tw_2153, tw_91, tw_138, tw_2154, by decide +kernel, by decide +kernel⟩
theorem kv_X12_gains : Kv yX12_gains RX12 cX12_gains 3 none 2 := ⟨tw_2285, tw_109, tw_138, tw_2286, by decide +kernel, by decide +kernel⟩
theorem kv_X12_gives : Kv yX12_gives RX12 cX12_gives 7 none 5 := ⟨tw_2362, tw_119, tw_138, tw_2363, by decide +kernel, by decide +kernel⟩
theorem kv_X12_heir : Kv yX12_heir RX12 cX12_heir 4 (some .int) 2 := ⟨tw_2169, tw_2170, tw_138, tw_2171, by decide +kernel, by decide +kernel⟩
theorem ks_X12_in : Ks yX12_in cX12_in 3 (some .boolean) 3 := ⟨tw_1919, tw_138, tw_1920, by decide +kernel, by decide +kernel⟩
theorem kv_X12_isAnswered : Kv yX12_isAnswered RX12 cX12_isAnswered 3 (some .boolean) 1 := ⟨tw_2269, tw_105, tw_138, tw_2270, by decide +kernel, by decide +kernel⟩
theorem kv_X12_isBarred : Kv yX12_isBarred RX12 cX12_isBarred 4 (some .boolean) 1 := ⟨tw_2210, tw_97, tw_138, tw_2211, by decide +kernel, by decide +kernel⟩
theorem ks_X12_isBetween : Ks yX12_isBetween cX12_isBetween 3 (some .boolean) 3 := ⟨tw_1960, tw_138, tw_1961, by decide +kernel, by decide +kernel⟩
theorem kv_X12_isCase : Kv yX12_isCase RX12 cX12_isCase 2 (some .boolean) 1 := ⟨tw_2253, tw_103, tw_138, tw_2254, by decide +kernel, by decide +kernel⟩
theorem ks_X12_isDay : Ks yX12_isDay cX12_isDay 1 (some .boolean) 1 := ⟨tw_1937, tw_138, tw_1938, by decide +kernel, by decide +kernel⟩
theorem kv_X12_isDead : Kv yX12_isDead RX12 cX12_isDead 2 (some .boolean) 1 := ⟨tw_2182, tw_94, tw_138, tw_2183, by decide +kernel, by decide +kernel⟩
theorem kv_X12_isDeed : Kv yX12_isDeed RX12 cX12_isDeed 2 (some .boolean) 1 := ⟨tw_2206, tw_96, tw_138, tw_2207, by decide +kernel, by decide +kernel⟩
theorem ks_X12_isDigit : Ks yX12_isDigit cX12_isDigit 1 (some .boolean) 1 := ⟨tw_2092, tw_138, tw_2093, by decide +kernel, by decide +kernel⟩
theorem kv_X12_isListed : Kv yX12_isListed RX12 cX12_isListed 3 (some .boolean) 1 := ⟨tw_2317, tw_112, tw_138, tw_2318, by decide +kernel, by decide +kernel⟩
theorem kv_X12_isMet : Kv yX12_isMet RX12 cX12_isMet 7 (some .boolean) 2 := ⟨tw_1964, tw_65, tw_138, tw_1965, by decide +kernel, by decide +kernel⟩
theorem kv_X12_isNear : Kv yX12_isNear RX12 cX12_isNear 24 (some .boolean) 3 := ⟨tw_1992, tw_68, tw_138, tw_1993, by decide +kernel, by decide +kernel⟩
theorem kv_X12_isOn : Kv yX12_isOn RX12 cX12_isOn 4 (some .boolean) 3 := ⟨tw_1954, tw_64, tw_138, tw_1955, by decide +kernel, by decide +kernel⟩
theorem kv_X12_isPerson : Kv yX12_isPerson RX12 cX12_isPerson 2 (some .boolean) 1 := ⟨tw_2174, tw_93, tw_138, tw_2175, by decide +kernel, by decide +kernel⟩
theorem ks_X12_isPlace : Ks yX12_isPlace cX12_isPlace 2 (some .boolean) 2 := ⟨tw_1922, tw_138, tw_1923, by decide +kernel, by decide +kernel⟩
theorem kv_X12_isSimple : Kv yX12_isSimple RX12 cX12_isSimple 3 (some .boolean) 0 := ⟨tw_1942, tw_61, tw_138, tw_1943, by decide +kernel, by decide +kernel⟩
theorem kv_X12_isText : Kv yX12_isText RX12 cX12_isText 2 (some .boolean) 1 := ⟨tw_2149, tw_90, tw_138, tw_2150, by decide +kernel, by decide +kernel⟩
theorem kv_X12_isWood : Kv yX12_isWood RX12 cX12_isWood 2 (some .boolean) 1 := ⟨tw_2381, tw_120, tw_138, tw_2382, by decide +kernel, by decide +kernel⟩
theorem kv_X12_isWord : Kv yX12_isWord RX12 cX12_isWord 3 (some .boolean) 1 := ⟨tw_2046, tw_74, tw_138, tw_2047, by decide +kernel, by decide +kernel⟩
theorem ks_X12_isYear : Ks yX12_isYear cX12_isYear 1 (some .boolean) 1 := ⟨tw_2373, tw_138, tw_2374, by decide +kernel, by decide +kernel⟩
theorem kv_X12_joined : Kv yX12_joined RX12 cX12_joined 4 (some .int) 2 := ⟨tw_2328, tw_2329, tw_138, tw_2330, by decide +kernel, by decide +kernel⟩
theorem kv_X12_left : Kv yX12_left RX12 cX12_left 8 (some .int) 5 := ⟨tw_2389, tw_121, tw_138, tw_2390, by decide +kernel, by decide +kernel⟩
theorem kv_X12_lists : Kv yX12_lists RX12 cX12_lists 6 (some .boolean) 0 := ⟨tw_2313, tw_111, tw_138, tw_2314, by decide +kernel, by decide +kernel⟩
theorem kv_X12_lodge : Kv yX12_lodge RX12 cX12_lodge 5 (some .int) 4 := ⟨tw_2340, tw_2341, tw_138, tw_2342, by decide +kernel, by decide +kernel⟩
theorem kv_X12_mark : Kv yX12_mark RX12 cX12_mark 6 (some .int) 3 := ⟨tw_1915, tw_1916, tw_138, tw_1917, by decide +kernel, by decide +kernel⟩
theorem ks_X12_most : Ks yX12_most cX12_most 1 (some .int) 1 := ⟨tw_2392, tw_138, tw_2393, by decide +kernel, by decide +kernel⟩
theorem kv_X12_of : Kv yX12_of RX12 cX12_of 3 (some .int) 2 := ⟨tw_2256, tw_2257, tw_138, tw_2258, by decide +kernel, by decide +kernel⟩
theorem kv_X12_opens : Kv yX12_opens RX12 cX12_opens 2 none 1 := ⟨tw_2115, tw_85, tw_138, tw_2116, by decide +kernel, by decide +kernel⟩
theorem kv_X12_orders : Kv yX12_orders RX12 cX12_orders 7 none 3 := ⟨tw_2325, tw_114, tw_138, tw_2326, by decide +kernel, by decide +kernel⟩
theorem kv_X12_ors : Kv yX12_ors RX12 cX12_ors 1 none 0 := ⟨tw_2124, tw_87, tw_138, tw_2125, by decide +kernel, by decide +kernel⟩
theorem kv_X12_owes : Kv yX12_owes RX12 cX12_owes 4 (some .int) 1 := ⟨tw_2190, tw_95, tw_138, tw_2191, by decide +kernel, by decide +kernel⟩
theorem kv_X12_payer : Kv yX12_payer RX12 cX12_payer 2 (some .int) 1 := ⟨tw_2289, tw_110, tw_138, tw_2290, by decide +kernel, by decide +kernel⟩
theorem kv_X12_pays : Kv yX12_pays RX12 cX12_pays 8 none 4 := ⟨tw_2281, tw_108, tw_138, tw_2282, by decide +kernel, by decide +kernel⟩
theorem kv_X12_person : Kv yX12_person RX12 cX12_person 3 (some .int) 2 := ⟨tw_2164, tw_2165, tw_138, tw_2166, by decide +kernel, by decide +kernel⟩
theorem kv_X12_placeIn : Kv yX12_placeIn RX12 cX12_placeIn 4 (some .int) 2 := ⟨tw_2321, tw_113, tw_138, tw_2322, by decide +kernel, by decide +kernel⟩
theorem kv_X12_placed : Kv yX12_placed RX12 cX12_placed 8 (some .int) 3 := ⟨tw_1988, tw_67, tw_138, tw_1989, by decide +kernel, by decide +kernel⟩
theorem kv_X12_present : Kv yX12_present RX12 cX12_present 6 (some .int) 4 := ⟨tw_2244, tw_2245, tw_138, tw_2246, by decide +kernel, by decide +kernel⟩
theorem kv_X12_product : Kv yX12_product RX12 cX12_product 2 none 0 := ⟨tw_2085, tw_81, tw_138, tw_2086, by decide +kernel, by decide +kernel⟩
theorem kv_X12_proof : Kv yX12_proof RX12 cX12_proof 3 (some .int) 2 := ⟨tw_2248, tw_2249, tw_138, tw_2250, by decide +kernel, by decide +kernel⟩
theorem kv_X12_quarrel : Kv yX12_quarrel RX12 cX12_quarrel 1 (some .int) 0 := ⟨tw_2308, tw_2309, tw_138, tw_2310, by decide +kernel, by decide +kernel⟩
theorem kv_X12_ring : Kv yX12_ring RX12 cX12_ring 4 (some .int) 2 := ⟨tw_1933, tw_1934, tw_138, tw_1935, by decide +kernel, by decide +kernel⟩
theorem kv_X12_rivals : Kv yX12_rivals RX12 cX12_rivals 1 (some .int) 0 := ⟨tw_2014, tw_2015, tw_138, tw_2016, by decide +kernel, by decide +kernel⟩
theorem kv_X12_rounds : Kv yX12_rounds RX12 cX12_rounds 11 none 1 := ⟨tw_2357, tw_118, tw_138, tw_2358, by decide +kernel, by decide +kernel⟩
theorem kv_X12_rule : Kv yX12_rule RX12 cX12_rule 3 (some .int) 2 := ⟨tw_2156, tw_2157, tw_138, tw_2158, by decide +kernel, by decide +kernel⟩
theorem kv_X12_ruleOf : Kv yX12_ruleOf RX12 cX12_ruleOf 7 (some .int) 2 := ⟨tw_2161, tw_92, tw_138, tw_2162, by decide +kernel, by decide +kernel⟩
theorem kv_X12_sides : Kv yX12_sides RX12 cX12_sides 3 (some .int) 0 := ⟨tw_2004, tw_70, tw_138, tw_2005, by decide +kernel, by decide +kernel⟩
theorem kv_X12_sign : Kv yX12_sign RX12 cX12_sign 2 none 1 := ⟨tw_2077, tw_79, tw_138, tw_2078, by decide +kernel, by decide +kernel⟩
theorem kv_X12_sits : Kv yX12_sits RX12 cX12_sits 4 none 1 := ⟨tw_2265, tw_104, tw_138, tw_2266, by decide +kernel, by decide +kernel⟩
theorem ks_X12_size : Ks yX12_size cX12_size 1 (some .int) 1 := ⟨tw_2007, tw_138, tw_2008, by decide +kernel, by decide +kernel⟩
theorem kv_X12_spot : Kv yX12_spot RX12 cX12_spot 4 (some .int) 3 := ⟨tw_2344, tw_2345, tw_138, tw_2346, by decide +kernel, by decide +kernel⟩
theorem kv_X12_stock : Kv yX12_stock RX12 cX12_stock 8 (some .int) 4 := ⟨tw_2384, tw_2385, tw_138, tw_2386, by decide +kernel, by decide +kernel⟩
theorem kv_X12_strip : Kv yX12_strip RX12 cX12_strip 3 (some .int) 1 := ⟨tw_1971, tw_1972, tw_138, tw_1973, by decide +kernel, by decide +kernel⟩
theorem kv_X12_sum : Kv yX12_sum RX12 cX12_sum 2 none 0 := ⟨tw_2081, tw_80, tw_138, tw_2082, by decide +kernel, by decide +kernel⟩
theorem kv_X12_sumOf : Kv yX12_sumOf RX12 cX12_sumOf 6 (some .int) 1 := ⟨tw_2333, tw_115, tw_138, tw_2334, by decide +kernel, by decide +kernel⟩
theorem kv_X12_sure : Kv yX12_sure RX12 cX12_sure 3 (some .int) 2 := ⟨tw_2300, tw_2301, tw_138, tw_2302, by decide +kernel, by decide +kernel⟩
theorem kv_X12_sureOf : Kv yX12_sureOf RX12 cX12_sureOf 9 (some .int) 2 := ⟨tw_2233, tw_102, tw_138, tw_2234, by decide +kernel, by decide +kernel⟩
theorem kv_X12_take : Kv yX12_take RX12 cX12_take 5 (some .int) 4 := ⟨tw_2376, tw_2377, tw_138, tw_2378, by decide +kernel, by decide +kernel⟩
theorem kv_X12_test : Kv yX12_test RX12 cX12_test 2 none 0 := ⟨tw_2132, tw_89, tw_138, tw_2133, by decide +kernel, by decide +kernel⟩
theorem kv_X12_text : Kv yX12_text RX12 cX12_text 4 (some .int) 2 := ⟨tw_2018, tw_2019, tw_138, tw_2020, by decide +kernel, by decide +kernel⟩
theorem kv_X12_thrown : Kv yX12_thrown RX12 cX12_thrown 1 (some .int) 0 := ⟨tw_1911, tw_1912, tw_138, tw_1913, by decide +kernel, by decide +kernel⟩
theorem kv_X12_told : Kv yX12_told RX12 cX12_told 3 (some .int) 2 := ⟨tw_2185, tw_2186, tw_138, tw_2187, by decide +kernel, by decide +kernel⟩
theorem ks_X12_toldName : Ks yX12_toldName cX12_toldName 1 (some (.object "java/lang/String")) 1 := ⟨tw_2103, tw_138, tw_2104, by decide +kernel, by decide +kernel⟩
theorem ks_X12_turn : Ks yX12_turn cX12_turn 7 (some .int) 6 := ⟨tw_1957, tw_138, tw_1958, by decide +kernel, by decide +kernel⟩
theorem kv_X12_unit : Kv yX12_unit RX12 cX12_unit 3 none 0 := ⟨tw_2089, tw_82, tw_138, tw_2090, by decide +kernel, by decide +kernel⟩
theorem kv_X12_unring : Kv yX12_unring RX12 cX12_unring 4 (some .int) 2 := ⟨tw_1967, tw_1968, tw_138, tw_1969, by decide +kernel, by decide +kernel⟩
theorem kv_X12_use : Kv yX12_use RX12 cX12_use 4 (some .int) 3 := ⟨tw_2296, tw_2297, tw_138, tw_2298, by decide +kernel, by decide +kernel⟩
theorem kv_X12_value : Kv yX12_value RX12 cX12_value 8 (some .int) 4 := ⟨tw_2222, tw_100, tw_138, tw_2223, by decide +kernel, by decide +kernel⟩
theorem kv_X12_valueOf : Kv yX12_valueOf RX12 cX12_valueOf 4 (some .int) 3 := ⟨tw_2226, tw_101, tw_138, tw_2227, by decide +kernel, by decide +kernel⟩
theorem kv_X12_wait : Kv yX12_wait RX12 cX12_wait 4 (some .int) 1 := ⟨tw_2260, tw_2261, tw_138, tw_2262, by decide +kernel, by decide +kernel⟩
theorem kv_X12_walk : Kv yX12_walk RX12 cX12_walk 3 (some .int) 1 := ⟨tw_1995, tw_1996, tw_138, tw_1997, by decide +kernel, by decide +kernel⟩
theorem kv_X12_walked : Kv yX12_walked RX12 cX12_walked 2 (some .int) 1 := ⟨tw_2010, tw_2011, tw_138, tw_2012, by decide +kernel, by decide +kernel⟩
theorem kv_X12_walks : Kv yX12_walks RX12 cX12_walks 4 none 2 := ⟨tw_2000, tw_69, tw_138, tw_2001, by decide +kernel, by decide +kernel⟩
theorem kv_X12_warden : Kv yX12_warden RX12 cX12_warden 4 (some .int) 3 := ⟨tw_2193, tw_2194, tw_138, tw_2195, by decide +kernel, by decide +kernel⟩
theorem kv_X12_where : Kv yX12_where RX12 cX12_where 4 (some .int) 3 := ⟨tw_1983, tw_1984, tw_138, tw_1985, by decide +kernel, by decide +kernel⟩
theorem kv_X12_why : Kv yX12_why RX12 cX12_why 2 (some .int) 1 := ⟨tw_2236, tw_2237, tw_138, tw_2238, by decide +kernel, by decide +kernel⟩
theorem kv_X12_wood : Kv yX12_wood RX12 cX12_wood 4 (some .int) 3 := ⟨tw_2369, tw_2370, tw_138, tw_2371, by decide +kernel, by decide +kernel⟩
theorem kv_X12_words : Kv yX12_words RX12 cX12_words 7 none 1 := ⟨tw_2214, tw_98, tw_138, tw_2215, by decide +kernel, by decide +kernel⟩
theorem ks_X12_worked : Ks yX12_worked cX12_worked 3 (some .int) 3 := ⟨tw_2229, tw_138, tw_2230, by decide +kernel, by decide +kernel⟩
theorem kv_X12_wrong : Kv yX12_wrong RX12 cX12_wrong 3 none 2 := ⟨tw_2052, tw_75, tw_138, tw_2053, by decide +kernel, by decide +kernel⟩
theorem kv_X12_x : Kv yX12_x RX12 cX12_x 2 (some .int) 1 := ⟨tw_1946, tw_62, tw_138, tw_1947, by decide +kernel, by decide +kernel⟩
theorem kv_X12_y : Kv yX12_y RX12 cX12_y 2 (some .int) 1 := ⟨tw_1950, tw_63, tw_138, tw_1951, by decide +kernel, by decide +kernel⟩
theorem ks_J13_bitCount_95d88 : Ks yJ13_bitCount_95d88 cJ13_bitCount_95d88 2 (some .int) 1 := ⟨tw_1357, tw_149, tw_1358, by decide +kernel, by decide +kernel⟩
theorem kv_J0_charAt_5068e : Kv yJ0_charAt_5068e RJ0 cJ0_charAt_5068e 2 (some .char) 1 := ⟨tw_1115, tw_1116, tw_145, tw_1117, by decide +kernel, by decide +kernel⟩
theorem ks_J0_checkIndex_df160 : Ks yJ0_checkIndex_df160 cJ0_checkIndex_df160 2 none 2 := ⟨tw_1126, tw_145, tw_1127, by decide +kernel, by decide +kernel⟩
theorem kv_J0_coder_7d493 : Kv yJ0_coder_7d493 RJ0 cJ0_coder_7d493 1 (some .byte) 0 := ⟨tw_1109, tw_1110, tw_145, tw_1111, by decide +kernel, by decide +kernel⟩
theorem kv_J0_isLatin1_aae02 : Kv yJ0_isLatin1_aae02 RJ0 cJ0_isLatin1_aae02 1 (some .boolean) 0 := ⟨tw_1119, tw_1120, tw_145, tw_1121, by decide +kernel, by decide +kernel⟩
theorem kv_J0_length_8abf5 : Kv yJ0_length_8abf5 RJ0 cJ0_length_8abf5 1 (some .int) 0 := ⟨tw_1105, tw_1106, tw_145, tw_1107, by decide +kernel, by decide +kernel⟩
theorem ks_J1_charAt_3b067 : Ks yJ1_charAt_3b067 cJ1_charAt_3b067 2 (some .char) 2 := ⟨tw_1123, tw_146, tw_1124, by decide +kernel, by decide +kernel⟩
theorem ks_J7_copyOf_59c91 : Ks yJ7_copyOf_59c91 cJ7_copyOf_59c91 3 (some (.array .int)) 2 := ⟨tw_357, tw_133, tw_358, by decide +kernel, by decide +kernel⟩
theorem ks_J7_fill_53178 : Ks yJ7_fill_53178 cJ7_fill_53178 4 none 2 := ⟨tw_597, tw_133, tw_598, by decide +kernel, by decide +kernel⟩
theorem ks_J3_checkIndex_8e157 : Ks yJ3_checkIndex_8e157 cJ3_checkIndex_8e157 3 (some .int) 3 := ⟨tw_1131, tw_147, tw_1132, by decide +kernel, by decide +kernel⟩
