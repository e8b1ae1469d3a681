theorem tw_155 : Cond.methodLink "ForestCourts" 1 ⟨"java/lang/Object", "<init>", "()V"⟩ ∈ TT := in_tb (tb_1 (List.mem_of_getElem? (i := 33) rfl)) rfl
theorem tw_156 : Cond.instanceMethod ⟨"java/lang/Object", "<init>", "()V"⟩ ∈ TT := in_tb (tb_1 (List.mem_of_getElem? (i := 34) rfl)) rfl
theorem tw_158 : Cond.classLink "ForestCourts" 7 "ForestCourts$Table" ∈ TT := in_tb (tb_1 (List.mem_of_getElem? (i := 36) rfl)) rfl
theorem tw_159 : Cond.instantiable "ForestCourts$Table" 4 ∈ TT := in_tb (tb_1 (List.mem_of_getElem? (i := 37) rfl)) rfl
theorem tw_160 : Cond.methodLink "ForestCourts" 11 ⟨"ForestCourts$Table", "<init>", "(II)V"⟩ ∈ TT := in_tb (tb_1 (List.mem_of_getElem? (i := 38) rfl)) rfl
theorem tw_161 : Cond.instanceMethod ⟨"ForestCourts$Table", "<init>", "(II)V"⟩ ∈ TT := in_tb (tb_1 (List.mem_of_getElem? (i := 39) rfl)) rfl
theorem tw_162 : Cond.code ⟨"ForestCourts$Table", "<init>", "(II)V"⟩ prog_11_method_1_code 3 (Option.none : Option FieldType) ∈ TT := in_tb (tb_1 (List.mem_of_getElem? (i := 40) rfl)) rfl
theorem tw_163 : Cond.methodLink "ForestCourts$Table" 3 ⟨"java/lang/Object", "<init>", "()V"⟩ ∈ TT := in_tb (tb_1 (List.mem_of_getElem? (i := 41) rfl)) rfl
theorem tw_181 : Cond.classLink "ForestCourts" 18 "ForestCourts$Ground" ∈ TT := in_tb (tb_1 (List.mem_of_getElem? (i := 59) rfl)) rfl
theorem tw_182 : Cond.instantiable "ForestCourts$Ground" 4 ∈ TT := in_tb (tb_1 (List.mem_of_getElem? (i := 60) rfl)) rfl
theorem tw_183 : Cond.methodLink "ForestCourts" 20 ⟨"ForestCourts$Ground", "<init>", "()V"⟩ ∈ TT := in_tb (tb_1 (List.mem_of_getElem? (i := 61) rfl)) rfl
theorem tw_184 : Cond.instanceMethod ⟨"ForestCourts$Ground", "<init>", "()V"⟩ ∈ TT := in_tb (tb_1 (List.mem_of_getElem? (i := 62) rfl)) rfl
theorem tw_185 : Cond.code ⟨"ForestCourts$Ground", "<init>", "()V"⟩ prog_4_method_1_code 1 (Option.none : Option FieldType) ∈ TT := in_tb (tb_1 (List.mem_of_getElem? (i := 63) rfl)) rfl
theorem tw_186 : Cond.methodLink "ForestCourts$Ground" 3 ⟨"java/lang/Object", "<init>", "()V"⟩ ∈ TT := in_tb (tb_1 (List.mem_of_getElem? (i := 64) rfl)) rfl
theorem tw_187 : Cond.classLink "ForestCourts$Ground" 9 "ForestCourts$Table" ∈ TT := in_tb (tb_1 (List.mem_of_getElem? (i := 65) rfl)) rfl
theorem tw_188 : Cond.methodLink "ForestCourts$Ground" 13 ⟨"ForestCourts$Table", "<init>", "(II)V"⟩ ∈ TT := in_tb (tb_1 (List.mem_of_getElem? (i := 66) rfl)) rfl
theorem tw_206 : Cond.classLink "ForestCourts" 25 "ForestCourts$Search" ∈ TT := in_tb (tb_1 (List.mem_of_getElem? (i := 84) rfl)) rfl
theorem tw_207 : Cond.instantiable "ForestCourts$Search" 7 ∈ TT := in_tb (tb_1 (List.mem_of_getElem? (i := 85) rfl)) rfl
theorem tw_208 : Cond.methodLink "ForestCourts" 27 ⟨"ForestCourts$Search", "<init>", "(LForestCourts$Ground;)V"⟩ ∈ TT := in_tb (tb_1 (List.mem_of_getElem? (i := 86) rfl)) rfl
theorem tw_209 : Cond.instanceMethod ⟨"ForestCourts$Search", "<init>", "(LForestCourts$Ground;)V"⟩ ∈ TT := in_tb (tb_1 (List.mem_of_getElem? (i := 87) rfl)) rfl
theorem tw_210 : Cond.code ⟨"ForestCourts$Search", "<init>", "(LForestCourts$Ground;)V"⟩ prog_10_method_1_code 2 (Option.none : Option FieldType) ∈ TT := in_tb (tb_1 (List.mem_of_getElem? (i := 88) rfl)) rfl
theorem tw_211 : Cond.methodLink "ForestCourts$Search" 3 ⟨"java/lang/Object", "<init>", "()V"⟩ ∈ TT := in_tb (tb_1 (List.mem_of_getElem? (i := 89) rfl)) rfl
theorem tw_235 : Cond.classLink "ForestCourts" 34 "ForestCourts$Laws" ∈ TT := in_tb (tb_1 (List.mem_of_getElem? (i := 113) rfl)) rfl
theorem tw_236 : Cond.instantiable "ForestCourts$Laws" 8 ∈ TT := in_tb (tb_1 (List.mem_of_getElem? (i := 114) rfl)) rfl
theorem tw_237 : Cond.methodLink "ForestCourts" 36 ⟨"ForestCourts$Laws", "<init>", "(LForestCourts$Table;)V"⟩ ∈ TT := in_tb (tb_1 (List.mem_of_getElem? (i := 115) rfl)) rfl
theorem tw_238 : Cond.instanceMethod ⟨"ForestCourts$Laws", "<init>", "(LForestCourts$Table;)V"⟩ ∈ TT := in_tb (tb_1 (List.mem_of_getElem? (i := 116) rfl)) rfl
theorem tw_239 : Cond.code ⟨"ForestCourts$Laws", "<init>", "(LForestCourts$Table;)V"⟩ prog_5_method_1_code 2 (Option.none : Option FieldType) ∈ TT := in_tb (tb_1 (List.mem_of_getElem? (i := 117) rfl)) rfl
theorem tw_240 : Cond.methodLink "ForestCourts$Laws" 3 ⟨"java/lang/Object", "<init>", "()V"⟩ ∈ TT := in_tb (tb_1 (List.mem_of_getElem? (i := 118) rfl)) rfl
theorem tw_241 : Cond.classLink "ForestCourts$Laws" 9 "ForestCourts$Table" ∈ TT := in_tb (tb_1 (List.mem_of_getElem? (i := 119) rfl)) rfl
theorem tw_242 : Cond.methodLink "ForestCourts$Laws" 13 ⟨"ForestCourts$Table", "<init>", "(II)V"⟩ ∈ TT := in_tb (tb_1 (List.mem_of_getElem? (i := 120) rfl)) rfl
theorem tw_243 : Cond.classLink "ForestCourts$Laws" 20 "ForestCourts$Reader" ∈ TT := in_tb (tb_1 (List.mem_of_getElem? (i := 121) rfl)) rfl
theorem tw_244 : Cond.instantiable "ForestCourts$Reader" 8 ∈ TT := in_tb (tb_1 (List.mem_of_getElem? (i := 122) rfl)) rfl
theorem tw_245 : Cond.methodLink "ForestCourts$Laws" 28 ⟨"ForestCourts$Reader", "<init>", "(LForestCourts$Table;LForestCourts$Table;LForestCourts$Table;)V"⟩ ∈ TT := in_tb (tb_1 (List.mem_of_getElem? (i := 123) rfl)) rfl
theorem tw_246 : Cond.instanceMethod ⟨"ForestCourts$Reader", "<init>", "(LForestCourts$Table;LForestCourts$Table;LForestCourts$Table;)V"⟩ ∈ TT := in_tb (tb_1 (List.mem_of_getElem? (i := 124) rfl)) rfl
theorem tw_247 : Cond.code ⟨"ForestCourts$Reader", "<init>", "(LForestCourts$Table;LForestCourts$Table;LForestCourts$Table;)V"⟩ prog_8_method_1_code 4 (Option.none : Option FieldType) ∈ TT := in_tb (tb_1 (List.mem_of_getElem? (i := 125) rfl)) rfl
theorem tw_248 : Cond.methodLink "ForestCourts$Reader" 3 ⟨"java/lang/Object", "<init>", "()V"⟩ ∈ TT := in_tb (tb_1 (List.mem_of_getElem? (i := 126) rfl)) rfl
theorem tw_304 : Cond.classLink "ForestCourts" 43 "ForestCourts$People" ∈ TT := in_tb (tb_1 (List.mem_of_getElem? (i := 182) rfl)) rfl
theorem tw_305 : Cond.instantiable "ForestCourts$People" 1 ∈ TT := in_tb (tb_1 (List.mem_of_getElem? (i := 183) rfl)) rfl
theorem tw_306 : Cond.methodLink "ForestCourts" 45 ⟨"ForestCourts$People", "<init>", "()V"⟩ ∈ TT := in_tb (tb_1 (List.mem_of_getElem? (i := 184) rfl)) rfl
theorem tw_307 : Cond.instanceMethod ⟨"ForestCourts$People", "<init>", "()V"⟩ ∈ TT := in_tb (tb_1 (List.mem_of_getElem? (i := 185) rfl)) rfl
theorem tw_308 : Cond.code ⟨"ForestCourts$People", "<init>", "()V"⟩ prog_7_method_1_code 1 (Option.none : Option FieldType) ∈ TT := in_tb (tb_1 (List.mem_of_getElem? (i := 186) rfl)) rfl
theorem tw_309 : Cond.methodLink "ForestCourts$People" 3 ⟨"java/lang/Object", "<init>", "()V"⟩ ∈ TT := in_tb (tb_1 (List.mem_of_getElem? (i := 187) rfl)) rfl
theorem tw_310 : Cond.classLink "ForestCourts$People" 9 "ForestCourts$Table" ∈ TT := in_tb (tb_1 (List.mem_of_getElem? (i := 188) rfl)) rfl
theorem tw_311 : Cond.methodLink "ForestCourts$People" 11 ⟨"ForestCourts$Table", "<init>", "(II)V"⟩ ∈ TT := in_tb (tb_1 (List.mem_of_getElem? (i := 189) rfl)) rfl
theorem tw_318 : Cond.classLink "ForestCourts" 50 "ForestCourts$Claims" ∈ TT := in_tb (tb_1 (List.mem_of_getElem? (i := 196) rfl)) rfl
theorem tw_319 : Cond.instantiable "ForestCourts$Claims" 4 ∈ TT := in_tb (tb_1 (List.mem_of_getElem? (i := 197) rfl)) rfl
theorem tw_320 : Cond.methodLink "ForestCourts" 52 ⟨"ForestCourts$Claims", "<init>", "(LForestCourts$People;LForestCourts$Laws;)V"⟩ ∈ TT := in_tb (tb_1 (List.mem_of_getElem? (i := 198) rfl)) rfl
theorem tw_321 : Cond.instanceMethod ⟨"ForestCourts$Claims", "<init>", "(LForestCourts$People;LForestCourts$Laws;)V"⟩ ∈ TT := in_tb (tb_1 (List.mem_of_getElem? (i := 199) rfl)) rfl
theorem tw_322 : Cond.code ⟨"ForestCourts$Claims", "<init>", "(LForestCourts$People;LForestCourts$Laws;)V"⟩ prog_2_method_1_code 3 (Option.none : Option FieldType) ∈ TT := in_tb (tb_1 (List.mem_of_getElem? (i := 200) rfl)) rfl
theorem tw_323 : Cond.methodLink "ForestCourts$Claims" 3 ⟨"java/lang/Object", "<init>", "()V"⟩ ∈ TT := in_tb (tb_1 (List.mem_of_getElem? (i := 201) rfl)) rfl
theorem tw_324 : Cond.classLink "ForestCourts$Claims" 19 "ForestCourts$Table" ∈ TT := in_tb (tb_1 (List.mem_of_getElem? (i := 202) rfl)) rfl
theorem tw_325 : Cond.methodLink "ForestCourts$Claims" 21 ⟨"ForestCourts$Table", "<init>", "(II)V"⟩ ∈ TT := in_tb (tb_1 (List.mem_of_getElem? (i := 203) rfl)) rfl
theorem tw_340 : Cond.classLink "ForestCourts" 59 "ForestCourts$Courts" ∈ TT := in_tb (tb_1 (List.mem_of_getElem? (i := 218) rfl)) rfl
theorem tw_341 : Cond.instantiable "ForestCourts$Courts" 13 ∈ TT := in_tb (tb_1 (List.mem_of_getElem? (i := 219) rfl)) rfl
theorem tw_342 : Cond.methodLink "ForestCourts" 61 ⟨"ForestCourts$Courts", "<init>", "(LForestCourts$Ground;LForestCourts$Laws;LForestCourts$People;LForestCourts$Claims;)V"⟩ ∈ TT := in_tb (tb_1 (List.mem_of_getElem? (i := 220) rfl)) rfl
theorem tw_343 : Cond.instanceMethod ⟨"ForestCourts$Courts", "<init>", "(LForestCourts$Ground;LForestCourts$Laws;LForestCourts$People;LForestCourts$Claims;)V"⟩ ∈ TT := in_tb (tb_1 (List.mem_of_getElem? (i := 221) rfl)) rfl
theorem tw_344 : Cond.code ⟨"ForestCourts$Courts", "<init>", "(LForestCourts$Ground;LForestCourts$Laws;LForestCourts$People;LForestCourts$Claims;)V"⟩ prog_3_method_1_code 5 (Option.none : Option FieldType) ∈ TT := in_tb (tb_1 (List.mem_of_getElem? (i := 222) rfl)) rfl
theorem tw_345 : Cond.methodLink "ForestCourts$Courts" 3 ⟨"java/lang/Object", "<init>", "()V"⟩ ∈ TT := in_tb (tb_1 (List.mem_of_getElem? (i := 223) rfl)) rfl
theorem tw_346 : Cond.classLink "ForestCourts$Courts" 27 "ForestCourts$Table" ∈ TT := in_tb (tb_1 (List.mem_of_getElem? (i := 224) rfl)) rfl
theorem tw_347 : Cond.methodLink "ForestCourts$Courts" 29 ⟨"ForestCourts$Table", "<init>", "(II)V"⟩ ∈ TT := in_tb (tb_1 (List.mem_of_getElem? (i := 225) rfl)) rfl
theorem tw_421 : Cond.classLink "ForestCourts" 68 "ForestCourts$Rolls" ∈ TT := in_tb (tb_2 (List.mem_of_getElem? (i := 59) rfl)) rfl
theorem tw_422 : Cond.instantiable "ForestCourts$Rolls" 8 ∈ TT := in_tb (tb_2 (List.mem_of_getElem? (i := 60) rfl)) rfl
theorem tw_423 : Cond.methodLink "ForestCourts" 70 ⟨"ForestCourts$Rolls", "<init>", "()V"⟩ ∈ TT := in_tb (tb_2 (List.mem_of_getElem? (i := 61) rfl)) rfl
theorem tw_424 : Cond.instanceMethod ⟨"ForestCourts$Rolls", "<init>", "()V"⟩ ∈ TT := in_tb (tb_2 (List.mem_of_getElem? (i := 62) rfl)) rfl
theorem tw_425 : Cond.code ⟨"ForestCourts$Rolls", "<init>", "()V"⟩ prog_9_method_1_code 1 (Option.none : Option FieldType) ∈ TT := in_tb (tb_2 (List.mem_of_getElem? (i := 63) rfl)) rfl
theorem tw_426 : Cond.methodLink "ForestCourts$Rolls" 3 ⟨"java/lang/Object", "<init>", "()V"⟩ ∈ TT := in_tb (tb_2 (List.mem_of_getElem? (i := 64) rfl)) rfl
theorem tw_427 : Cond.classLink "ForestCourts$Rolls" 9 "ForestCourts$Table" ∈ TT := in_tb (tb_2 (List.mem_of_getElem? (i := 65) rfl)) rfl
theorem tw_428 : Cond.methodLink "ForestCourts$Rolls" 13 ⟨"ForestCourts$Table", "<init>", "(II)V"⟩ ∈ TT := in_tb (tb_2 (List.mem_of_getElem? (i := 66) rfl)) rfl
theorem tw_454 : Cond.classLink "ForestCourts" 75 "ForestCourts$Patrols" ∈ TT := in_tb (tb_2 (List.mem_of_getElem? (i := 92) rfl)) rfl
theorem tw_455 : Cond.instantiable "ForestCourts$Patrols" 9 ∈ TT := in_tb (tb_2 (List.mem_of_getElem? (i := 93) rfl)) rfl
theorem tw_456 : Cond.methodLink "ForestCourts" 80 ⟨"ForestCourts$Patrols", "<init>", "(LForestCourts$Table;)V"⟩ ∈ TT := in_tb (tb_2 (List.mem_of_getElem? (i := 94) rfl)) rfl
theorem tw_457 : Cond.instanceMethod ⟨"ForestCourts$Patrols", "<init>", "(LForestCourts$Table;)V"⟩ ∈ TT := in_tb (tb_2 (List.mem_of_getElem? (i := 95) rfl)) rfl
theorem tw_458 : Cond.code ⟨"ForestCourts$Patrols", "<init>", "(LForestCourts$Table;)V"⟩ prog_6_method_1_code 2 (Option.none : Option FieldType) ∈ TT := in_tb (tb_2 (List.mem_of_getElem? (i := 96) rfl)) rfl
theorem tw_459 : Cond.methodLink "ForestCourts$Patrols" 5 ⟨"java/lang/Object", "<init>", "()V"⟩ ∈ TT := in_tb (tb_2 (List.mem_of_getElem? (i := 97) rfl)) rfl
theorem tw_460 : Cond.classLink "ForestCourts$Patrols" 15 "ForestCourts$Table" ∈ TT := in_tb (tb_2 (List.mem_of_getElem? (i := 98) rfl)) rfl
theorem tw_461 : Cond.methodLink "ForestCourts$Patrols" 17 ⟨"ForestCourts$Table", "<init>", "(II)V"⟩ ∈ TT := in_tb (tb_2 (List.mem_of_getElem? (i := 99) rfl)) rfl
theorem tw_492 : Cond.arrayClass FieldType.boolean ∈ TT := in_tb (tb_2 (List.mem_of_getElem? (i := 130) rfl)) rfl
theorem tw_493 : Cond.classLink "ForestCourts" 85 "ForestCourts$Woods" ∈ TT := in_tb (tb_2 (List.mem_of_getElem? (i := 131) rfl)) rfl
theorem tw_494 : Cond.instantiable "ForestCourts$Woods" 2 ∈ TT := in_tb (tb_2 (List.mem_of_getElem? (i := 132) rfl)) rfl
theorem tw_495 : Cond.methodLink "ForestCourts" 87 ⟨"ForestCourts$Woods", "<init>", "()V"⟩ ∈ TT := in_tb (tb_2 (List.mem_of_getElem? (i := 133) rfl)) rfl
theorem tw_496 : Cond.instanceMethod ⟨"ForestCourts$Woods", "<init>", "()V"⟩ ∈ TT := in_tb (tb_2 (List.mem_of_getElem? (i := 134) rfl)) rfl
theorem tw_497 : Cond.code ⟨"ForestCourts$Woods", "<init>", "()V"⟩ prog_12_method_1_code 1 (Option.none : Option FieldType) ∈ TT := in_tb (tb_2 (List.mem_of_getElem? (i := 135) rfl)) rfl
theorem tw_498 : Cond.methodLink "ForestCourts$Woods" 3 ⟨"java/lang/Object", "<init>", "()V"⟩ ∈ TT := in_tb (tb_2 (List.mem_of_getElem? (i := 136) rfl)) rfl
theorem tw_499 : Cond.classLink "ForestCourts$Woods" 9 "ForestCourts$Table" ∈ TT := in_tb (tb_2 (List.mem_of_getElem? (i := 137) rfl)) rfl
theorem tw_500 : Cond.methodLink "ForestCourts$Woods" 11 ⟨"ForestCourts$Table", "<init>", "(II)V"⟩ ∈ TT := in_tb (tb_2 (List.mem_of_getElem? (i := 138) rfl)) rfl
theorem tw_748 : Cond.arrayClass FieldType.byte ∈ TT := in_tb (tb_3 (List.mem_of_getElem? (i := 146) rfl)) rfl
theorem tw_1572 : Cond.methodLink "ForestCourtsModel" 1 ⟨"java/lang/Object", "<init>", "()V"⟩ ∈ TT := in_tb (tb_7 (List.mem_of_getElem? (i := 10) rfl)) rfl
/-! ===== makers: worlds that grow, with the one being made at place k ===== -/
def mkW (ws : va_W) (k : Nat) (e : Nat × va_E) (ns : va_W) : va_W := ws.set k e ++ ns
theorem mk_lt {ws : va_W} {k : Nat} {e : Nat × va_E} (h : ws[k]? = some e) : k < ws.length := (List.getElem?_eq_some_iff.mp h).1
theorem mk_0 {ws : va_W} {k : Nat} {e : Nat × va_E} (h : ws[k]? = some e) : ws = mkW ws k e [] := by
  unfold mkW
  rw [List.append_nil]
  apply List.ext_getElem?
  intro i
  rw [List.getElem?_set]
  by_cases hi : k = i
  · subst hi
    rw [if_pos rfl, if_pos (mk_lt h)]
    exact h
  · rw [if_neg hi]
theorem mk_this {ws ns : va_W} {k : Nat} {e : Nat × va_E} (hk : k < ws.length) : (mkW ws k e ns)[k]? = some e := by
  unfold mkW
  rw [List.getElem?_append_left (by rw [List.length_set]; exact hk), List.getElem?_set_self hk]
theorem mk_new {ws ns : va_W} {k : Nat} {e : Nat × va_E} (j : Nat) : (mkW ws k e ns)[ws.length + j]? = ns[j]? := by
  unfold mkW
  rw [List.getElem?_append_right (by rw [List.length_set]; exact Nat.le_add_right _ _), List.length_set, Nat.add_sub_cancel_left]
theorem mk_setT {ws ns : va_W} {k : Nat} {e e' : Nat × va_E} (hk : k < ws.length) : (mkW ws k e ns).set k e' = mkW ws k e' ns := by
  unfold mkW
  rw [List.set_append, if_pos (by rw [List.length_set]; exact hk), List.set_set]
theorem mk_setN {ws ns : va_W} {k j : Nat} {e x : Nat × va_E} : (mkW ws k e ns).set (ws.length + j) x = mkW ws k e (ns.set j x) := by
  unfold mkW
  rw [List.set_append, if_neg (by rw [List.length_set]; exact Nat.not_lt.mpr (Nat.le_add_right _ _)), List.length_set, Nat.add_sub_cancel_left]
theorem mk_app {ws ns : va_W} {k : Nat} {e x : Nat × va_E} : mkW ws k e ns ++ [x] = mkW ws k e (ns ++ [x]) := List.append_assoc _ _ _
theorem mk_in {ws ns ns' : va_W} {k j : Nat} {e e' : Nat × va_E} : mkW (mkW ws k e ns) (ws.length + j) e' ns' = mkW ws k e (ns.set j e' ++ ns') := by
  show (mkW ws k e ns).set (ws.length + j) e' ++ ns' = _
  rw [mk_setN]
  exact List.append_assoc _ _ _
section NWM
variable {g : EG} {p : Program} {l : Launch} {e : Env} {R : Room} {s : State} {m : MethodId} {args : Array Value} {below : List Frame} {meth : Method} {c : Code} {A : Nat → Prop} {Q : State → Prop} {nL : Nat} {cc : ByteArray} {own : String} {ws : va_W} {cells slots : Nat} {lv lv' : List (Nat × Value)} {pc : Nat} {st : List Value}
theorem nw_ws {ws' : va_W} (h : ws = ws') (k : Nw g p l e R s m args below meth c A Q nL ws' cells slots lv pc st) : Nw g p l e R s m args below meth c A Q nL ws cells slots lv pc st := h ▸ k
theorem nw_obj (C : Cx g p s m args meth c A nL cc own) {index : Nat} (hlink : Cond.methodLink own index Lib.objectInit ∈ TT) (hinst : Cond.instanceMethod Lib.objectInit ∈ TT) (hcode : Cond.code Lib.objectInit ⟨#[0xb1]⟩ 1 none ∈ TT) {a : Nat} (hd : decode cc pc = .ok (.invokespecial index, 3)) (hf : 1 ≤ R.frames) (hlo : 20 ≤ R.locals) (hst : (st.map fun v => v.category).sum ≤ 8)
    (k : Nw g p l e R s m args below meth c A Q nL ws cells slots lv (pc + 3) st) : Nw g p l e R s m args below meth c A Q nL ws cells slots lv pc (.ref a :: st) :=
  fun H locs ls hP hD hS hl => W.objInit C.1 C.2.1 C.2.2.2.1 (C.2.2.2.2.1 _ hlink) (C.2.2.2.2.1 _ hinst) (C.2.2.2.2.1 _ hcode) (g := F0 m pc ls (.ref a :: st)) rfl (hl.1.trans C.2.2.1.symm) rfl hd hf (Nat.le_trans (Nat.add_le_add_right (lv_room hst) 12) hlo) (k H locs ls hP hD hS hl)
theorem nw_new (C : Cx g p s m args meth c A nL cc own) {Cn : String} {T : u_T} {n ci index : Nat} (hin : ∀ w ∈ u_ws Cn T n, w ∈ TT) (ty : Nat → FieldType) (hty : ∀ k, k < n → parseFieldDescriptor (T k).2.2.1 = some (ty k)) (hcl : Cond.classLink own index Cn ∈ TT) (hinst : Cond.instantiable Cn n ∈ TT) (hini : Cond.initialized Cn ∈ TT) (hc : vwCl[ci]? = some (Cn, T, n)) {fs : List Value} (hfs : ∀ j, j < n → defaultValue (ty j) = vp_V fs j) (hcells : cells + 1 ≤ R.cells) (hslots : slots + n ≤ R.slots) (hd : decode cc pc = .ok (.new index, 3))
    (k : ∀ q : Nat, Nw g p l e R s m args below meth c A Q nL (ws ++ [(q, .inr (ci, fs))]) (cells + 1) (slots + n) lv (pc + 3) (.ref q :: st)) : Nw g p l e R s m args below meth c A Q nL ws cells slots lv pc st :=
  fun H locs ls hP hD hS hl => va_new C.1 C.2.1 C.2.2.2.2.1 hin ty hty C.2.2.2.1 (C.2.2.2.2.1 _ hcl) (C.2.2.2.2.1 _ hinst) (C.2.2.2.2.1 _ hini) C.2.2.2.2.2.1.1 hP hD hS C.2.2.2.2.2.2.1 hc hfs hcells hslots hd (fun q H1 hP1 hD1 hS1 => k q H1 locs ls hP1 hD1 hS1 hl)
theorem nw_newZ (C : Cx g p s m args meth c A nL cc own) {n : Int32} {N' : Nat} (hw : Cond.arrayClass .boolean ∈ TT) (hn : ¬ n < 0) (hN : n.toNatClampNeg = N') (hb : N' * 4 ≤ 536870912) (hcells : cells + 1 ≤ R.cells) (hslots : slots + N' ≤ R.slots) (hd : decode cc pc = .ok (.newarray .boolean, 2))
    (k : ∀ q : Nat, Nw g p l e R s m args below meth c A Q nL (ws ++ [(q, .inl (gZ g, N', .inl (fun _ => 0)))]) (cells + 1) (slots + N') lv (pc + 2) (.ref q :: st)) : Nw g p l e R s m args below meth c A Q nL ws cells slots lv pc (.int n :: st) := by
  intro H locs ls hP hD hS hl
  obtain ⟨hx, hb0, hml, hown, hts, hE, hA, hlk⟩ := id C
  refine va_newa (atype := .boolean) (a0 := (N', .inl (fun _ => 0))) hx hb0 (hts _ hw) rfl hE.1 hP hD hS hA (fun _ => rfl) hn hN (by show N' * 1 ≤ _; omega) hcells hslots hd (fun q cA H1 hK1 hP1 hD1 hS1 => ?_)
  have h1 := (hK1.2 4 (cA, .boolean) rfl).2
  have h2 := (hE.1.2 1 (gZ g, .boolean) rfl).2
  have e : cA = gZ g := Option.some.inj (h1.symm.trans h2)
  subst e
  exact k q H1 locs ls hP1 hD1 hS1 hl
theorem nw_newB (C : Cx g p s m args meth c A nL cc own) {n : Int32} {N' : Nat} (hw : Cond.arrayClass .byte ∈ TT) (hn : ¬ n < 0) (hN : n.toNatClampNeg = N') (hb : N' * 4 ≤ 536870912) (hcells : cells + 1 ≤ R.cells) (hslots : slots + N' ≤ R.slots) (hd : decode cc pc = .ok (.newarray .byte, 2))
    (k : ∀ q : Nat, Nw g p l e R s m args below meth c A Q nL (ws ++ [(q, .inl (gB g, N', .inl (fun _ => 0)))]) (cells + 1) (slots + N') lv (pc + 2) (.ref q :: st)) : Nw g p l e R s m args below meth c A Q nL ws cells slots lv pc (.int n :: st) := by
  intro H locs ls hP hD hS hl
  obtain ⟨hx, hb0, hml, hown, hts, hE, hA, hlk⟩ := id C
  refine va_newa (atype := .byte) (a0 := (N', .inl (fun _ => 0))) hx hb0 (hts _ hw) rfl hE.1 hP hD hS hA (fun _ => rfl) hn hN (by show N' * 1 ≤ _; omega) hcells hslots hd (fun q cA H1 hK1 hP1 hD1 hS1 => ?_)
  have h1 := (hK1.2 4 (cA, .byte) rfl).2
  have h2 := (hE.1.2 2 (gB g, .byte) rfl).2
  have e : cA = gB g := Option.some.inj (h1.symm.trans h2)
  subst e
  exact k q H1 locs ls hP1 hD1 hS1 hl
theorem nw_putF (C : Cx g p s m args meth c A nL cc own) {Cn : String} {T : u_T} {n ci index : Nat} {a : Nat} (hin : ∀ w ∈ u_ws Cn T n, w ∈ TT) (q0 : Nat) {fs : List Value} (he : ws[q0]? = some (a, .inr (ci, fs))) (hc : vwCl[ci]? = some (Cn, T, n)) (k0 : Nat) (hk : k0 < n) (ty0 : Nat → FieldType) (hty : ∀ k, k < n → parseFieldDescriptor (T k).2.2.1 = some (ty0 k)) (hnm : ∀ a, a < n → ∀ b, b < n → a ≠ b → (T a).2.1 ≠ (T b).2.1) (hw : Cond.fieldLink own index Cn (T k0).2.1 (T k0).2.2.1 ∈ TT) (hT : (T k0).1 = Cn) (hfin : (T k0).2.2.2 = true) (hin2 : meth.name = "<init>") (hdecl : (T k0).1 = own) {v : Value} (hn : narrow (ty0 k0) v = v) (hf : fits (ty0 k0) v = true) (hl0 : k0 < fs.length) (hd : decode cc pc = .ok (.putfield index, 3)) {ws' : va_W} (hs : ws.set q0 (a, .inr (ci, fs.set k0 v)) = ws')
    (k : Nw g p l e R s m args below meth c A Q nL ws' cells slots lv (pc + 3) st) : Nw g p l e R s m args below meth c A Q nL ws cells slots lv pc (v :: .ref a :: st) :=
  fun H locs ls hP hD hS hl => va_putF C.1 C.2.1 C.2.2.2.2.1 hin ty0 hty hnm C.2.2.2.1 C.2.2.2.2.2.1.1 hP hD hS q0 he hc k0 hk (C.2.2.2.2.1 _ hw) (fun _ h9 => hT ▸ h9) hfin hin2 hdecl (hty k0 hk) hn hf hl0 hd (fun H1 locs1 hP1 hD1 hS1 => k H1 locs1 ls (hs ▸ hP1) (hs ▸ hD1) hS1 hl)
theorem Ct.ofI {y : MethodName} {cd : Cond} {maxL fr lo kc ks mc ms : Nat} {ret : Option FieldType} {av : List Value} {Qq : Option Value → va_W → Prop} (hcd : cd = .code y cc maxL ret) (hy : plainName y.cls = true) (hlen : (lg_sl av).length ≤ maxL)
    (body : ∀ (p : Program) (e : Env) (s : State) (m : MethodId) (args : Array Value) (below : List Frame) (meth : Method) (c : Code) (A : Nat → Prop), Cx g p s m args meth c A maxL cc y.cls → meth.sig.returnType = ret → meth.name = y.name →
      Nw g p l e { frames := fr, cells := kc, slots := ks, locals := lo } s m args below meth c A (RQ g below args s mc ms A Qq) maxL ws 0 0 (lv_args 0 av) 0 []) : Ct l g y cd fr lo kc ks ws av Qq mc ms := by
  intro sz
  subst hcd
  refine Met.ofW (cc := cc) (maxL := maxL) (ret := ret) hy rfl ?_
  intro p e s m args below meth c s₁ B hml hv
  obtain ⟨rfl, hsz, hP, hE, hD0⟩ := hv
  have hts := atoms_spec (ws := Cond.code y cc maxL ret :: TT) B.pre
  have hown : s.vm.findClass y.cls = some m.cls := findClass_of_methodNamed B.named
  have hnm := (name_of_methodNamed B.named B.method).1
  subst hsz
  have hD := hD0.self (sz := s.heap.size)
  have hl := lv_entry av hlen
  rw [lg_entry_eq]
  exact body p e s m _ below meth c _ ⟨B.exec, B.bytes, hml, hown, fun w h => hts w (List.mem_cons_of_mem _ h), hE, fun q h => Or.inr h, B.notSynchronized⟩ B.returns hnm s.heap [] _ hP hD va_S.rf hl
theorem nw_callI {y : MethodName} {bytes : ByteArray} {maxL fr lo kc ks mc ms n index b : Nat} {As rest : List Value} {Qq : Option Value → va_W → Prop} (C : Cx g p s m args meth c A nL cc own) (hM : Ct l g y (.code y bytes maxL none) fr lo kc ks ws (.ref b :: As) Qq mc ms) (hlink : Cond.methodLink own index y ∈ TT) (hinst : Cond.instanceMethod y ∈ TT) (hini : Cond.initialized y.cls ∈ TT) (hcode : Cond.code y bytes maxL none ∈ TT) (hy1 : y.name = "<init>")
    (hy : y.cls ≠ "java/lang/invoke/MethodHandle" ∧ y.cls ≠ "java/lang/invoke/VarHandle") (hlen : (parseMethodDescriptor y.desc).map (fun d => d.parameters.length) = some n) (hR : fr + 1 ≤ R.frames ∧ 8 + (maxL + 11) + lo ≤ R.locals) (hf : cells + kc ≤ R.cells ∧ slots + ks ≤ R.slots) (hn : As.length = n) (hd : decode cc pc = .ok (.invokespecial index, 3)) (hst : st = As.reverse ++ .ref b :: rest)
    (hW : (rest.map fun v => v.category).sum ≤ 8) (k : ∀ v ws', Qq v ws' → Nw g p l e R s m args below meth c A Q nL ws' (cells + mc) (slots + ms) lv (pc + 3) (v.toList ++ rest)) :
    Nw g p l e R s m args below meth c A Q nL ws cells slots lv pc st := by
  intro H locs ls hP hD hS hl
  obtain ⟨hx, hb, hml, hown, hts, hE, hA, hlk⟩ := id C
  have hsub := ct_sub hD hS hA
  have hK := kback (R := R) (p := p) (e := e) (below := below) (s := s) (args := args) (len := 3) (bytes := bytes) (maxL := maxL) (ret := none) (hM H.size) ct_blind hR.1 hR.2 (fun w hw a' U hW => by
      rcases List.mem_cons.mp hw with h | h
      · rw [h]; exact TT_at hts hcode a' U hW
      · exact TT_at hts h a' U hW) List.mem_cons_self (fun a' U hW => TT_at hts hini a' U hW)
  refine ct_back (rest := rest) C hP hD hS hl ?_ k
  intro T hT X
  obtain ⟨v, vm₁, ⟨U', l2, c2, s2⟩, hW₁, X', ⟨g', mk, t, L, e1, e2, hq, h1, hL, h2, h3⟩, stp⟩ := callI X hx (bytes := bytes) (maxL := maxL) hown hy1 (hts _ hlink) (hts _ hinst) (hts _ hcode) hy hK (g := F0 m pc ls st) rfl (hl.1.trans hml.symm) (a := b) (argsL := As) (rest := rest) (fun sig h => hn.trans (by rw [h] at hlen; exact (Option.some.inj hlen).symm)) hst (lv_room hW) (by rw [hb]; exact hd)
    (fun vm₁ hW₁ => ⟨hf.1, hf.2, rfl, by show (T.setVm vm₁).heap.size = _; exact congrArg Array.size hT, by show va_P _ _ _ (T.setVm vm₁).heap; rw [show (T.setVm vm₁).heap = H from hT]; exact hP, EO.call hE hS hsub hT hW₁, hD.weaken (fun _ _ _ _ => trivial)⟩)
  dsimp only [Pt.U, Pt.locs, Pt.cells, Pt.slots] at X' e1 e2 h1 h2 h3 stp
  subst h1; subst h2; subst h3
  exact ⟨v, _, t, U', L, hT, X', hL, e1, hq, stp⟩
end NWM
section
variable {g : EG}
theorem tm_obj : Cond.code Lib.objectInit ⟨#[0xb1]⟩ 1 none ∈ TT := in_tb (tb_1 (List.mem_of_getElem? (i := 35) rfl)) rfl
theorem dX9_init_0 : decode cX9_init 0 = .ok (.aload_n 0, 1) := by decide +kernel
theorem dX9_init_1 : decode cX9_init 1 = .ok (.invokespecial 3, 3) := by decide +kernel
theorem dX9_init_4 : decode cX9_init 4 = .ok (.aload_n 0, 1) := by decide +kernel
theorem dX9_init_5 : decode cX9_init 5 = .ok (.iload_n 1, 1) := by decide +kernel
theorem dX9_init_6 : decode cX9_init 6 = .ok (.putfield 9, 3) := by decide +kernel
theorem dX9_init_9 : decode cX9_init 9 = .ok (.aload_n 0, 1) := by decide +kernel
theorem dX9_init_10 : decode cX9_init 10 = .ok (.iload_n 2, 1) := by decide +kernel
theorem dX9_init_11 : decode cX9_init 11 = .ok (.putfield 15, 3) := by decide +kernel
theorem dX9_init_14 : decode cX9_init 14 = .ok (.aload_n 0, 1) := by decide +kernel
theorem dX9_init_15 : decode cX9_init 15 = .ok (.iconst 0, 1) := by decide +kernel
theorem dX9_init_16 : decode cX9_init 16 = .ok (.iconst 4, 1) := by decide +kernel
theorem dX9_init_17 : decode cX9_init 17 = .ok (.iload_n 1, 1) := by decide +kernel
theorem dX9_init_18 : decode cX9_init 18 = .ok (.imul, 1) := by decide +kernel
theorem dX9_init_19 : decode cX9_init 19 = .ok (.invokestatic 18, 3) := by decide +kernel
theorem dX9_init_22 : decode cX9_init 22 = .ok (.newarray .int, 2) := by decide +kernel
theorem dX9_init_24 : decode cX9_init 24 = .ok (.putfield 24, 3) := by decide +kernel
theorem dX9_init_27 : decode cX9_init 27 = .ok (.return_, 1) := by decide +kernel
theorem c_Table_init {l : Launch} {ws : va_W} {k b N : Nat} {w l0 : Int32} (he : ws[k]? = some (b, .inr (9, [.int 0, .int 0, .null, .int 0]))) (hn : ¬ (if (0 : Int32) < 4 * w then 4 * w else 0) < 0) (hN : (if (0 : Int32) < 4 * w then 4 * w else 0).toNatClampNeg = N) (hb : N * 4 ≤ 536870912) :
    Ct l g yX9_init (.code yX9_init cX9_init 3 none) 1 40 1 N ws [.ref b, .int w, .int l0] (fun v ws' => v = none ∧ ∃ q0 : Nat, ws' = mkW ws k (b, .inr (9, [.int w, .int l0, .ref q0, .int 0])) [(q0, .inl (gI g, N, .inl (fun _ => 0)))]) 1 N := by
  refine Ct.ofI rfl (by decide) (Nat.le_of_ble_eq_true rfl) ?_
  intro p e s m args below meth c A C hr hnm
  have hk := mk_lt he
  refine nw_ws (mk_0 he) ?_
  refine nw_aload_n C dX9_init_0 rfl 0 rfl ?_
  refine nw_obj C tw_163 tw_156 tm_obj dX9_init_1 (Nat.le_of_ble_eq_true rfl) (Nat.le_of_ble_eq_true rfl) (Nat.le_of_ble_eq_true rfl) ?_
  refine nw_aload_n C dX9_init_4 rfl 0 rfl ?_
  refine nw_iload_n C dX9_init_5 rfl 1 rfl ?_
  refine nw_putF C in_X9 _ (mk_this hk) rfl 0 (by decide) tyX9 tyX9_ok nmX9 tw_167 rfl rfl hnm rfl rfl rfl (Nat.le_of_ble_eq_true rfl) dX9_init_6 (mk_setT hk) ?_
  refine nw_aload_n C dX9_init_9 rfl 0 rfl ?_
  refine nw_iload_n C dX9_init_10 rfl 2 rfl ?_
  refine nw_putF C in_X9 _ (mk_this hk) rfl 1 (by decide) tyX9 tyX9_ok nmX9 tw_168 rfl rfl hnm rfl rfl rfl (Nat.le_of_ble_eq_true rfl) dX9_init_11 (mk_setT hk) ?_
  refine nw_aload_n C dX9_init_14 rfl 0 rfl ?_
  refine nw_iconst (v := 0) C dX9_init_15 (by decide) ?_
  refine nw_iconst (v := 4) C dX9_init_16 (by decide) ?_
  refine nw_iload_n C dX9_init_17 rfl 1 rfl ?_
  refine nw_imul C dX9_init_18 ?_
  refine nw_mmax C tw_164 tw_165 tw_125 tm_max (Nat.le_of_ble_eq_true rfl) (Nat.le_of_ble_eq_true rfl) (Nat.zero_le _) (Nat.zero_le _) dX9_init_19 ?_
  refine nw_newI (N' := N) C tw_180 hn hN hb (Nat.le_of_ble_eq_true rfl) (Nat.le_of_eq (Nat.zero_add N)) dX9_init_22 (fun q0 => nw_ws mk_app ?_)
  refine nw_put C in_X9 _ (mk_this hk) rfl 2 (by decide) tyX9 tyX9_ok nmX9 tw_169 rfl rfl (tyX9_ok 2 (by decide)) rfl rfl (Nat.le_of_ble_eq_true rfl) dX9_init_24 (mk_setT hk) ?_
  exact nw_vret C hr dX9_init_27 (Nat.le_of_ble_eq_true rfl) (Nat.le_of_eq (Nat.zero_add N)) ⟨rfl, q0, rfl⟩
/-! ===== Courts.facts: a new table with one row ===== -/
def tf2 (g : EG) (ws : va_W) (i j b b2 : Nat) (r : Int32) (F : Nat → Int32) : va_W := (ws.set i (b, .inr (9, [.int 6, .int 1, .ref b2, .int r]))).set j (b2, .inl (gI g, 24, .inl F))
theorem tf2_i {ws : va_W} {i j b b2 : Nat} {r : Int32} {F : Nat → Int32} (hi : i < ws.length) (hij : i ≠ j) : (tf2 g ws i j b b2 r F)[i]? = some (b, .inr (9, [.int 6, .int 1, .ref b2, .int r])) := by
  unfold tf2
  rw [List.getElem?_set_ne (fun z => hij z.symm), List.getElem?_set_self hi]
theorem tf2_j {ws : va_W} {i j b b2 : Nat} {r : Int32} {F : Nat → Int32} (hj : j < ws.length) : (tf2 g ws i j b b2 r F)[j]? = some (b2, .inl (gI g, 24, .inl F)) := by
  unfold tf2
  rw [List.getElem?_set_self (by rw [List.length_set]; exact hj)]
theorem tf2_si {ws : va_W} {i j b b2 : Nat} {r r2 : Int32} {F : Nat → Int32} (hij : i ≠ j) : (tf2 g ws i j b b2 r F).set i (b, .inr (9, [.int 6, .int 1, .ref b2, .int r2])) = tf2 g ws i j b b2 r2 F := by
  unfold tf2
  rw [List.set_comm _ _ (fun z => hij z.symm), List.set_set]
theorem tf2_sj {ws : va_W} {i j b b2 : Nat} {r : Int32} {F F2 : Nat → Int32} : (tf2 g ws i j b b2 r F).set j (b2, .inl (gI g, 24, .inl F2)) = tf2 g ws i j b b2 r F2 := by
  unfold tf2
  rw [List.set_set]
theorem set_get {ws : va_W} {i : Nat} {e : Nat × va_E} (h : ws[i]? = some e) : ws.set i e = ws := by
  have := (mk_0 h).symm
  unfold mkW at this
  rw [List.append_nil] at this
  exact this
theorem tf2_0 {ws : va_W} {i j b b2 : Nat} (h1 : ws[i]? = some (b, .inr (9, [.int 6, .int 1, .ref b2, .int 0]))) (h2 : ws[j]? = some (b2, .inl (gI g, 24, .inl (fun _ => 0)))) : ws = tf2 g ws i j b b2 0 (fun _ => 0) := by
  unfold tf2
  rw [set_get h1, set_get h2]
set_option maxRecDepth 20000 in
theorem c_Table_isFull0 {l : Launch} {ws : va_W} {i j b b2 : Nat} {F : Nat → Int32} (hij : i ≠ j) (hi : i < ws.length) (hj : j < ws.length) :
    Ct l g yX9_isFull (.code yX9_isFull cX9_isFull 1 (some .boolean)) 1 40 0 0 (tf2 g ws i j b b2 0 F) [.ref b] (fun v ws' => v = some (.int 0) ∧ ws' = tf2 g ws i j b b2 0 F) 0 0 := by
  refine Ct.of rfl (by decide) (Nat.le_of_ble_eq_true rfl) ?_
  intro p e s m args below meth c A C hr
  refine nw_aload_n C dX9_isFull_0 rfl 0 rfl ?_
  refine nw_get (v := .int 0) C in_X9 _ (tf2_i hi hij) rfl 3 (by decide) tw_170 rfl rfl dX9_isFull_1 ?_
  refine nw_aload_n C dX9_isFull_4 rfl 0 rfl ?_
  refine nw_get (v := .int 1) C in_X9 _ (tf2_i hi hij) rfl 1 (by decide) tw_168 rfl rfl dX9_isFull_5 ?_
  refine nw_icmp_lt (a := some (1 : Nat)) (b := some (1 : Nat)) (r := 1) (tgt := 15) C dX9_isFull_8 (by decide) (if_pos (show ((0 : Int32) < 1) by decide)) (fun _ _ => ?_) (fun h9 _ => absurd (by decide) h9)
  refine nw_iconst (v := 0) C dX9_isFull_15 (by decide) ?_
  exact nw_zret C hr (Or.inl rfl) dX9_isFull_16 (Nat.le_of_ble_eq_true rfl) (Nat.le_of_ble_eq_true rfl) ⟨rfl, rfl⟩
set_option maxRecDepth 20000 in
theorem c_Table_put0_0 {l : Launch} {ws : va_W} {i j b b2 : Nat} {F : Nat → Int32} (hij : i ≠ j) (hi : i < ws.length) (hj : j < ws.length) :
    Ct l g yX9_put (.code yX9_put cX9_put 5 none) 1 40 0 0 (tf2 g ws i j b b2 1 F) [.ref b, .int 0, .int 0, .int (-1)] (fun v ws' => v = none ∧ ws' = tf2 g ws i j b b2 1 (upd F (0 : Int32).toNatClampNeg (-1))) 0 0 := by
  refine Ct.of rfl (by decide) (Nat.le_of_ble_eq_true rfl) ?_
  intro p e s m args below meth c A C hr
  refine nw_iload_n C dX9_put_0 rfl 1 rfl ?_
  refine nw_if_lt (a := some (1 : Nat)) (b := some (1 : Nat)) (r := 1) (tgt := 24) C dX9_put_1 (by decide) (if_neg (show ¬ ((0 : Int32) < 0) by decide)) (fun h9 _ => absurd h9 (by decide)) (fun _ _ => ?_)
  refine nw_iload_n C dX9_put_4 rfl 1 rfl ?_
  refine nw_aload_n C dX9_put_5 rfl 0 rfl ?_
  refine nw_get (v := .int 1) C in_X9 _ (tf2_i hi hij) rfl 3 (by decide) tw_170 rfl rfl dX9_put_6 ?_
  refine nw_icmp_ge (a := some (1 : Nat)) (b := some (1 : Nat)) (r := 1) (tgt := 24) C dX9_put_9 (by decide) (if_neg (show ¬ ((1 : Int32) ≤ 0) by decide)) (fun h9 _ => absurd h9 (by decide)) (fun _ _ => ?_)
  refine nw_iload_n C dX9_put_12 rfl 2 rfl ?_
  refine nw_if_lt (a := some (1 : Nat)) (b := some (1 : Nat)) (r := 1) (tgt := 24) C dX9_put_13 (by decide) (if_neg (show ¬ ((0 : Int32) < 0) by decide)) (fun h9 _ => absurd h9 (by decide)) (fun _ _ => ?_)
  refine nw_iload_n C dX9_put_16 rfl 2 rfl ?_
  refine nw_aload_n C dX9_put_17 rfl 0 rfl ?_
  refine nw_get (v := .int 6) C in_X9 _ (tf2_i hi hij) rfl 0 (by decide) tw_167 rfl rfl dX9_put_18 ?_
  refine nw_icmp_lt (a := some (1 : Nat)) (b := some (1 : Nat)) (r := 1) (tgt := 25) C dX9_put_21 (by decide) (if_pos (show ((0 : Int32) < 6) by decide)) (fun _ _ => ?_) (fun h9 _ => absurd (by decide) h9)
  refine nw_iload_n C dX9_put_25 rfl 1 rfl ?_
  refine nw_aload_n C dX9_put_26 rfl 0 rfl ?_
  refine nw_get (v := .int 6) C in_X9 _ (tf2_i hi hij) rfl 0 (by decide) tw_167 rfl rfl dX9_put_27 ?_
  refine nw_imul C dX9_put_30 ?_
  refine nw_st (st' := [.int 0]) rfl ?_
  refine nw_iload_n C dX9_put_31 rfl 2 rfl ?_
  refine nw_iadd C dX9_put_32 ?_
  refine nw_st (st' := [.int 0]) rfl ?_
  refine nw_istore (lv' := [(4, .int 0), (0, .ref b), (1, .int 0), (2, .int 0), (3, .int (-1))]) C dX9_put_33 (by decide) rfl ?_
  refine nw_iload C dX9_put_35 0 rfl ?_
  refine nw_aload_n C dX9_put_37 rfl 1 rfl ?_
  refine nw_get (v := .ref b2) C in_X9 _ (tf2_i hi hij) rfl 2 (by decide) tw_169 rfl rfl dX9_put_38 ?_
  refine nw_alenI C _ (tf2_j hj) dX9_put_41 ?_
  refine nw_st (st' := [.int 24, .int 0]) rfl ?_
  refine nw_icmp_ge (a := some (1 : Nat)) (b := some (1 : Nat)) (r := 1) (tgt := 53) C dX9_put_42 (by decide) (if_neg (show ¬ ((24 : Int32) ≤ 0) by decide)) (fun h9 _ => absurd h9 (by decide)) (fun _ _ => ?_)
  refine nw_aload_n C dX9_put_45 rfl 1 rfl ?_
  refine nw_get (v := .ref b2) C in_X9 _ (tf2_i hi hij) rfl 2 (by decide) tw_169 rfl rfl dX9_put_46 ?_
  refine nw_iload C dX9_put_49 0 rfl ?_
  refine nw_iload_n C dX9_put_51 rfl 4 rfl ?_
  refine nw_iast (a := some (1 : Nat)) (r := 1) (ws' := tf2 g ws i j b b2 1 (upd F (0 : Int32).toNatClampNeg (-1))) C _ (tf2_j hj) dX9_put_52 (if_neg (by decide)) tf2_sj (fun _ => ?_)
  exact nw_vret C hr dX9_put_53 (Nat.le_of_ble_eq_true rfl) (Nat.le_of_ble_eq_true rfl) ⟨rfl, rfl⟩
set_option maxRecDepth 20000 in
theorem c_Table_put0_1 {l : Launch} {ws : va_W} {i j b b2 : Nat} {F : Nat → Int32} (hij : i ≠ j) (hi : i < ws.length) (hj : j < ws.length) :
    Ct l g yX9_put (.code yX9_put cX9_put 5 none) 1 40 0 0 (tf2 g ws i j b b2 1 F) [.ref b, .int 0, .int 1, .int (-1)] (fun v ws' => v = none ∧ ws' = tf2 g ws i j b b2 1 (upd F (1 : Int32).toNatClampNeg (-1))) 0 0 := by
  refine Ct.of rfl (by decide) (Nat.le_of_ble_eq_true rfl) ?_
  intro p e s m args below meth c A C hr
  refine nw_iload_n C dX9_put_0 rfl 1 rfl ?_
  refine nw_if_lt (a := some (1 : Nat)) (b := some (1 : Nat)) (r := 1) (tgt := 24) C dX9_put_1 (by decide) (if_neg (show ¬ ((0 : Int32) < 0) by decide)) (fun h9 _ => absurd h9 (by decide)) (fun _ _ => ?_)
  refine nw_iload_n C dX9_put_4 rfl 1 rfl ?_
  refine nw_aload_n C dX9_put_5 rfl 0 rfl ?_
  refine nw_get (v := .int 1) C in_X9 _ (tf2_i hi hij) rfl 3 (by decide) tw_170 rfl rfl dX9_put_6 ?_
  refine nw_icmp_ge (a := some (1 : Nat)) (b := some (1 : Nat)) (r := 1) (tgt := 24) C dX9_put_9 (by decide) (if_neg (show ¬ ((1 : Int32) ≤ 0) by decide)) (fun h9 _ => absurd h9 (by decide)) (fun _ _ => ?_)
  refine nw_iload_n C dX9_put_12 rfl 2 rfl ?_
  refine nw_if_lt (a := some (1 : Nat)) (b := some (1 : Nat)) (r := 1) (tgt := 24) C dX9_put_13 (by decide) (if_neg (show ¬ ((1 : Int32) < 0) by decide)) (fun h9 _ => absurd h9 (by decide)) (fun _ _ => ?_)
  refine nw_iload_n C dX9_put_16 rfl 2 rfl ?_
  refine nw_aload_n C dX9_put_17 rfl 0 rfl ?_
  refine nw_get (v := .int 6) C in_X9 _ (tf2_i hi hij) rfl 0 (by decide) tw_167 rfl rfl dX9_put_18 ?_
  refine nw_icmp_lt (a := some (1 : Nat)) (b := some (1 : Nat)) (r := 1) (tgt := 25) C dX9_put_21 (by decide) (if_pos (show ((1 : Int32) < 6) by decide)) (fun _ _ => ?_) (fun h9 _ => absurd (by decide) h9)
  refine nw_iload_n C dX9_put_25 rfl 1 rfl ?_
  refine nw_aload_n C dX9_put_26 rfl 0 rfl ?_
  refine nw_get (v := .int 6) C in_X9 _ (tf2_i hi hij) rfl 0 (by decide) tw_167 rfl rfl dX9_put_27 ?_
  refine nw_imul C dX9_put_30 ?_
  refine nw_st (st' := [.int 0]) rfl ?_
  refine nw_iload_n C dX9_put_31 rfl 2 rfl ?_
  refine nw_iadd C dX9_put_32 ?_
  refine nw_st (st' := [.int 1]) rfl ?_
  refine nw_istore (lv' := [(4, .int 1), (0, .ref b), (1, .int 0), (2, .int 1), (3, .int (-1))]) C dX9_put_33 (by decide) rfl ?_
  refine nw_iload C dX9_put_35 0 rfl ?_
  refine nw_aload_n C dX9_put_37 rfl 1 rfl ?_
  refine nw_get (v := .ref b2) C in_X9 _ (tf2_i hi hij) rfl 2 (by decide) tw_169 rfl rfl dX9_put_38 ?_
  refine nw_alenI C _ (tf2_j hj) dX9_put_41 ?_
  refine nw_st (st' := [.int 24, .int 1]) rfl ?_
  refine nw_icmp_ge (a := some (1 : Nat)) (b := some (1 : Nat)) (r := 1) (tgt := 53) C dX9_put_42 (by decide) (if_neg (show ¬ ((24 : Int32) ≤ 1) by decide)) (fun h9 _ => absurd h9 (by decide)) (fun _ _ => ?_)
  refine nw_aload_n C dX9_put_45 rfl 1 rfl ?_
  refine nw_get (v := .ref b2) C in_X9 _ (tf2_i hi hij) rfl 2 (by decide) tw_169 rfl rfl dX9_put_46 ?_
  refine nw_iload C dX9_put_49 0 rfl ?_
  refine nw_iload_n C dX9_put_51 rfl 4 rfl ?_
  refine nw_iast (a := some (1 : Nat)) (r := 1) (ws' := tf2 g ws i j b b2 1 (upd F (1 : Int32).toNatClampNeg (-1))) C _ (tf2_j hj) dX9_put_52 (if_neg (by decide)) tf2_sj (fun _ => ?_)
  exact nw_vret C hr dX9_put_53 (Nat.le_of_ble_eq_true rfl) (Nat.le_of_ble_eq_true rfl) ⟨rfl, rfl⟩
set_option maxRecDepth 20000 in
theorem c_Table_put0_2 {l : Launch} {ws : va_W} {i j b b2 : Nat} {F : Nat → Int32} (hij : i ≠ j) (hi : i < ws.length) (hj : j < ws.length) :
    Ct l g yX9_put (.code yX9_put cX9_put 5 none) 1 40 0 0 (tf2 g ws i j b b2 1 F) [.ref b, .int 0, .int 2, .int (-1)] (fun v ws' => v = none ∧ ws' = tf2 g ws i j b b2 1 (upd F (2 : Int32).toNatClampNeg (-1))) 0 0 := by
  refine Ct.of rfl (by decide) (Nat.le_of_ble_eq_true rfl) ?_
  intro p e s m args below meth c A C hr
  refine nw_iload_n C dX9_put_0 rfl 1 rfl ?_
  refine nw_if_lt (a := some (1 : Nat)) (b := some (1 : Nat)) (r := 1) (tgt := 24) C dX9_put_1 (by decide) (if_neg (show ¬ ((0 : Int32) < 0) by decide)) (fun h9 _ => absurd h9 (by decide)) (fun _ _ => ?_)
  refine nw_iload_n C dX9_put_4 rfl 1 rfl ?_
  refine nw_aload_n C dX9_put_5 rfl 0 rfl ?_
  refine nw_get (v := .int 1) C in_X9 _ (tf2_i hi hij) rfl 3 (by decide) tw_170 rfl rfl dX9_put_6 ?_
  refine nw_icmp_ge (a := some (1 : Nat)) (b := some (1 : Nat)) (r := 1) (tgt := 24) C dX9_put_9 (by decide) (if_neg (show ¬ ((1 : Int32) ≤ 0) by decide)) (fun h9 _ => absurd h9 (by decide)) (fun _ _ => ?_)
  refine nw_iload_n C dX9_put_12 rfl 2 rfl ?_
  refine nw_if_lt (a := some (1 : Nat)) (b := some (1 : Nat)) (r := 1) (tgt := 24) C dX9_put_13 (by decide) (if_neg (show ¬ ((2 : Int32) < 0) by decide)) (fun h9 _ => absurd h9 (by decide)) (fun _ _ => ?_)
  refine nw_iload_n C dX9_put_16 rfl 2 rfl ?_
  refine nw_aload_n C dX9_put_17 rfl 0 rfl ?_
  refine nw_get (v := .int 6) C in_X9 _ (tf2_i hi hij) rfl 0 (by decide) tw_167 rfl rfl dX9_put_18 ?_
  refine nw_icmp_lt (a := some (1 : Nat)) (b := some (1 : Nat)) (r := 1) (tgt := 25) C dX9_put_21 (by decide) (if_pos (show ((2 : Int32) < 6) by decide)) (fun _ _ => ?_) (fun h9 _ => absurd (by decide) h9)
  refine nw_iload_n C dX9_put_25 rfl 1 rfl ?_
  refine nw_aload_n C dX9_put_26 rfl 0 rfl ?_
  refine nw_get (v := .int 6) C in_X9 _ (tf2_i hi hij) rfl 0 (by decide) tw_167 rfl rfl dX9_put_27 ?_
  refine nw_imul C dX9_put_30 ?_
  refine nw_st (st' := [.int 0]) rfl ?_
  refine nw_iload_n C dX9_put_31 rfl 2 rfl ?_
  refine nw_iadd C dX9_put_32 ?_
  refine nw_st (st' := [.int 2]) rfl ?_
  refine nw_istore (lv' := [(4, .int 2), (0, .ref b), (1, .int 0), (2, .int 2), (3, .int (-1))]) C dX9_put_33 (by decide) rfl ?_
  refine nw_iload C dX9_put_35 0 rfl ?_
  refine nw_aload_n C dX9_put_37 rfl 1 rfl ?_
  refine nw_get (v := .ref b2) C in_X9 _ (tf2_i hi hij) rfl 2 (by decide) tw_169 rfl rfl dX9_put_38 ?_
  refine nw_alenI C _ (tf2_j hj) dX9_put_41 ?_
  refine nw_st (st' := [.int 24, .int 2]) rfl ?_
  refine nw_icmp_ge (a := some (1 : Nat)) (b := some (1 : Nat)) (r := 1) (tgt := 53) C dX9_put_42 (by decide) (if_neg (show ¬ ((24 : Int32) ≤ 2) by decide)) (fun h9 _ => absurd h9 (by decide)) (fun _ _ => ?_)
  refine nw_aload_n C dX9_put_45 rfl 1 rfl ?_
  refine nw_get (v := .ref b2) C in_X9 _ (tf2_i hi hij) rfl 2 (by decide) tw_169 rfl rfl dX9_put_46 ?_
  refine nw_iload C dX9_put_49 0 rfl ?_
  refine nw_iload_n C dX9_put_51 rfl 4 rfl ?_
  refine nw_iast (a := some (1 : Nat)) (r := 1) (ws' := tf2 g ws i j b b2 1 (upd F (2 : Int32).toNatClampNeg (-1))) C _ (tf2_j hj) dX9_put_52 (if_neg (by decide)) tf2_sj (fun _ => ?_)
  exact nw_vret C hr dX9_put_53 (Nat.le_of_ble_eq_true rfl) (Nat.le_of_ble_eq_true rfl) ⟨rfl, rfl⟩
set_option maxRecDepth 20000 in
theorem c_Table_put0_3 {l : Launch} {ws : va_W} {i j b b2 : Nat} {F : Nat → Int32} (hij : i ≠ j) (hi : i < ws.length) (hj : j < ws.length) :
    Ct l g yX9_put (.code yX9_put cX9_put 5 none) 1 40 0 0 (tf2 g ws i j b b2 1 F) [.ref b, .int 0, .int 3, .int (-1)] (fun v ws' => v = none ∧ ws' = tf2 g ws i j b b2 1 (upd F (3 : Int32).toNatClampNeg (-1))) 0 0 := by
  refine Ct.of rfl (by decide) (Nat.le_of_ble_eq_true rfl) ?_
  intro p e s m args below meth c A C hr
  refine nw_iload_n C dX9_put_0 rfl 1 rfl ?_
  refine nw_if_lt (a := some (1 : Nat)) (b := some (1 : Nat)) (r := 1) (tgt := 24) C dX9_put_1 (by decide) (if_neg (show ¬ ((0 : Int32) < 0) by decide)) (fun h9 _ => absurd h9 (by decide)) (fun _ _ => ?_)
  refine nw_iload_n C dX9_put_4 rfl 1 rfl ?_
  refine nw_aload_n C dX9_put_5 rfl 0 rfl ?_
  refine nw_get (v := .int 1) C in_X9 _ (tf2_i hi hij) rfl 3 (by decide) tw_170 rfl rfl dX9_put_6 ?_
  refine nw_icmp_ge (a := some (1 : Nat)) (b := some (1 : Nat)) (r := 1) (tgt := 24) C dX9_put_9 (by decide) (if_neg (show ¬ ((1 : Int32) ≤ 0) by decide)) (fun h9 _ => absurd h9 (by decide)) (fun _ _ => ?_)
  refine nw_iload_n C dX9_put_12 rfl 2 rfl ?_
  refine nw_if_lt (a := some (1 : Nat)) (b := some (1 : Nat)) (r := 1) (tgt := 24) C dX9_put_13 (by decide) (if_neg (show ¬ ((3 : Int32) < 0) by decide)) (fun h9 _ => absurd h9 (by decide)) (fun _ _ => ?_)
  refine nw_iload_n C dX9_put_16 rfl 2 rfl ?_
  refine nw_aload_n C dX9_put_17 rfl 0 rfl ?_
  refine nw_get (v := .int 6) C in_X9 _ (tf2_i hi hij) rfl 0 (by decide) tw_167 rfl rfl dX9_put_18 ?_
  refine nw_icmp_lt (a := some (1 : Nat)) (b := some (1 : Nat)) (r := 1) (tgt := 25) C dX9_put_21 (by decide) (if_pos (show ((3 : Int32) < 6) by decide)) (fun _ _ => ?_) (fun h9 _ => absurd (by decide) h9)
  refine nw_iload_n C dX9_put_25 rfl 1 rfl ?_
  refine nw_aload_n C dX9_put_26 rfl 0 rfl ?_
  refine nw_get (v := .int 6) C in_X9 _ (tf2_i hi hij) rfl 0 (by decide) tw_167 rfl rfl dX9_put_27 ?_
  refine nw_imul C dX9_put_30 ?_
  refine nw_st (st' := [.int 0]) rfl ?_
  refine nw_iload_n C dX9_put_31 rfl 2 rfl ?_
  refine nw_iadd C dX9_put_32 ?_
  refine nw_st (st' := [.int 3]) rfl ?_
  refine nw_istore (lv' := [(4, .int 3), (0, .ref b), (1, .int 0), (2, .int 3), (3, .int (-1))]) C dX9_put_33 (by decide) rfl ?_
  refine nw_iload C dX9_put_35 0 rfl ?_
  refine nw_aload_n C dX9_put_37 rfl 1 rfl ?_
  refine nw_get (v := .ref b2) C in_X9 _ (tf2_i hi hij) rfl 2 (by decide) tw_169 rfl rfl dX9_put_38 ?_
  refine nw_alenI C _ (tf2_j hj) dX9_put_41 ?_
  refine nw_st (st' := [.int 24, .int 3]) rfl ?_
  refine nw_icmp_ge (a := some (1 : Nat)) (b := some (1 : Nat)) (r := 1) (tgt := 53) C dX9_put_42 (by decide) (if_neg (show ¬ ((24 : Int32) ≤ 3) by decide)) (fun h9 _ => absurd h9 (by decide)) (fun _ _ => ?_)
  refine nw_aload_n C dX9_put_45 rfl 1 rfl ?_
  refine nw_get (v := .ref b2) C in_X9 _ (tf2_i hi hij) rfl 2 (by decide) tw_169 rfl rfl dX9_put_46 ?_
  refine nw_iload C dX9_put_49 0 rfl ?_
  refine nw_iload_n C dX9_put_51 rfl 4 rfl ?_
  refine nw_iast (a := some (1 : Nat)) (r := 1) (ws' := tf2 g ws i j b b2 1 (upd F (3 : Int32).toNatClampNeg (-1))) C _ (tf2_j hj) dX9_put_52 (if_neg (by decide)) tf2_sj (fun _ => ?_)
  exact nw_vret C hr dX9_put_53 (Nat.le_of_ble_eq_true rfl) (Nat.le_of_ble_eq_true rfl) ⟨rfl, rfl⟩
set_option maxRecDepth 20000 in
theorem c_Table_put0_4 {l : Launch} {ws : va_W} {i j b b2 : Nat} {F : Nat → Int32} (hij : i ≠ j) (hi : i < ws.length) (hj : j < ws.length) :
    Ct l g yX9_put (.code yX9_put cX9_put 5 none) 1 40 0 0 (tf2 g ws i j b b2 1 F) [.ref b, .int 0, .int 4, .int (-1)] (fun v ws' => v = none ∧ ws' = tf2 g ws i j b b2 1 (upd F (4 : Int32).toNatClampNeg (-1))) 0 0 := by
  refine Ct.of rfl (by decide) (Nat.le_of_ble_eq_true rfl) ?_
  intro p e s m args below meth c A C hr
  refine nw_iload_n C dX9_put_0 rfl 1 rfl ?_
  refine nw_if_lt (a := some (1 : Nat)) (b := some (1 : Nat)) (r := 1) (tgt := 24) C dX9_put_1 (by decide) (if_neg (show ¬ ((0 : Int32) < 0) by decide)) (fun h9 _ => absurd h9 (by decide)) (fun _ _ => ?_)
  refine nw_iload_n C dX9_put_4 rfl 1 rfl ?_
  refine nw_aload_n C dX9_put_5 rfl 0 rfl ?_
  refine nw_get (v := .int 1) C in_X9 _ (tf2_i hi hij) rfl 3 (by decide) tw_170 rfl rfl dX9_put_6 ?_
  refine nw_icmp_ge (a := some (1 : Nat)) (b := some (1 : Nat)) (r := 1) (tgt := 24) C dX9_put_9 (by decide) (if_neg (show ¬ ((1 : Int32) ≤ 0) by decide)) (fun h9 _ => absurd h9 (by decide)) (fun _ _ => ?_)
  refine nw_iload_n C dX9_put_12 rfl 2 rfl ?_
  refine nw_if_lt (a := some (1 : Nat)) (b := some (1 : Nat)) (r := 1) (tgt := 24) C dX9_put_13 (by decide) (if_neg (show ¬ ((4 : Int32) < 0) by decide)) (fun h9 _ => absurd h9 (by decide)) (fun _ _ => ?_)
  refine nw_iload_n C dX9_put_16 rfl 2 rfl ?_
  refine nw_aload_n C dX9_put_17 rfl 0 rfl ?_
  refine nw_get (v := .int 6) C in_X9 _ (tf2_i hi hij) rfl 0 (by decide) tw_167 rfl rfl dX9_put_18 ?_
  refine nw_icmp_lt (a := some (1 : Nat)) (b := some (1 : Nat)) (r := 1) (tgt := 25) C dX9_put_21 (by decide) (if_pos (show ((4 : Int32) < 6) by decide)) (fun _ _ => ?_) (fun h9 _ => absurd (by decide) h9)
  refine nw_iload_n C dX9_put_25 rfl 1 rfl ?_
  refine nw_aload_n C dX9_put_26 rfl 0 rfl ?_
  refine nw_get (v := .int 6) C in_X9 _ (tf2_i hi hij) rfl 0 (by decide) tw_167 rfl rfl dX9_put_27 ?_
  refine nw_imul C dX9_put_30 ?_
  refine nw_st (st' := [.int 0]) rfl ?_
  refine nw_iload_n C dX9_put_31 rfl 2 rfl ?_
  refine nw_iadd C dX9_put_32 ?_
  refine nw_st (st' := [.int 4]) rfl ?_
  refine nw_istore (lv' := [(4, .int 4), (0, .ref b), (1, .int 0), (2, .int 4), (3, .int (-1))]) C dX9_put_33 (by decide) rfl ?_
  refine nw_iload C dX9_put_35 0 rfl ?_
  refine nw_aload_n C dX9_put_37 rfl 1 rfl ?_
  refine nw_get (v := .ref b2) C in_X9 _ (tf2_i hi hij) rfl 2 (by decide) tw_169 rfl rfl dX9_put_38 ?_
  refine nw_alenI C _ (tf2_j hj) dX9_put_41 ?_
  refine nw_st (st' := [.int 24, .int 4]) rfl ?_
  refine nw_icmp_ge (a := some (1 : Nat)) (b := some (1 : Nat)) (r := 1) (tgt := 53) C dX9_put_42 (by decide) (if_neg (show ¬ ((24 : Int32) ≤ 4) by decide)) (fun h9 _ => absurd h9 (by decide)) (fun _ _ => ?_)
  refine nw_aload_n C dX9_put_45 rfl 1 rfl ?_
  refine nw_get (v := .ref b2) C in_X9 _ (tf2_i hi hij) rfl 2 (by decide) tw_169 rfl rfl dX9_put_46 ?_
  refine nw_iload C dX9_put_49 0 rfl ?_
  refine nw_iload_n C dX9_put_51 rfl 4 rfl ?_
  refine nw_iast (a := some (1 : Nat)) (r := 1) (ws' := tf2 g ws i j b b2 1 (upd F (4 : Int32).toNatClampNeg (-1))) C _ (tf2_j hj) dX9_put_52 (if_neg (by decide)) tf2_sj (fun _ => ?_)
  exact nw_vret C hr dX9_put_53 (Nat.le_of_ble_eq_true rfl) (Nat.le_of_ble_eq_true rfl) ⟨rfl, rfl⟩
set_option maxRecDepth 20000 in
theorem c_Table_put0_5 {l : Launch} {ws : va_W} {i j b b2 : Nat} {F : Nat → Int32} (hij : i ≠ j) (hi : i < ws.length) (hj : j < ws.length) :
    Ct l g yX9_put (.code yX9_put cX9_put 5 none) 1 40 0 0 (tf2 g ws i j b b2 1 F) [.ref b, .int 0, .int 5, .int (-1)] (fun v ws' => v = none ∧ ws' = tf2 g ws i j b b2 1 (upd F (5 : Int32).toNatClampNeg (-1))) 0 0 := by
  refine Ct.of rfl (by decide) (Nat.le_of_ble_eq_true rfl) ?_
  intro p e s m args below meth c A C hr
  refine nw_iload_n C dX9_put_0 rfl 1 rfl ?_
  refine nw_if_lt (a := some (1 : Nat)) (b := some (1 : Nat)) (r := 1) (tgt := 24) C dX9_put_1 (by decide) (if_neg (show ¬ ((0 : Int32) < 0) by decide)) (fun h9 _ => absurd h9 (by decide)) (fun _ _ => ?_)
  refine nw_iload_n C dX9_put_4 rfl 1 rfl ?_
  refine nw_aload_n C dX9_put_5 rfl 0 rfl ?_
  refine nw_get (v := .int 1) C in_X9 _ (tf2_i hi hij) rfl 3 (by decide) tw_170 rfl rfl dX9_put_6 ?_
  refine nw_icmp_ge (a := some (1 : Nat)) (b := some (1 : Nat)) (r := 1) (tgt := 24) C dX9_put_9 (by decide) (if_neg (show ¬ ((1 : Int32) ≤ 0) by decide)) (fun h9 _ => absurd h9 (by decide)) (fun _ _ => ?_)
  refine nw_iload_n C dX9_put_12 rfl 2 rfl ?_
  refine nw_if_lt (a := some (1 : Nat)) (b := some (1 : Nat)) (r := 1) (tgt := 24) C dX9_put_13 (by decide) (if_neg (show ¬ ((5 : Int32) < 0) by decide)) (fun h9 _ => absurd h9 (by decide)) (fun _ _ => ?_)
  refine nw_iload_n C dX9_put_16 rfl 2 rfl ?_
  refine nw_aload_n C dX9_put_17 rfl 0 rfl ?_
  refine nw_get (v := .int 6) C in_X9 _ (tf2_i hi hij) rfl 0 (by decide) tw_167 rfl rfl dX9_put_18 ?_
  refine nw_icmp_lt (a := some (1 : Nat)) (b := some (1 : Nat)) (r := 1) (tgt := 25) C dX9_put_21 (by decide) (if_pos (show ((5 : Int32) < 6) by decide)) (fun _ _ => ?_) (fun h9 _ => absurd (by decide) h9)
  refine nw_iload_n C dX9_put_25 rfl 1 rfl ?_
  refine nw_aload_n C dX9_put_26 rfl 0 rfl ?_
  refine nw_get (v := .int 6) C in_X9 _ (tf2_i hi hij) rfl 0 (by decide) tw_167 rfl rfl dX9_put_27 ?_
  refine nw_imul C dX9_put_30 ?_
  refine nw_st (st' := [.int 0]) rfl ?_
  refine nw_iload_n C dX9_put_31 rfl 2 rfl ?_
  refine nw_iadd C dX9_put_32 ?_
  refine nw_st (st' := [.int 5]) rfl ?_
  refine nw_istore (lv' := [(4, .int 5), (0, .ref b), (1, .int 0), (2, .int 5), (3, .int (-1))]) C dX9_put_33 (by decide) rfl ?_
  refine nw_iload C dX9_put_35 0 rfl ?_
  refine nw_aload_n C dX9_put_37 rfl 1 rfl ?_
  refine nw_get (v := .ref b2) C in_X9 _ (tf2_i hi hij) rfl 2 (by decide) tw_169 rfl rfl dX9_put_38 ?_
  refine nw_alenI C _ (tf2_j hj) dX9_put_41 ?_
  refine nw_st (st' := [.int 24, .int 5]) rfl ?_
  refine nw_icmp_ge (a := some (1 : Nat)) (b := some (1 : Nat)) (r := 1) (tgt := 53) C dX9_put_42 (by decide) (if_neg (show ¬ ((24 : Int32) ≤ 5) by decide)) (fun h9 _ => absurd h9 (by decide)) (fun _ _ => ?_)
  refine nw_aload_n C dX9_put_45 rfl 1 rfl ?_
  refine nw_get (v := .ref b2) C in_X9 _ (tf2_i hi hij) rfl 2 (by decide) tw_169 rfl rfl dX9_put_46 ?_
  refine nw_iload C dX9_put_49 0 rfl ?_
  refine nw_iload_n C dX9_put_51 rfl 4 rfl ?_
  refine nw_iast (a := some (1 : Nat)) (r := 1) (ws' := tf2 g ws i j b b2 1 (upd F (5 : Int32).toNatClampNeg (-1))) C _ (tf2_j hj) dX9_put_52 (if_neg (by decide)) tf2_sj (fun _ => ?_)
  exact nw_vret C hr dX9_put_53 (Nat.le_of_ble_eq_true rfl) (Nat.le_of_ble_eq_true rfl) ⟨rfl, rfl⟩
def fF : Nat → Int32 := upd (upd (upd (upd (upd (upd (fun _ => 0) (0 : Int32).toNatClampNeg (-1)) (1 : Int32).toNatClampNeg (-1)) (2 : Int32).toNatClampNeg (-1)) (3 : Int32).toNatClampNeg (-1)) (4 : Int32).toNatClampNeg (-1)) (5 : Int32).toNatClampNeg (-1)
set_option maxRecDepth 20000 in
theorem c_Table_add1 {l : Launch} {ws : va_W} {i j b b2 : Nat} (hij : i ≠ j) (hi : i < ws.length) (hj : j < ws.length) :
    Ct l g yX9_add (.code yX9_add cX9_add 3 (some .int)) 3 300 0 0 (tf2 g ws i j b b2 0 (fun _ => 0)) [.ref b] (fun v ws' => v = some (.int 0) ∧ ws' = tf2 g ws i j b b2 1 (upd (upd (upd (upd (upd (upd (fun _ => 0) (0 : Int32).toNatClampNeg (-1)) (1 : Int32).toNatClampNeg (-1)) (2 : Int32).toNatClampNeg (-1)) (3 : Int32).toNatClampNeg (-1)) (4 : Int32).toNatClampNeg (-1)) (5 : Int32).toNatClampNeg (-1))) 0 0 := by
  refine Ct.of rfl (by decide) (Nat.le_of_ble_eq_true rfl) ?_
  intro p e s m args below meth c A C hr
  refine nw_aload_n C dX9_add_0 rfl 0 rfl ?_
  refine nw_callV (q0 := i) (As := []) (rest := []) C (c_Table_isFull0 hij hi hj) tw_352 kv_X9_isFull.1 kv_X9_isFull.2.1 kv_X9_isFull.2.2.1 kv_X9_isFull.2.2.2.1 kv_X9_isFull.2.2.2.2.1 kv_X9_isFull.2.2.2.2.2 (tf2_i hi hij) rfl ⟨Nat.le_of_ble_eq_true rfl, Nat.le_of_ble_eq_true rfl⟩ ⟨Nat.le_of_ble_eq_true rfl, Nat.le_of_ble_eq_true rfl⟩ rfl dX9_add_1 rfl (Nat.le_of_ble_eq_true rfl) ?_
  rintro _ _ ⟨rfl, rfl⟩
  refine nw_if_eq (a := some (1 : Nat)) (b := some (1 : Nat)) (r := 1) (tgt := 9) C dX9_add_4 (by decide) (if_pos (show ((0 : Int32) = 0) by decide)) (fun _ _ => ?_) (fun h9 _ => absurd (by decide) h9)
  refine nw_aload_n C dX9_add_9 rfl 0 rfl ?_
  refine nw_get (v := .int 0) C in_X9 _ (tf2_i hi hij) rfl 3 (by decide) tw_170 rfl rfl dX9_add_10 ?_
  refine nw_iconst (v := 1) C dX9_add_13 (by decide) ?_
  refine nw_iadd C dX9_add_14 ?_
  refine nw_st (st' := [.int 1]) rfl ?_
  refine nw_aload_n C dX9_add_15 rfl 0 rfl ?_
  refine nw_get (v := .int 6) C in_X9 _ (tf2_i hi hij) rfl 0 (by decide) tw_167 rfl rfl dX9_add_16 ?_
  refine nw_imul C dX9_add_19 ?_
  refine nw_st (st' := [.int 6]) rfl ?_
  refine nw_istore_n (lv' := [(1, .int 6), (0, .ref b)]) C dX9_add_20 rfl (by decide) rfl ?_
  refine nw_iload_n C dX9_add_21 rfl 0 rfl ?_
  refine nw_aload_n C dX9_add_22 rfl 1 rfl ?_
  refine nw_get (v := .ref b2) C in_X9 _ (tf2_i hi hij) rfl 2 (by decide) tw_169 rfl rfl dX9_add_23 ?_
  refine nw_alenI C _ (tf2_j hj) dX9_add_26 ?_
  refine nw_st (st' := [.int 24, .int 6]) rfl ?_
  refine nw_icmp_le (a := some (1 : Nat)) (b := some (1 : Nat)) (r := 1) (tgt := 52) C dX9_add_27 (by decide) (if_pos (show ((6 : Int32) ≤ 24) by decide)) (fun _ _ => ?_) (fun h9 _ => absurd (by decide) h9)
  refine nw_aload_n C dX9_add_52 rfl 1 rfl ?_
  refine nw_dup C dX9_add_53 rfl ?_
  refine nw_get (v := .int 0) C in_X9 _ (tf2_i hi hij) rfl 3 (by decide) tw_170 rfl rfl dX9_add_54 ?_
  refine nw_iconst (v := 1) C dX9_add_57 (by decide) ?_
  refine nw_iadd C dX9_add_58 ?_
  refine nw_st (st' := [.int 1, .ref b]) rfl ?_
  refine nw_put (ty := .int) (ws' := tf2 g ws i j b b2 1 (fun _ => 0)) C in_X9 _ (tf2_i hi hij) rfl 3 (by decide) tyX9 tyX9_ok nmX9 tw_170 rfl rfl (by decide +kernel) rfl rfl (Nat.le_of_ble_eq_true rfl) dX9_add_59 (tf2_si hij) ?_
  refine nw_iconst (v := 0) C dX9_add_62 (by decide) ?_
  refine nw_istore_n (lv' := [(2, .int 0), (1, .int 6), (0, .ref b)]) C dX9_add_63 rfl (by decide) rfl ?_
  refine nw_iload_n C dX9_add_64 rfl 0 rfl ?_
  refine nw_aload_n C dX9_add_65 rfl 2 rfl ?_
  refine nw_get (v := .int 6) C in_X9 _ (tf2_i hi hij) rfl 0 (by decide) tw_167 rfl rfl dX9_add_66 ?_
  refine nw_icmp_ge (a := some (1 : Nat)) (b := some (1 : Nat)) (r := 1) (tgt := 90) C dX9_add_69 (by decide) (if_neg (show ¬ ((6 : Int32) ≤ 0) by decide)) (fun h9 _ => absurd h9 (by decide)) (fun _ _ => ?_)
  refine nw_aload_n C dX9_add_72 rfl 2 rfl ?_
  refine nw_aload_n C dX9_add_73 rfl 2 rfl ?_
  refine nw_get (v := .int 1) C in_X9 _ (tf2_i hi hij) rfl 3 (by decide) tw_170 rfl rfl dX9_add_74 ?_
  refine nw_iconst (v := 1) C dX9_add_77 (by decide) ?_
  refine nw_isub C dX9_add_78 ?_
  refine nw_st (st' := [.int 0, .ref b]) rfl ?_
  refine nw_iload_n C dX9_add_79 rfl 0 rfl ?_
  refine nw_iconst (v := (-1)) C dX9_add_80 (by decide) ?_
  refine nw_callV (q0 := i) (As := [.int 0, .int 0, .int (-1)]) (rest := []) C (c_Table_put0_0 hij hi hj) tw_372 kv_X9_put.1 kv_X9_put.2.1 kv_X9_put.2.2.1 kv_X9_put.2.2.2.1 kv_X9_put.2.2.2.2.1 kv_X9_put.2.2.2.2.2 (tf2_i hi hij) rfl ⟨Nat.le_of_ble_eq_true rfl, Nat.le_of_ble_eq_true rfl⟩ ⟨Nat.le_of_ble_eq_true rfl, Nat.le_of_ble_eq_true rfl⟩ rfl dX9_add_81 rfl (Nat.le_of_ble_eq_true rfl) ?_
  rintro _ _ ⟨rfl, rfl⟩
  refine nw_iinc (lv' := [(2, .int 1), (1, .int 6), (0, .ref b)]) C 1 dX9_add_84 0 rfl rfl (by decide) rfl ?_
  refine nw_goto (tgt := 64) C dX9_add_87 (by decide) ?_
  refine nw_iload_n C dX9_add_64 rfl 0 rfl ?_
  refine nw_aload_n C dX9_add_65 rfl 2 rfl ?_
  refine nw_get (v := .int 6) C in_X9 _ (tf2_i hi hij) rfl 0 (by decide) tw_167 rfl rfl dX9_add_66 ?_
  refine nw_icmp_ge (a := some (1 : Nat)) (b := some (1 : Nat)) (r := 1) (tgt := 90) C dX9_add_69 (by decide) (if_neg (show ¬ ((6 : Int32) ≤ 1) by decide)) (fun h9 _ => absurd h9 (by decide)) (fun _ _ => ?_)
  refine nw_aload_n C dX9_add_72 rfl 2 rfl ?_
  refine nw_aload_n C dX9_add_73 rfl 2 rfl ?_
  refine nw_get (v := .int 1) C in_X9 _ (tf2_i hi hij) rfl 3 (by decide) tw_170 rfl rfl dX9_add_74 ?_
  refine nw_iconst (v := 1) C dX9_add_77 (by decide) ?_
  refine nw_isub C dX9_add_78 ?_
  refine nw_st (st' := [.int 0, .ref b]) rfl ?_
  refine nw_iload_n C dX9_add_79 rfl 0 rfl ?_
  refine nw_iconst (v := (-1)) C dX9_add_80 (by decide) ?_
  refine nw_callV (q0 := i) (As := [.int 0, .int 1, .int (-1)]) (rest := []) C (c_Table_put0_1 hij hi hj) tw_372 kv_X9_put.1 kv_X9_put.2.1 kv_X9_put.2.2.1 kv_X9_put.2.2.2.1 kv_X9_put.2.2.2.2.1 kv_X9_put.2.2.2.2.2 (tf2_i hi hij) rfl ⟨Nat.le_of_ble_eq_true rfl, Nat.le_of_ble_eq_true rfl⟩ ⟨Nat.le_of_ble_eq_true rfl, Nat.le_of_ble_eq_true rfl⟩ rfl dX9_add_81 rfl (Nat.le_of_ble_eq_true rfl) ?_
  rintro _ _ ⟨rfl, rfl⟩
  refine nw_iinc (lv' := [(2, .int 2), (1, .int 6), (0, .ref b)]) C 2 dX9_add_84 0 rfl rfl (by decide) rfl ?_
  refine nw_goto (tgt := 64) C dX9_add_87 (by decide) ?_
  refine nw_iload_n C dX9_add_64 rfl 0 rfl ?_
  refine nw_aload_n C dX9_add_65 rfl 2 rfl ?_
  refine nw_get (v := .int 6) C in_X9 _ (tf2_i hi hij) rfl 0 (by decide) tw_167 rfl rfl dX9_add_66 ?_
  refine nw_icmp_ge (a := some (1 : Nat)) (b := some (1 : Nat)) (r := 1) (tgt := 90) C dX9_add_69 (by decide) (if_neg (show ¬ ((6 : Int32) ≤ 2) by decide)) (fun h9 _ => absurd h9 (by decide)) (fun _ _ => ?_)
  refine nw_aload_n C dX9_add_72 rfl 2 rfl ?_
  refine nw_aload_n C dX9_add_73 rfl 2 rfl ?_
  refine nw_get (v := .int 1) C in_X9 _ (tf2_i hi hij) rfl 3 (by decide) tw_170 rfl rfl dX9_add_74 ?_
  refine nw_iconst (v := 1) C dX9_add_77 (by decide) ?_
  refine nw_isub C dX9_add_78 ?_
  refine nw_st (st' := [.int 0, .ref b]) rfl ?_
  refine nw_iload_n C dX9_add_79 rfl 0 rfl ?_
  refine nw_iconst (v := (-1)) C dX9_add_80 (by decide) ?_
  refine nw_callV (q0 := i) (As := [.int 0, .int 2, .int (-1)]) (rest := []) C (c_Table_put0_2 hij hi hj) tw_372 kv_X9_put.1 kv_X9_put.2.1 kv_X9_put.2.2.1 kv_X9_put.2.2.2.1 kv_X9_put.2.2.2.2.1 kv_X9_put.2.2.2.2.2 (tf2_i hi hij) rfl ⟨Nat.le_of_ble_eq_true rfl, Nat.le_of_ble_eq_true rfl⟩ ⟨Nat.le_of_ble_eq_true rfl, Nat.le_of_ble_eq_true rfl⟩ rfl dX9_add_81 rfl (Nat.le_of_ble_eq_true rfl) ?_
  rintro _ _ ⟨rfl, rfl⟩
  refine nw_iinc (lv' := [(2, .int 3), (1, .int 6), (0, .ref b)]) C 3 dX9_add_84 0 rfl rfl (by decide) rfl ?_
  refine nw_goto (tgt := 64) C dX9_add_87 (by decide) ?_
  refine nw_iload_n C dX9_add_64 rfl 0 rfl ?_
  refine nw_aload_n C dX9_add_65 rfl 2 rfl ?_
  refine nw_get (v := .int 6) C in_X9 _ (tf2_i hi hij) rfl 0 (by decide) tw_167 rfl rfl dX9_add_66 ?_
  refine nw_icmp_ge (a := some (1 : Nat)) (b := some (1 : Nat)) (r := 1) (tgt := 90) C dX9_add_69 (by decide) (if_neg (show ¬ ((6 : Int32) ≤ 3) by decide)) (fun h9 _ => absurd h9 (by decide)) (fun _ _ => ?_)
  refine nw_aload_n C dX9_add_72 rfl 2 rfl ?_
  refine nw_aload_n C dX9_add_73 rfl 2 rfl ?_
  refine nw_get (v := .int 1) C in_X9 _ (tf2_i hi hij) rfl 3 (by decide) tw_170 rfl rfl dX9_add_74 ?_
  refine nw_iconst (v := 1) C dX9_add_77 (by decide) ?_
  refine nw_isub C dX9_add_78 ?_
  refine nw_st (st' := [.int 0, .ref b]) rfl ?_
  refine nw_iload_n C dX9_add_79 rfl 0 rfl ?_
  refine nw_iconst (v := (-1)) C dX9_add_80 (by decide) ?_
  refine nw_callV (q0 := i) (As := [.int 0, .int 3, .int (-1)]) (rest := []) C (c_Table_put0_3 hij hi hj) tw_372 kv_X9_put.1 kv_X9_put.2.1 kv_X9_put.2.2.1 kv_X9_put.2.2.2.1 kv_X9_put.2.2.2.2.1 kv_X9_put.2.2.2.2.2 (tf2_i hi hij) rfl ⟨Nat.le_of_ble_eq_true rfl, Nat.le_of_ble_eq_true rfl⟩ ⟨Nat.le_of_ble_eq_true rfl, Nat.le_of_ble_eq_true rfl⟩ rfl dX9_add_81 rfl (Nat.le_of_ble_eq_true rfl) ?_
  rintro _ _ ⟨rfl, rfl⟩
  refine nw_iinc (lv' := [(2, .int 4), (1, .int 6), (0, .ref b)]) C 4 dX9_add_84 0 rfl rfl (by decide) rfl ?_
  refine nw_goto (tgt := 64) C dX9_add_87 (by decide) ?_
  refine nw_iload_n C dX9_add_64 rfl 0 rfl ?_
  refine nw_aload_n C dX9_add_65 rfl 2 rfl ?_
  refine nw_get (v := .int 6) C in_X9 _ (tf2_i hi hij) rfl 0 (by decide) tw_167 rfl rfl dX9_add_66 ?_
  refine nw_icmp_ge (a := some (1 : Nat)) (b := some (1 : Nat)) (r := 1) (tgt := 90) C dX9_add_69 (by decide) (if_neg (show ¬ ((6 : Int32) ≤ 4) by decide)) (fun h9 _ => absurd h9 (by decide)) (fun _ _ => ?_)
  refine nw_aload_n C dX9_add_72 rfl 2 rfl ?_
  refine nw_aload_n C dX9_add_73 rfl 2 rfl ?_
  refine nw_get (v := .int 1) C in_X9 _ (tf2_i hi hij) rfl 3 (by decide) tw_170 rfl rfl dX9_add_74 ?_
  refine nw_iconst (v := 1) C dX9_add_77 (by decide) ?_
  refine nw_isub C dX9_add_78 ?_
  refine nw_st (st' := [.int 0, .ref b]) rfl ?_
  refine nw_iload_n C dX9_add_79 rfl 0 rfl ?_
  refine nw_iconst (v := (-1)) C dX9_add_80 (by decide) ?_
  refine nw_callV (q0 := i) (As := [.int 0, .int 4, .int (-1)]) (rest := []) C (c_Table_put0_4 hij hi hj) tw_372 kv_X9_put.1 kv_X9_put.2.1 kv_X9_put.2.2.1 kv_X9_put.2.2.2.1 kv_X9_put.2.2.2.2.1 kv_X9_put.2.2.2.2.2 (tf2_i hi hij) rfl ⟨Nat.le_of_ble_eq_true rfl, Nat.le_of_ble_eq_true rfl⟩ ⟨Nat.le_of_ble_eq_true rfl, Nat.le_of_ble_eq_true rfl⟩ rfl dX9_add_81 rfl (Nat.le_of_ble_eq_true rfl) ?_
  rintro _ _ ⟨rfl, rfl⟩
  refine nw_iinc (lv' := [(2, .int 5), (1, .int 6), (0, .ref b)]) C 5 dX9_add_84 0 rfl rfl (by decide) rfl ?_
  refine nw_goto (tgt := 64) C dX9_add_87 (by decide) ?_
  refine nw_iload_n C dX9_add_64 rfl 0 rfl ?_
  refine nw_aload_n C dX9_add_65 rfl 2 rfl ?_
  refine nw_get (v := .int 6) C in_X9 _ (tf2_i hi hij) rfl 0 (by decide) tw_167 rfl rfl dX9_add_66 ?_
  refine nw_icmp_ge (a := some (1 : Nat)) (b := some (1 : Nat)) (r := 1) (tgt := 90) C dX9_add_69 (by decide) (if_neg (show ¬ ((6 : Int32) ≤ 5) by decide)) (fun h9 _ => absurd h9 (by decide)) (fun _ _ => ?_)
  refine nw_aload_n C dX9_add_72 rfl 2 rfl ?_
  refine nw_aload_n C dX9_add_73 rfl 2 rfl ?_
  refine nw_get (v := .int 1) C in_X9 _ (tf2_i hi hij) rfl 3 (by decide) tw_170 rfl rfl dX9_add_74 ?_
  refine nw_iconst (v := 1) C dX9_add_77 (by decide) ?_
  refine nw_isub C dX9_add_78 ?_
  refine nw_st (st' := [.int 0, .ref b]) rfl ?_
  refine nw_iload_n C dX9_add_79 rfl 0 rfl ?_
  refine nw_iconst (v := (-1)) C dX9_add_80 (by decide) ?_
  refine nw_callV (q0 := i) (As := [.int 0, .int 5, .int (-1)]) (rest := []) C (c_Table_put0_5 hij hi hj) tw_372 kv_X9_put.1 kv_X9_put.2.1 kv_X9_put.2.2.1 kv_X9_put.2.2.2.1 kv_X9_put.2.2.2.2.1 kv_X9_put.2.2.2.2.2 (tf2_i hi hij) rfl ⟨Nat.le_of_ble_eq_true rfl, Nat.le_of_ble_eq_true rfl⟩ ⟨Nat.le_of_ble_eq_true rfl, Nat.le_of_ble_eq_true rfl⟩ rfl dX9_add_81 rfl (Nat.le_of_ble_eq_true rfl) ?_
  rintro _ _ ⟨rfl, rfl⟩
  refine nw_iinc (lv' := [(2, .int 6), (1, .int 6), (0, .ref b)]) C 6 dX9_add_84 0 rfl rfl (by decide) rfl ?_
  refine nw_goto (tgt := 64) C dX9_add_87 (by decide) ?_
  refine nw_iload_n C dX9_add_64 rfl 0 rfl ?_
  refine nw_aload_n C dX9_add_65 rfl 2 rfl ?_
  refine nw_get (v := .int 6) C in_X9 _ (tf2_i hi hij) rfl 0 (by decide) tw_167 rfl rfl dX9_add_66 ?_
  refine nw_icmp_ge (a := some (1 : Nat)) (b := some (1 : Nat)) (r := 1) (tgt := 90) C dX9_add_69 (by decide) (if_pos (show ((6 : Int32) ≤ 6) by decide)) (fun _ _ => ?_) (fun h9 _ => absurd (by decide) h9)
  refine nw_aload_n C dX9_add_90 rfl 2 rfl ?_
  refine nw_get (v := .int 1) C in_X9 _ (tf2_i hi hij) rfl 3 (by decide) tw_170 rfl rfl dX9_add_91 ?_
  refine nw_iconst (v := 1) C dX9_add_94 (by decide) ?_
  refine nw_isub C dX9_add_95 ?_
  refine nw_st (st' := [.int 0]) rfl ?_
  exact nw_iret C hr dX9_add_96 (Nat.le_of_ble_eq_true rfl) (Nat.le_of_ble_eq_true rfl) ⟨rfl, rfl⟩
theorem c_Table_add0 {l : Launch} {ws : va_W} {i j b b2 : Nat} (hij : i ≠ j) (h1 : ws[i]? = some (b, .inr (9, [.int 6, .int 1, .ref b2, .int 0]))) (h2 : ws[j]? = some (b2, .inl (gI g, 24, .inl (fun _ => 0)))) :
    Ct l g yX9_add (.code yX9_add cX9_add 3 (some .int)) 3 300 0 0 ws [.ref b] (fun v ws' => v = some (.int 0) ∧ ws' = tf2 g ws i j b b2 1 fF) 0 0 := by
  have h := @c_Table_add1 g l ws i j b b2 hij (mk_lt h1) (mk_lt h2)
  rw [← tf2_0 h1 h2] at h
  exact h
theorem dX2_init_0 : decode cX2_init 0 = .ok (.aload_n 0, 1) := by decide +kernel
theorem dX2_init_1 : decode cX2_init 1 = .ok (.invokespecial 3, 3) := by decide +kernel
theorem dX2_init_4 : decode cX2_init 4 = .ok (.aload_n 0, 1) := by decide +kernel
theorem dX2_init_5 : decode cX2_init 5 = .ok (.new 9, 3) := by decide +kernel
theorem dX2_init_8 : decode cX2_init 8 = .ok (.dup, 1) := by decide +kernel
theorem dX2_init_9 : decode cX2_init 9 = .ok (.iconst 3, 1) := by decide +kernel
theorem dX2_init_10 : decode cX2_init 10 = .ok (.bipush 40, 2) := by decide +kernel
theorem dX2_init_12 : decode cX2_init 12 = .ok (.invokespecial 13, 3) := by decide +kernel
theorem dX2_init_15 : decode cX2_init 15 = .ok (.putfield 16, 3) := by decide +kernel
theorem dX2_init_18 : decode cX2_init 18 = .ok (.aload_n 0, 1) := by decide +kernel
theorem dX2_init_19 : decode cX2_init 19 = .ok (.new 9, 3) := by decide +kernel
theorem dX2_init_22 : decode cX2_init 22 = .ok (.dup, 1) := by decide +kernel
theorem dX2_init_23 : decode cX2_init 23 = .ok (.bipush 13, 2) := by decide +kernel
theorem dX2_init_25 : decode cX2_init 25 = .ok (.bipush 12, 2) := by decide +kernel
theorem dX2_init_27 : decode cX2_init 27 = .ok (.invokespecial 13, 3) := by decide +kernel
theorem dX2_init_30 : decode cX2_init 30 = .ok (.putfield 20, 3) := by decide +kernel
theorem dX2_init_33 : decode cX2_init 33 = .ok (.aload_n 0, 1) := by decide +kernel
theorem dX2_init_34 : decode cX2_init 34 = .ok (.bipush 10, 2) := by decide +kernel
theorem dX2_init_36 : decode cX2_init 36 = .ok (.newarray .int, 2) := by decide +kernel
theorem dX2_init_38 : decode cX2_init 38 = .ok (.putfield 23, 3) := by decide +kernel
theorem dX2_init_41 : decode cX2_init 41 = .ok (.return_, 1) := by decide +kernel
theorem c_Ground_init {l : Launch} {ws : va_W} {k b : Nat} (he : ws[k]? = some (b, .inr (2, [.null, .null, .null, .int 0]))) :
    Ct l g yX2_init (.code yX2_init cX2_init 1 none) 2 62 5 82 ws [.ref b] (fun v ws' => v = none ∧ ∃ q0 q1 q2 q3 q4 : Nat, ws' = mkW ws k (b, .inr (2, [.ref q0, .ref q2, .ref q4, .int 0])) [(q0, .inr (9, [.int 3, .int 40, .ref q1, .int 0])), (q1, .inl (gI g, 12, .inl (fun _ => 0))), (q2, .inr (9, [.int 13, .int 12, .ref q3, .int 0])), (q3, .inl (gI g, 52, .inl (fun _ => 0))), (q4, .inl (gI g, 10, .inl (fun _ => 0)))]) 5 82 := by
  refine Ct.ofI rfl (by decide) (Nat.le_of_ble_eq_true rfl) ?_
  intro p e s m args below meth c A C hr hnm
  have hk := mk_lt he
  refine nw_ws (mk_0 he) ?_
  refine nw_aload_n C dX2_init_0 rfl 0 rfl ?_
  refine nw_obj C tw_186 tw_156 tm_obj dX2_init_1 (Nat.le_of_ble_eq_true rfl) (Nat.le_of_ble_eq_true rfl) (Nat.le_of_ble_eq_true rfl) ?_
  refine nw_aload_n C dX2_init_4 rfl 0 rfl ?_
  refine nw_new (ci := 9) (fs := [.int 0, .int 0, .null, .int 0]) C in_X9 tyX9 tyX9_ok tw_187 tw_159 tw_124 rfl (fun j h => match j, h with | 0, _ => rfl | 1, _ => rfl | 2, _ => rfl | 3, _ => rfl | j + 4, h => absurd h (by omega)) (Nat.le_of_ble_eq_true rfl) (Nat.le_of_ble_eq_true rfl) dX2_init_5 (fun q0 => nw_ws mk_app ?_)
  refine nw_dup C dX2_init_8 rfl ?_
  refine nw_iconst (v := 3) C dX2_init_9 (by decide) ?_
  refine nw_bipush (v := 40) C dX2_init_10 (by decide) ?_
  refine nw_callI (As := [.int 3, .int 40]) (rest := [.ref q0, .ref b]) C (c_Table_init (w := 3) (l0 := 40) (N := 12) ((mk_new 0).trans rfl) (by decide) (by decide) (Nat.le_of_ble_eq_true rfl)) tw_188 tw_161 tw_124 tw_162 rfl (by decide +kernel) (n := 2) (by decide +kernel) ⟨Nat.le_of_ble_eq_true rfl, Nat.le_of_ble_eq_true rfl⟩ ⟨Nat.le_of_ble_eq_true rfl, Nat.le_of_ble_eq_true rfl⟩ rfl dX2_init_12 rfl (Nat.le_of_ble_eq_true rfl) ?_
  rintro _ _ ⟨rfl, q1, rfl⟩
  refine nw_ws (ws' := mkW ws k (b, .inr (2, [.null, .null, .null, .int 0])) [(q0, .inr (9, [.int 3, .int 40, .ref q1, .int 0])), (q1, .inl (gI g, 12, .inl (fun _ => 0)))]) (mk_in.trans rfl) ?_
  refine nw_putF C in_X2 _ (mk_this hk) rfl 0 (by decide) tyX2 tyX2_ok nmX2 tw_189 rfl rfl hnm rfl rfl rfl (Nat.le_of_ble_eq_true rfl) dX2_init_15 (mk_setT hk) ?_
  refine nw_aload_n C dX2_init_18 rfl 0 rfl ?_
  refine nw_new (ci := 9) (fs := [.int 0, .int 0, .null, .int 0]) C in_X9 tyX9 tyX9_ok tw_187 tw_159 tw_124 rfl (fun j h => match j, h with | 0, _ => rfl | 1, _ => rfl | 2, _ => rfl | 3, _ => rfl | j + 4, h => absurd h (by omega)) (Nat.le_of_ble_eq_true rfl) (Nat.le_of_ble_eq_true rfl) dX2_init_19 (fun q2 => nw_ws mk_app ?_)
  refine nw_dup C dX2_init_22 rfl ?_
  refine nw_bipush (v := 13) C dX2_init_23 (by decide) ?_
  refine nw_bipush (v := 12) C dX2_init_25 (by decide) ?_
  refine nw_callI (As := [.int 13, .int 12]) (rest := [.ref q2, .ref b]) C (c_Table_init (w := 13) (l0 := 12) (N := 52) ((mk_new 2).trans rfl) (by decide) (by decide) (Nat.le_of_ble_eq_true rfl)) tw_188 tw_161 tw_124 tw_162 rfl (by decide +kernel) (n := 2) (by decide +kernel) ⟨Nat.le_of_ble_eq_true rfl, Nat.le_of_ble_eq_true rfl⟩ ⟨Nat.le_of_ble_eq_true rfl, Nat.le_of_ble_eq_true rfl⟩ rfl dX2_init_27 rfl (Nat.le_of_ble_eq_true rfl) ?_
  rintro _ _ ⟨rfl, q3, rfl⟩
  refine nw_ws (ws' := mkW ws k (b, .inr (2, [.ref q0, .null, .null, .int 0])) [(q0, .inr (9, [.int 3, .int 40, .ref q1, .int 0])), (q1, .inl (gI g, 12, .inl (fun _ => 0))), (q2, .inr (9, [.int 13, .int 12, .ref q3, .int 0])), (q3, .inl (gI g, 52, .inl (fun _ => 0)))]) (mk_in.trans rfl) ?_
  refine nw_putF C in_X2 _ (mk_this hk) rfl 1 (by decide) tyX2 tyX2_ok nmX2 tw_192 rfl rfl hnm rfl rfl rfl (Nat.le_of_ble_eq_true rfl) dX2_init_30 (mk_setT hk) ?_
  refine nw_aload_n C dX2_init_33 rfl 0 rfl ?_
  refine nw_bipush (v := 10) C dX2_init_34 (by decide) ?_
  refine nw_newI (N' := 10) C tw_180 (by decide) (by decide) (Nat.le_of_ble_eq_true rfl) (Nat.le_of_ble_eq_true rfl) (Nat.le_of_ble_eq_true rfl) dX2_init_36 (fun q4 => nw_ws mk_app ?_)
  refine nw_putF C in_X2 _ (mk_this hk) rfl 2 (by decide) tyX2 tyX2_ok nmX2 tw_194 rfl rfl hnm rfl rfl rfl (Nat.le_of_ble_eq_true rfl) dX2_init_38 (mk_setT hk) ?_
  exact nw_vret C hr dX2_init_41 (Nat.le_of_ble_eq_true rfl) (Nat.le_of_ble_eq_true rfl) ⟨rfl, q0, q1, q2, q3, q4, rfl⟩
theorem dX8_init_0 : decode cX8_init 0 = .ok (.aload_n 0, 1) := by decide +kernel
theorem dX8_init_1 : decode cX8_init 1 = .ok (.invokespecial 3, 3) := by decide +kernel
theorem dX8_init_4 : decode cX8_init 4 = .ok (.aload_n 0, 1) := by decide +kernel
theorem dX8_init_5 : decode cX8_init 5 = .ok (.aload_n 1, 1) := by decide +kernel
theorem dX8_init_6 : decode cX8_init 6 = .ok (.putfield 9, 3) := by decide +kernel
theorem dX8_init_9 : decode cX8_init 9 = .ok (.aload_n 0, 1) := by decide +kernel
theorem dX8_init_10 : decode cX8_init 10 = .ok (.bipush 6, 2) := by decide +kernel
theorem dX8_init_12 : decode cX8_init 12 = .ok (.newarray .int, 2) := by decide +kernel
theorem dX8_init_14 : decode cX8_init 14 = .ok (.putfield 15, 3) := by decide +kernel
theorem dX8_init_17 : decode cX8_init 17 = .ok (.aload_n 0, 1) := by decide +kernel
theorem dX8_init_18 : decode cX8_init 18 = .ok (.bipush 6, 2) := by decide +kernel
theorem dX8_init_20 : decode cX8_init 20 = .ok (.newarray .int, 2) := by decide +kernel
theorem dX8_init_22 : decode cX8_init 22 = .ok (.putfield 19, 3) := by decide +kernel
theorem dX8_init_25 : decode cX8_init 25 = .ok (.aload_n 0, 1) := by decide +kernel
theorem dX8_init_26 : decode cX8_init 26 = .ok (.bipush 6, 2) := by decide +kernel
theorem dX8_init_28 : decode cX8_init 28 = .ok (.newarray .int, 2) := by decide +kernel
theorem dX8_init_30 : decode cX8_init 30 = .ok (.putfield 22, 3) := by decide +kernel
theorem dX8_init_33 : decode cX8_init 33 = .ok (.return_, 1) := by decide +kernel
theorem c_Search_init {l : Launch} {ws : va_W} {k b b0 : Nat} (he : ws[k]? = some (b, .inr (8, [.null, .null, .null, .null, .int 0, .int 0, .int 0]))) :
    Ct l g yX8_init (.code yX8_init cX8_init 2 none) 1 40 3 18 ws [.ref b, .ref b0] (fun v ws' => v = none ∧ ∃ q0 q1 q2 : Nat, ws' = mkW ws k (b, .inr (8, [.ref b0, .ref q0, .ref q1, .ref q2, .int 0, .int 0, .int 0])) [(q0, .inl (gI g, 6, .inl (fun _ => 0))), (q1, .inl (gI g, 6, .inl (fun _ => 0))), (q2, .inl (gI g, 6, .inl (fun _ => 0)))]) 3 18 := by
  refine Ct.ofI rfl (by decide) (Nat.le_of_ble_eq_true rfl) ?_
  intro p e s m args below meth c A C hr hnm
  have hk := mk_lt he
  refine nw_ws (mk_0 he) ?_
  refine nw_aload_n C dX8_init_0 rfl 0 rfl ?_
  refine nw_obj C tw_211 tw_156 tm_obj dX8_init_1 (Nat.le_of_ble_eq_true rfl) (Nat.le_of_ble_eq_true rfl) (Nat.le_of_ble_eq_true rfl) ?_
  refine nw_aload_n C dX8_init_4 rfl 0 rfl ?_
  refine nw_aload_n C dX8_init_5 rfl 1 rfl ?_
  refine nw_putF C in_X8 _ (mk_this hk) rfl 0 (by decide) tyX8 tyX8_ok nmX8 tw_212 rfl rfl hnm rfl rfl rfl (Nat.le_of_ble_eq_true rfl) dX8_init_6 (mk_setT hk) ?_
  refine nw_aload_n C dX8_init_9 rfl 0 rfl ?_
  refine nw_bipush (v := 6) C dX8_init_10 (by decide) ?_
  refine nw_newI (N' := 6) C tw_180 (by decide) (by decide) (Nat.le_of_ble_eq_true rfl) (Nat.le_of_ble_eq_true rfl) (Nat.le_of_ble_eq_true rfl) dX8_init_12 (fun q0 => nw_ws mk_app ?_)
  refine nw_putF C in_X8 _ (mk_this hk) rfl 1 (by decide) tyX8 tyX8_ok nmX8 tw_213 rfl rfl hnm rfl rfl rfl (Nat.le_of_ble_eq_true rfl) dX8_init_14 (mk_setT hk) ?_
  refine nw_aload_n C dX8_init_17 rfl 0 rfl ?_
  refine nw_bipush (v := 6) C dX8_init_18 (by decide) ?_
  refine nw_newI (N' := 6) C tw_180 (by decide) (by decide) (Nat.le_of_ble_eq_true rfl) (Nat.le_of_ble_eq_true rfl) (Nat.le_of_ble_eq_true rfl) dX8_init_20 (fun q1 => nw_ws mk_app ?_)
  refine nw_putF C in_X8 _ (mk_this hk) rfl 2 (by decide) tyX8 tyX8_ok nmX8 tw_214 rfl rfl hnm rfl rfl rfl (Nat.le_of_ble_eq_true rfl) dX8_init_22 (mk_setT hk) ?_
  refine nw_aload_n C dX8_init_25 rfl 0 rfl ?_
  refine nw_bipush (v := 6) C dX8_init_26 (by decide) ?_
  refine nw_newI (N' := 6) C tw_180 (by decide) (by decide) (Nat.le_of_ble_eq_true rfl) (Nat.le_of_ble_eq_true rfl) (Nat.le_of_ble_eq_true rfl) dX8_init_28 (fun q2 => nw_ws mk_app ?_)
  refine nw_putF C in_X8 _ (mk_this hk) rfl 3 (by decide) tyX8 tyX8_ok nmX8 tw_215 rfl rfl hnm rfl rfl rfl (Nat.le_of_ble_eq_true rfl) dX8_init_30 (mk_setT hk) ?_
  exact nw_vret C hr dX8_init_33 (Nat.le_of_ble_eq_true rfl) (Nat.le_of_ble_eq_true rfl) ⟨rfl, q0, q1, q2, rfl⟩
theorem dX6_init_0 : decode cX6_init 0 = .ok (.aload_n 0, 1) := by decide +kernel
theorem dX6_init_1 : decode cX6_init 1 = .ok (.invokespecial 3, 3) := by decide +kernel
theorem dX6_init_4 : decode cX6_init 4 = .ok (.aload_n 0, 1) := by decide +kernel
theorem dX6_init_5 : decode cX6_init 5 = .ok (.aload_n 1, 1) := by decide +kernel
theorem dX6_init_6 : decode cX6_init 6 = .ok (.putfield 9, 3) := by decide +kernel
theorem dX6_init_9 : decode cX6_init 9 = .ok (.aload_n 0, 1) := by decide +kernel
theorem dX6_init_10 : decode cX6_init 10 = .ok (.aload_n 2, 1) := by decide +kernel
theorem dX6_init_11 : decode cX6_init 11 = .ok (.putfield 15, 3) := by decide +kernel
theorem dX6_init_14 : decode cX6_init 14 = .ok (.aload_n 0, 1) := by decide +kernel
theorem dX6_init_15 : decode cX6_init 15 = .ok (.aload_n 3, 1) := by decide +kernel
theorem dX6_init_16 : decode cX6_init 16 = .ok (.putfield 18, 3) := by decide +kernel
theorem dX6_init_19 : decode cX6_init 19 = .ok (.return_, 1) := by decide +kernel
theorem c_Reader_init {l : Launch} {ws : va_W} {k b b0 b1 b2 : Nat} (he : ws[k]? = some (b, .inr (6, [.null, .null, .null, .int 0, .int 0, .int 0, .int 0, .int 0]))) :
    Ct l g yX6_init (.code yX6_init cX6_init 4 none) 1 40 0 0 ws [.ref b, .ref b0, .ref b1, .ref b2] (fun v ws' => v = none ∧ ws' = mkW ws k (b, .inr (6, [.ref b0, .ref b1, .ref b2, .int 0, .int 0, .int 0, .int 0, .int 0])) []) 0 0 := by
  refine Ct.ofI rfl (by decide) (Nat.le_of_ble_eq_true rfl) ?_
  intro p e s m args below meth c A C hr hnm
  have hk := mk_lt he
  refine nw_ws (mk_0 he) ?_
  refine nw_aload_n C dX6_init_0 rfl 0 rfl ?_
  refine nw_obj C tw_248 tw_156 tm_obj dX6_init_1 (Nat.le_of_ble_eq_true rfl) (Nat.le_of_ble_eq_true rfl) (Nat.le_of_ble_eq_true rfl) ?_
  refine nw_aload_n C dX6_init_4 rfl 0 rfl ?_
  refine nw_aload_n C dX6_init_5 rfl 1 rfl ?_
  refine nw_putF C in_X6 _ (mk_this hk) rfl 0 (by decide) tyX6 tyX6_ok nmX6 tw_249 rfl rfl hnm rfl rfl rfl (Nat.le_of_ble_eq_true rfl) dX6_init_6 (mk_setT hk) ?_
  refine nw_aload_n C dX6_init_9 rfl 0 rfl ?_
  refine nw_aload_n C dX6_init_10 rfl 2 rfl ?_
  refine nw_putF C in_X6 _ (mk_this hk) rfl 1 (by decide) tyX6 tyX6_ok nmX6 tw_250 rfl rfl hnm rfl rfl rfl (Nat.le_of_ble_eq_true rfl) dX6_init_11 (mk_setT hk) ?_
  refine nw_aload_n C dX6_init_14 rfl 0 rfl ?_
  refine nw_aload_n C dX6_init_15 rfl 3 rfl ?_
  refine nw_putF C in_X6 _ (mk_this hk) rfl 2 (by decide) tyX6 tyX6_ok nmX6 tw_251 rfl rfl hnm rfl rfl rfl (Nat.le_of_ble_eq_true rfl) dX6_init_16 (mk_setT hk) ?_
  exact nw_vret C hr dX6_init_19 (Nat.le_of_ble_eq_true rfl) (Nat.le_of_ble_eq_true rfl) ⟨rfl, rfl⟩
theorem dX3_init_0 : decode cX3_init 0 = .ok (.aload_n 0, 1) := by decide +kernel
theorem dX3_init_1 : decode cX3_init 1 = .ok (.invokespecial 3, 3) := by decide +kernel
theorem dX3_init_4 : decode cX3_init 4 = .ok (.aload_n 0, 1) := by decide +kernel
theorem dX3_init_5 : decode cX3_init 5 = .ok (.new 9, 3) := by decide +kernel
theorem dX3_init_8 : decode cX3_init 8 = .ok (.dup, 1) := by decide +kernel
theorem dX3_init_9 : decode cX3_init 9 = .ok (.bipush 7, 2) := by decide +kernel
theorem dX3_init_11 : decode cX3_init 11 = .ok (.bipush 10, 2) := by decide +kernel
theorem dX3_init_13 : decode cX3_init 13 = .ok (.invokespecial 13, 3) := by decide +kernel
theorem dX3_init_16 : decode cX3_init 16 = .ok (.putfield 16, 3) := by decide +kernel
theorem dX3_init_19 : decode cX3_init 19 = .ok (.aload_n 0, 1) := by decide +kernel
theorem dX3_init_20 : decode cX3_init 20 = .ok (.new 9, 3) := by decide +kernel
theorem dX3_init_23 : decode cX3_init 23 = .ok (.dup, 1) := by decide +kernel
theorem dX3_init_24 : decode cX3_init 24 = .ok (.bipush 9, 2) := by decide +kernel
theorem dX3_init_26 : decode cX3_init 26 = .ok (.bipush 120, 2) := by decide +kernel
theorem dX3_init_28 : decode cX3_init 28 = .ok (.invokespecial 13, 3) := by decide +kernel
theorem dX3_init_31 : decode cX3_init 31 = .ok (.putfield 22, 3) := by decide +kernel
theorem dX3_init_34 : decode cX3_init 34 = .ok (.aload_n 0, 1) := by decide +kernel
theorem dX3_init_35 : decode cX3_init 35 = .ok (.new 9, 3) := by decide +kernel
theorem dX3_init_38 : decode cX3_init 38 = .ok (.dup, 1) := by decide +kernel
theorem dX3_init_39 : decode cX3_init 39 = .ok (.iconst 1, 1) := by decide +kernel
theorem dX3_init_40 : decode cX3_init 40 = .ok (.sipush 4000, 3) := by decide +kernel
theorem dX3_init_43 : decode cX3_init 43 = .ok (.invokespecial 13, 3) := by decide +kernel
theorem dX3_init_46 : decode cX3_init 46 = .ok (.putfield 25, 3) := by decide +kernel
theorem dX3_init_49 : decode cX3_init 49 = .ok (.aload_n 0, 1) := by decide +kernel
theorem dX3_init_50 : decode cX3_init 50 = .ok (.new 20, 3) := by decide +kernel
theorem dX3_init_53 : decode cX3_init 53 = .ok (.dup, 1) := by decide +kernel
theorem dX3_init_54 : decode cX3_init 54 = .ok (.aload_n 1, 1) := by decide +kernel
theorem dX3_init_55 : decode cX3_init 55 = .ok (.aload_n 0, 1) := by decide +kernel
theorem dX3_init_56 : decode cX3_init 56 = .ok (.getfield 22, 3) := by decide +kernel
theorem dX3_init_59 : decode cX3_init 59 = .ok (.aload_n 0, 1) := by decide +kernel
theorem dX3_init_60 : decode cX3_init 60 = .ok (.getfield 25, 3) := by decide +kernel
theorem dX3_init_63 : decode cX3_init 63 = .ok (.invokespecial 28, 3) := by decide +kernel
theorem dX3_init_66 : decode cX3_init 66 = .ok (.putfield 31, 3) := by decide +kernel
theorem dX3_init_69 : decode cX3_init 69 = .ok (.aload_n 0, 1) := by decide +kernel
theorem dX3_init_70 : decode cX3_init 70 = .ok (.bipush 64, 2) := by decide +kernel
theorem dX3_init_72 : decode cX3_init 72 = .ok (.newarray .int, 2) := by decide +kernel
theorem dX3_init_74 : decode cX3_init 74 = .ok (.putfield 35, 3) := by decide +kernel
theorem dX3_init_77 : decode cX3_init 77 = .ok (.aload_n 0, 1) := by decide +kernel
theorem dX3_init_78 : decode cX3_init 78 = .ok (.iconst (-1), 1) := by decide +kernel
theorem dX3_init_79 : decode cX3_init 79 = .ok (.putfield 39, 3) := by decide +kernel
theorem dX3_init_82 : decode cX3_init 82 = .ok (.aload_n 0, 1) := by decide +kernel
theorem dX3_init_83 : decode cX3_init 83 = .ok (.iconst (-1), 1) := by decide +kernel
theorem dX3_init_84 : decode cX3_init 84 = .ok (.putfield 43, 3) := by decide +kernel
theorem dX3_init_87 : decode cX3_init 87 = .ok (.aload_n 0, 1) := by decide +kernel
theorem dX3_init_88 : decode cX3_init 88 = .ok (.iconst (-1), 1) := by decide +kernel
theorem dX3_init_89 : decode cX3_init 89 = .ok (.putfield 46, 3) := by decide +kernel
theorem dX3_init_92 : decode cX3_init 92 = .ok (.return_, 1) := by decide +kernel
theorem c_Laws_init {l : Launch} {ws : va_W} {k b b0 : Nat} (he : ws[k]? = some (b, .inr (3, [.null, .null, .null, .null, .null, .int 0, .int 0, .int 0]))) :
    Ct l g yX3_init (.code yX3_init cX3_init 2 none) 2 63 8 152 ws [.ref b, .ref b0] (fun v ws' => v = none ∧ ∃ q0 q1 q2 q3 q4 q5 q6 q7 : Nat, ws' = mkW ws k (b, .inr (3, [.ref q0, .ref q2, .ref q4, .ref q6, .ref q7, .int (-1), .int (-1), .int (-1)])) [(q0, .inr (9, [.int 7, .int 10, .ref q1, .int 0])), (q1, .inl (gI g, 28, .inl (fun _ => 0))), (q2, .inr (9, [.int 9, .int 120, .ref q3, .int 0])), (q3, .inl (gI g, 36, .inl (fun _ => 0))), (q4, .inr (9, [.int 1, .int 4000, .ref q5, .int 0])), (q5, .inl (gI g, 4, .inl (fun _ => 0))), (q6, .inr (6, [.ref b0, .ref q2, .ref q4, .int 0, .int 0, .int 0, .int 0, .int 0])), (q7, .inl (gI g, 64, .inl (fun _ => 0)))]) 8 152 := by
  refine Ct.ofI rfl (by decide) (Nat.le_of_ble_eq_true rfl) ?_
  intro p e s m args below meth c A C hr hnm
  have hk := mk_lt he
  refine nw_ws (mk_0 he) ?_
  refine nw_aload_n C dX3_init_0 rfl 0 rfl ?_
  refine nw_obj C tw_240 tw_156 tm_obj dX3_init_1 (Nat.le_of_ble_eq_true rfl) (Nat.le_of_ble_eq_true rfl) (Nat.le_of_ble_eq_true rfl) ?_
  refine nw_aload_n C dX3_init_4 rfl 0 rfl ?_
  refine nw_new (ci := 9) (fs := [.int 0, .int 0, .null, .int 0]) C in_X9 tyX9 tyX9_ok tw_241 tw_159 tw_124 rfl (fun j h => match j, h with | 0, _ => rfl | 1, _ => rfl | 2, _ => rfl | 3, _ => rfl | j + 4, h => absurd h (by omega)) (Nat.le_of_ble_eq_true rfl) (Nat.le_of_ble_eq_true rfl) dX3_init_5 (fun q0 => nw_ws mk_app ?_)
  refine nw_dup C dX3_init_8 rfl ?_
  refine nw_bipush (v := 7) C dX3_init_9 (by decide) ?_
  refine nw_bipush (v := 10) C dX3_init_11 (by decide) ?_
  refine nw_callI (As := [.int 7, .int 10]) (rest := [.ref q0, .ref b]) C (c_Table_init (w := 7) (l0 := 10) (N := 28) ((mk_new 0).trans rfl) (by decide) (by decide) (Nat.le_of_ble_eq_true rfl)) tw_242 tw_161 tw_124 tw_162 rfl (by decide +kernel) (n := 2) (by decide +kernel) ⟨Nat.le_of_ble_eq_true rfl, Nat.le_of_ble_eq_true rfl⟩ ⟨Nat.le_of_ble_eq_true rfl, Nat.le_of_ble_eq_true rfl⟩ rfl dX3_init_13 rfl (Nat.le_of_ble_eq_true rfl) ?_
  rintro _ _ ⟨rfl, q1, rfl⟩
  refine nw_ws (ws' := mkW ws k (b, .inr (3, [.null, .null, .null, .null, .null, .int 0, .int 0, .int 0])) [(q0, .inr (9, [.int 7, .int 10, .ref q1, .int 0])), (q1, .inl (gI g, 28, .inl (fun _ => 0)))]) (mk_in.trans rfl) ?_
  refine nw_putF C in_X3 _ (mk_this hk) rfl 0 (by decide) tyX3 tyX3_ok nmX3 tw_276 rfl rfl hnm rfl rfl rfl (Nat.le_of_ble_eq_true rfl) dX3_init_16 (mk_setT hk) ?_
  refine nw_aload_n C dX3_init_19 rfl 0 rfl ?_
  refine nw_new (ci := 9) (fs := [.int 0, .int 0, .null, .int 0]) C in_X9 tyX9 tyX9_ok tw_241 tw_159 tw_124 rfl (fun j h => match j, h with | 0, _ => rfl | 1, _ => rfl | 2, _ => rfl | 3, _ => rfl | j + 4, h => absurd h (by omega)) (Nat.le_of_ble_eq_true rfl) (Nat.le_of_ble_eq_true rfl) dX3_init_20 (fun q2 => nw_ws mk_app ?_)
  refine nw_dup C dX3_init_23 rfl ?_
  refine nw_bipush (v := 9) C dX3_init_24 (by decide) ?_
  refine nw_bipush (v := 120) C dX3_init_26 (by decide) ?_
  refine nw_callI (As := [.int 9, .int 120]) (rest := [.ref q2, .ref b]) C (c_Table_init (w := 9) (l0 := 120) (N := 36) ((mk_new 2).trans rfl) (by decide) (by decide) (Nat.le_of_ble_eq_true rfl)) tw_242 tw_161 tw_124 tw_162 rfl (by decide +kernel) (n := 2) (by decide +kernel) ⟨Nat.le_of_ble_eq_true rfl, Nat.le_of_ble_eq_true rfl⟩ ⟨Nat.le_of_ble_eq_true rfl, Nat.le_of_ble_eq_true rfl⟩ rfl dX3_init_28 rfl (Nat.le_of_ble_eq_true rfl) ?_
  rintro _ _ ⟨rfl, q3, rfl⟩
  refine nw_ws (ws' := mkW ws k (b, .inr (3, [.ref q0, .null, .null, .null, .null, .int 0, .int 0, .int 0])) [(q0, .inr (9, [.int 7, .int 10, .ref q1, .int 0])), (q1, .inl (gI g, 28, .inl (fun _ => 0))), (q2, .inr (9, [.int 9, .int 120, .ref q3, .int 0])), (q3, .inl (gI g, 36, .inl (fun _ => 0)))]) (mk_in.trans rfl) ?_
  refine nw_putF C in_X3 _ (mk_this hk) rfl 1 (by decide) tyX3 tyX3_ok nmX3 tw_279 rfl rfl hnm rfl rfl rfl (Nat.le_of_ble_eq_true rfl) dX3_init_31 (mk_setT hk) ?_
  refine nw_aload_n C dX3_init_34 rfl 0 rfl ?_
  refine nw_new (ci := 9) (fs := [.int 0, .int 0, .null, .int 0]) C in_X9 tyX9 tyX9_ok tw_241 tw_159 tw_124 rfl (fun j h => match j, h with | 0, _ => rfl | 1, _ => rfl | 2, _ => rfl | 3, _ => rfl | j + 4, h => absurd h (by omega)) (Nat.le_of_ble_eq_true rfl) (Nat.le_of_ble_eq_true rfl) dX3_init_35 (fun q4 => nw_ws mk_app ?_)
  refine nw_dup C dX3_init_38 rfl ?_
  refine nw_iconst (v := 1) C dX3_init_39 (by decide) ?_
  refine nw_sipush (v := 4000) C dX3_init_40 (by decide) ?_
  refine nw_callI (As := [.int 1, .int 4000]) (rest := [.ref q4, .ref b]) C (c_Table_init (w := 1) (l0 := 4000) (N := 4) ((mk_new 4).trans rfl) (by decide) (by decide) (Nat.le_of_ble_eq_true rfl)) tw_242 tw_161 tw_124 tw_162 rfl (by decide +kernel) (n := 2) (by decide +kernel) ⟨Nat.le_of_ble_eq_true rfl, Nat.le_of_ble_eq_true rfl⟩ ⟨Nat.le_of_ble_eq_true rfl, Nat.le_of_ble_eq_true rfl⟩ rfl dX3_init_43 rfl (Nat.le_of_ble_eq_true rfl) ?_
  rintro _ _ ⟨rfl, q5, rfl⟩
  refine nw_ws (ws' := mkW ws k (b, .inr (3, [.ref q0, .ref q2, .null, .null, .null, .int 0, .int 0, .int 0])) [(q0, .inr (9, [.int 7, .int 10, .ref q1, .int 0])), (q1, .inl (gI g, 28, .inl (fun _ => 0))), (q2, .inr (9, [.int 9, .int 120, .ref q3, .int 0])), (q3, .inl (gI g, 36, .inl (fun _ => 0))), (q4, .inr (9, [.int 1, .int 4000, .ref q5, .int 0])), (q5, .inl (gI g, 4, .inl (fun _ => 0)))]) (mk_in.trans rfl) ?_
  refine nw_putF C in_X3 _ (mk_this hk) rfl 2 (by decide) tyX3 tyX3_ok nmX3 tw_280 rfl rfl hnm rfl rfl rfl (Nat.le_of_ble_eq_true rfl) dX3_init_46 (mk_setT hk) ?_
  refine nw_aload_n C dX3_init_49 rfl 0 rfl ?_
  refine nw_new (ci := 6) (fs := [.null, .null, .null, .int 0, .int 0, .int 0, .int 0, .int 0]) C in_X6 tyX6 tyX6_ok tw_243 tw_244 tw_129 rfl (fun j h => match j, h with | 0, _ => rfl | 1, _ => rfl | 2, _ => rfl | 3, _ => rfl | 4, _ => rfl | 5, _ => rfl | 6, _ => rfl | 7, _ => rfl | j + 8, h => absurd h (by omega)) (Nat.le_of_ble_eq_true rfl) (Nat.le_of_ble_eq_true rfl) dX3_init_50 (fun q6 => nw_ws mk_app ?_)
  refine nw_dup C dX3_init_53 rfl ?_
  refine nw_aload_n C dX3_init_54 rfl 1 rfl ?_
  refine nw_aload_n C dX3_init_55 rfl 0 rfl ?_
  refine nw_get (v := .ref q2) C in_X3 _ (mk_this hk) rfl 1 (by decide) tw_279 rfl rfl dX3_init_56 ?_
  refine nw_aload_n C dX3_init_59 rfl 0 rfl ?_
  refine nw_get (v := .ref q4) C in_X3 _ (mk_this hk) rfl 2 (by decide) tw_280 rfl rfl dX3_init_60 ?_
  refine nw_callI (As := [.ref b0, .ref q2, .ref q4]) (rest := [.ref q6, .ref b]) C (c_Reader_init ((mk_new 6).trans rfl)) tw_245 tw_246 tw_129 tw_247 rfl (by decide +kernel) (n := 3) (by decide +kernel) ⟨Nat.le_of_ble_eq_true rfl, Nat.le_of_ble_eq_true rfl⟩ ⟨Nat.le_of_ble_eq_true rfl, Nat.le_of_ble_eq_true rfl⟩ rfl dX3_init_63 rfl (Nat.le_of_ble_eq_true rfl) ?_
  rintro _ _ ⟨rfl, rfl⟩
  refine nw_ws (ws' := mkW ws k (b, .inr (3, [.ref q0, .ref q2, .ref q4, .null, .null, .int 0, .int 0, .int 0])) [(q0, .inr (9, [.int 7, .int 10, .ref q1, .int 0])), (q1, .inl (gI g, 28, .inl (fun _ => 0))), (q2, .inr (9, [.int 9, .int 120, .ref q3, .int 0])), (q3, .inl (gI g, 36, .inl (fun _ => 0))), (q4, .inr (9, [.int 1, .int 4000, .ref q5, .int 0])), (q5, .inl (gI g, 4, .inl (fun _ => 0))), (q6, .inr (6, [.ref b0, .ref q2, .ref q4, .int 0, .int 0, .int 0, .int 0, .int 0]))]) (mk_in.trans rfl) ?_
  refine nw_putF C in_X3 _ (mk_this hk) rfl 3 (by decide) tyX3 tyX3_ok nmX3 tw_281 rfl rfl hnm rfl rfl rfl (Nat.le_of_ble_eq_true rfl) dX3_init_66 (mk_setT hk) ?_
  refine nw_aload_n C dX3_init_69 rfl 0 rfl ?_
  refine nw_bipush (v := 64) C dX3_init_70 (by decide) ?_
  refine nw_newI (N' := 64) C tw_180 (by decide) (by decide) (Nat.le_of_ble_eq_true rfl) (Nat.le_of_ble_eq_true rfl) (Nat.le_of_ble_eq_true rfl) dX3_init_72 (fun q7 => nw_ws mk_app ?_)
  refine nw_putF C in_X3 _ (mk_this hk) rfl 4 (by decide) tyX3 tyX3_ok nmX3 tw_282 rfl rfl hnm rfl rfl rfl (Nat.le_of_ble_eq_true rfl) dX3_init_74 (mk_setT hk) ?_
  refine nw_aload_n C dX3_init_77 rfl 0 rfl ?_
  refine nw_iconst (v := -1) C dX3_init_78 (by decide) ?_
  refine nw_put C in_X3 _ (mk_this hk) rfl 5 (by decide) tyX3 tyX3_ok nmX3 tw_283 rfl rfl (tyX3_ok 5 (by decide)) rfl rfl (Nat.le_of_ble_eq_true rfl) dX3_init_79 (mk_setT hk) ?_
  refine nw_aload_n C dX3_init_82 rfl 0 rfl ?_
  refine nw_iconst (v := -1) C dX3_init_83 (by decide) ?_
  refine nw_put C in_X3 _ (mk_this hk) rfl 6 (by decide) tyX3 tyX3_ok nmX3 tw_285 rfl rfl (tyX3_ok 6 (by decide)) rfl rfl (Nat.le_of_ble_eq_true rfl) dX3_init_84 (mk_setT hk) ?_
  refine nw_aload_n C dX3_init_87 rfl 0 rfl ?_
  refine nw_iconst (v := -1) C dX3_init_88 (by decide) ?_
  refine nw_put C in_X3 _ (mk_this hk) rfl 7 (by decide) tyX3 tyX3_ok nmX3 tw_286 rfl rfl (tyX3_ok 7 (by decide)) rfl rfl (Nat.le_of_ble_eq_true rfl) dX3_init_89 (mk_setT hk) ?_
  exact nw_vret C hr dX3_init_92 (Nat.le_of_ble_eq_true rfl) (Nat.le_of_ble_eq_true rfl) ⟨rfl, q0, q1, q2, q3, q4, q5, q6, q7, rfl⟩
theorem dX5_init_0 : decode cX5_init 0 = .ok (.aload_n 0, 1) := by decide +kernel
theorem dX5_init_1 : decode cX5_init 1 = .ok (.invokespecial 3, 3) := by decide +kernel
theorem dX5_init_4 : decode cX5_init 4 = .ok (.aload_n 0, 1) := by decide +kernel
theorem dX5_init_5 : decode cX5_init 5 = .ok (.new 9, 3) := by decide +kernel
theorem dX5_init_8 : decode cX5_init 8 = .ok (.dup, 1) := by decide +kernel
theorem dX5_init_9 : decode cX5_init 9 = .ok (.iconst 4, 1) := by decide +kernel
theorem dX5_init_10 : decode cX5_init 10 = .ok (.bipush 40, 2) := by decide +kernel
theorem dX5_init_12 : decode cX5_init 12 = .ok (.invokespecial 11, 3) := by decide +kernel
theorem dX5_init_15 : decode cX5_init 15 = .ok (.putfield 14, 3) := by decide +kernel
theorem dX5_init_18 : decode cX5_init 18 = .ok (.return_, 1) := by decide +kernel
theorem c_People_init {l : Launch} {ws : va_W} {k b : Nat} (he : ws[k]? = some (b, .inr (5, [.null]))) :
    Ct l g yX5_init (.code yX5_init cX5_init 1 none) 2 62 2 20 ws [.ref b] (fun v ws' => v = none ∧ ∃ q0 q1 : Nat, ws' = mkW ws k (b, .inr (5, [.ref q0])) [(q0, .inr (9, [.int 4, .int 40, .ref q1, .int 0])), (q1, .inl (gI g, 16, .inl (fun _ => 0)))]) 2 20 := by
  refine Ct.ofI rfl (by decide) (Nat.le_of_ble_eq_true rfl) ?_
  intro p e s m args below meth c A C hr hnm
  have hk := mk_lt he
  refine nw_ws (mk_0 he) ?_
  refine nw_aload_n C dX5_init_0 rfl 0 rfl ?_
  refine nw_obj C tw_309 tw_156 tm_obj dX5_init_1 (Nat.le_of_ble_eq_true rfl) (Nat.le_of_ble_eq_true rfl) (Nat.le_of_ble_eq_true rfl) ?_
  refine nw_aload_n C dX5_init_4 rfl 0 rfl ?_
  refine nw_new (ci := 9) (fs := [.int 0, .int 0, .null, .int 0]) C in_X9 tyX9 tyX9_ok tw_310 tw_159 tw_124 rfl (fun j h => match j, h with | 0, _ => rfl | 1, _ => rfl | 2, _ => rfl | 3, _ => rfl | j + 4, h => absurd h (by omega)) (Nat.le_of_ble_eq_true rfl) (Nat.le_of_ble_eq_true rfl) dX5_init_5 (fun q0 => nw_ws mk_app ?_)
  refine nw_dup C dX5_init_8 rfl ?_
  refine nw_iconst (v := 4) C dX5_init_9 (by decide) ?_
  refine nw_bipush (v := 40) C dX5_init_10 (by decide) ?_
  refine nw_callI (As := [.int 4, .int 40]) (rest := [.ref q0, .ref b]) C (c_Table_init (w := 4) (l0 := 40) (N := 16) ((mk_new 0).trans rfl) (by decide) (by decide) (Nat.le_of_ble_eq_true rfl)) tw_311 tw_161 tw_124 tw_162 rfl (by decide +kernel) (n := 2) (by decide +kernel) ⟨Nat.le_of_ble_eq_true rfl, Nat.le_of_ble_eq_true rfl⟩ ⟨Nat.le_of_ble_eq_true rfl, Nat.le_of_ble_eq_true rfl⟩ rfl dX5_init_12 rfl (Nat.le_of_ble_eq_true rfl) ?_
  rintro _ _ ⟨rfl, q1, rfl⟩
  refine nw_ws (ws' := mkW ws k (b, .inr (5, [.null])) [(q0, .inr (9, [.int 4, .int 40, .ref q1, .int 0])), (q1, .inl (gI g, 16, .inl (fun _ => 0)))]) (mk_in.trans rfl) ?_
  refine nw_putF C in_X5 _ (mk_this hk) rfl 0 (by decide) tyX5 tyX5_ok nmX5 tw_312 rfl rfl hnm rfl rfl rfl (Nat.le_of_ble_eq_true rfl) dX5_init_15 (mk_setT hk) ?_
  exact nw_vret C hr dX5_init_18 (Nat.le_of_ble_eq_true rfl) (Nat.le_of_ble_eq_true rfl) ⟨rfl, q0, q1, rfl⟩
theorem dX0_init_0 : decode cX0_init 0 = .ok (.aload_n 0, 1) := by decide +kernel
theorem dX0_init_1 : decode cX0_init 1 = .ok (.invokespecial 3, 3) := by decide +kernel
theorem dX0_init_4 : decode cX0_init 4 = .ok (.aload_n 0, 1) := by decide +kernel
theorem dX0_init_5 : decode cX0_init 5 = .ok (.aload_n 1, 1) := by decide +kernel
theorem dX0_init_6 : decode cX0_init 6 = .ok (.putfield 9, 3) := by decide +kernel
theorem dX0_init_9 : decode cX0_init 9 = .ok (.aload_n 0, 1) := by decide +kernel
theorem dX0_init_10 : decode cX0_init 10 = .ok (.aload_n 2, 1) := by decide +kernel
theorem dX0_init_11 : decode cX0_init 11 = .ok (.putfield 15, 3) := by decide +kernel
theorem dX0_init_14 : decode cX0_init 14 = .ok (.aload_n 0, 1) := by decide +kernel
theorem dX0_init_15 : decode cX0_init 15 = .ok (.new 19, 3) := by decide +kernel
theorem dX0_init_18 : decode cX0_init 18 = .ok (.dup, 1) := by decide +kernel
theorem dX0_init_19 : decode cX0_init 19 = .ok (.iconst 5, 1) := by decide +kernel
theorem dX0_init_20 : decode cX0_init 20 = .ok (.bipush 20, 2) := by decide +kernel
theorem dX0_init_22 : decode cX0_init 22 = .ok (.invokespecial 21, 3) := by decide +kernel
theorem dX0_init_25 : decode cX0_init 25 = .ok (.putfield 24, 3) := by decide +kernel
theorem dX0_init_28 : decode cX0_init 28 = .ok (.aload_n 0, 1) := by decide +kernel
theorem dX0_init_29 : decode cX0_init 29 = .ok (.new 19, 3) := by decide +kernel
theorem dX0_init_32 : decode cX0_init 32 = .ok (.dup, 1) := by decide +kernel
theorem dX0_init_33 : decode cX0_init 33 = .ok (.iconst 3, 1) := by decide +kernel
theorem dX0_init_34 : decode cX0_init 34 = .ok (.sipush 1200, 3) := by decide +kernel
theorem dX0_init_37 : decode cX0_init 37 = .ok (.invokespecial 21, 3) := by decide +kernel
theorem dX0_init_40 : decode cX0_init 40 = .ok (.putfield 28, 3) := by decide +kernel
theorem dX0_init_43 : decode cX0_init 43 = .ok (.return_, 1) := by decide +kernel
theorem c_Claims_init {l : Launch} {ws : va_W} {k b b0 b1 : Nat} (he : ws[k]? = some (b, .inr (0, [.null, .null, .null, .null]))) :
    Ct l g yX0_init (.code yX0_init cX0_init 3 none) 2 62 4 40 ws [.ref b, .ref b0, .ref b1] (fun v ws' => v = none ∧ ∃ q0 q1 q2 q3 : Nat, ws' = mkW ws k (b, .inr (0, [.ref q0, .ref q2, .ref b0, .ref b1])) [(q0, .inr (9, [.int 5, .int 20, .ref q1, .int 0])), (q1, .inl (gI g, 20, .inl (fun _ => 0))), (q2, .inr (9, [.int 3, .int 1200, .ref q3, .int 0])), (q3, .inl (gI g, 12, .inl (fun _ => 0)))]) 4 40 := by
  refine Ct.ofI rfl (by decide) (Nat.le_of_ble_eq_true rfl) ?_
  intro p e s m args below meth c A C hr hnm
  have hk := mk_lt he
  refine nw_ws (mk_0 he) ?_
  refine nw_aload_n C dX0_init_0 rfl 0 rfl ?_
  refine nw_obj C tw_323 tw_156 tm_obj dX0_init_1 (Nat.le_of_ble_eq_true rfl) (Nat.le_of_ble_eq_true rfl) (Nat.le_of_ble_eq_true rfl) ?_
  refine nw_aload_n C dX0_init_4 rfl 0 rfl ?_
  refine nw_aload_n C dX0_init_5 rfl 1 rfl ?_
  refine nw_putF C in_X0 _ (mk_this hk) rfl 2 (by decide) tyX0 tyX0_ok nmX0 tw_329 rfl rfl hnm rfl rfl rfl (Nat.le_of_ble_eq_true rfl) dX0_init_6 (mk_setT hk) ?_
  refine nw_aload_n C dX0_init_9 rfl 0 rfl ?_
  refine nw_aload_n C dX0_init_10 rfl 2 rfl ?_
  refine nw_putF C in_X0 _ (mk_this hk) rfl 3 (by decide) tyX0 tyX0_ok nmX0 tw_330 rfl rfl hnm rfl rfl rfl (Nat.le_of_ble_eq_true rfl) dX0_init_11 (mk_setT hk) ?_
  refine nw_aload_n C dX0_init_14 rfl 0 rfl ?_
  refine nw_new (ci := 9) (fs := [.int 0, .int 0, .null, .int 0]) C in_X9 tyX9 tyX9_ok tw_324 tw_159 tw_124 rfl (fun j h => match j, h with | 0, _ => rfl | 1, _ => rfl | 2, _ => rfl | 3, _ => rfl | j + 4, h => absurd h (by omega)) (Nat.le_of_ble_eq_true rfl) (Nat.le_of_ble_eq_true rfl) dX0_init_15 (fun q0 => nw_ws mk_app ?_)
  refine nw_dup C dX0_init_18 rfl ?_
  refine nw_iconst (v := 5) C dX0_init_19 (by decide) ?_
  refine nw_bipush (v := 20) C dX0_init_20 (by decide) ?_
  refine nw_callI (As := [.int 5, .int 20]) (rest := [.ref q0, .ref b]) C (c_Table_init (w := 5) (l0 := 20) (N := 20) ((mk_new 0).trans rfl) (by decide) (by decide) (Nat.le_of_ble_eq_true rfl)) tw_325 tw_161 tw_124 tw_162 rfl (by decide +kernel) (n := 2) (by decide +kernel) ⟨Nat.le_of_ble_eq_true rfl, Nat.le_of_ble_eq_true rfl⟩ ⟨Nat.le_of_ble_eq_true rfl, Nat.le_of_ble_eq_true rfl⟩ rfl dX0_init_22 rfl (Nat.le_of_ble_eq_true rfl) ?_
  rintro _ _ ⟨rfl, q1, rfl⟩
  refine nw_ws (ws' := mkW ws k (b, .inr (0, [.null, .null, .ref b0, .ref b1])) [(q0, .inr (9, [.int 5, .int 20, .ref q1, .int 0])), (q1, .inl (gI g, 20, .inl (fun _ => 0)))]) (mk_in.trans rfl) ?_
  refine nw_putF C in_X0 _ (mk_this hk) rfl 0 (by decide) tyX0 tyX0_ok nmX0 tw_326 rfl rfl hnm rfl rfl rfl (Nat.le_of_ble_eq_true rfl) dX0_init_25 (mk_setT hk) ?_
  refine nw_aload_n C dX0_init_28 rfl 0 rfl ?_
  refine nw_new (ci := 9) (fs := [.int 0, .int 0, .null, .int 0]) C in_X9 tyX9 tyX9_ok tw_324 tw_159 tw_124 rfl (fun j h => match j, h with | 0, _ => rfl | 1, _ => rfl | 2, _ => rfl | 3, _ => rfl | j + 4, h => absurd h (by omega)) (Nat.le_of_ble_eq_true rfl) (Nat.le_of_ble_eq_true rfl) dX0_init_29 (fun q2 => nw_ws mk_app ?_)
  refine nw_dup C dX0_init_32 rfl ?_
  refine nw_iconst (v := 3) C dX0_init_33 (by decide) ?_
  refine nw_sipush (v := 1200) C dX0_init_34 (by decide) ?_
  refine nw_callI (As := [.int 3, .int 1200]) (rest := [.ref q2, .ref b]) C (c_Table_init (w := 3) (l0 := 1200) (N := 12) ((mk_new 2).trans rfl) (by decide) (by decide) (Nat.le_of_ble_eq_true rfl)) tw_325 tw_161 tw_124 tw_162 rfl (by decide +kernel) (n := 2) (by decide +kernel) ⟨Nat.le_of_ble_eq_true rfl, Nat.le_of_ble_eq_true rfl⟩ ⟨Nat.le_of_ble_eq_true rfl, Nat.le_of_ble_eq_true rfl⟩ rfl dX0_init_37 rfl (Nat.le_of_ble_eq_true rfl) ?_
  rintro _ _ ⟨rfl, q3, rfl⟩
  refine nw_ws (ws' := mkW ws k (b, .inr (0, [.ref q0, .null, .ref b0, .ref b1])) [(q0, .inr (9, [.int 5, .int 20, .ref q1, .int 0])), (q1, .inl (gI g, 20, .inl (fun _ => 0))), (q2, .inr (9, [.int 3, .int 1200, .ref q3, .int 0])), (q3, .inl (gI g, 12, .inl (fun _ => 0)))]) (mk_in.trans rfl) ?_
  refine nw_putF C in_X0 _ (mk_this hk) rfl 1 (by decide) tyX0 tyX0_ok nmX0 tw_328 rfl rfl hnm rfl rfl rfl (Nat.le_of_ble_eq_true rfl) dX0_init_40 (mk_setT hk) ?_
  exact nw_vret C hr dX0_init_43 (Nat.le_of_ble_eq_true rfl) (Nat.le_of_ble_eq_true rfl) ⟨rfl, q0, q1, q2, q3, rfl⟩
theorem dX1_init_0 : decode cX1_init 0 = .ok (.aload_n 0, 1) := by decide +kernel
theorem dX1_init_1 : decode cX1_init 1 = .ok (.invokespecial 3, 3) := by decide +kernel
theorem dX1_init_4 : decode cX1_init 4 = .ok (.aload_n 0, 1) := by decide +kernel
theorem dX1_init_5 : decode cX1_init 5 = .ok (.aload_n 1, 1) := by decide +kernel
theorem dX1_init_6 : decode cX1_init 6 = .ok (.putfield 9, 3) := by decide +kernel
theorem dX1_init_9 : decode cX1_init 9 = .ok (.aload_n 0, 1) := by decide +kernel
theorem dX1_init_10 : decode cX1_init 10 = .ok (.aload_n 2, 1) := by decide +kernel
theorem dX1_init_11 : decode cX1_init 11 = .ok (.putfield 15, 3) := by decide +kernel
theorem dX1_init_14 : decode cX1_init 14 = .ok (.aload_n 0, 1) := by decide +kernel
theorem dX1_init_15 : decode cX1_init 15 = .ok (.aload_n 3, 1) := by decide +kernel
theorem dX1_init_16 : decode cX1_init 16 = .ok (.putfield 19, 3) := by decide +kernel
theorem dX1_init_19 : decode cX1_init 19 = .ok (.aload_n 0, 1) := by decide +kernel
theorem dX1_init_20 : decode cX1_init 20 = .ok (.aload 4, 2) := by decide +kernel
theorem dX1_init_22 : decode cX1_init 22 = .ok (.putfield 23, 3) := by decide +kernel
theorem dX1_init_25 : decode cX1_init 25 = .ok (.aload_n 0, 1) := by decide +kernel
theorem dX1_init_26 : decode cX1_init 26 = .ok (.new 27, 3) := by decide +kernel
theorem dX1_init_29 : decode cX1_init 29 = .ok (.dup, 1) := by decide +kernel
theorem dX1_init_30 : decode cX1_init 30 = .ok (.bipush 6, 2) := by decide +kernel
theorem dX1_init_32 : decode cX1_init 32 = .ok (.bipush 6, 2) := by decide +kernel
theorem dX1_init_34 : decode cX1_init 34 = .ok (.invokespecial 29, 3) := by decide +kernel
theorem dX1_init_37 : decode cX1_init 37 = .ok (.putfield 32, 3) := by decide +kernel
theorem dX1_init_40 : decode cX1_init 40 = .ok (.aload_n 0, 1) := by decide +kernel
theorem dX1_init_41 : decode cX1_init 41 = .ok (.new 27, 3) := by decide +kernel
theorem dX1_init_44 : decode cX1_init 44 = .ok (.dup, 1) := by decide +kernel
theorem dX1_init_45 : decode cX1_init 45 = .ok (.bipush 7, 2) := by decide +kernel
theorem dX1_init_47 : decode cX1_init 47 = .ok (.bipush 60, 2) := by decide +kernel
theorem dX1_init_49 : decode cX1_init 49 = .ok (.invokespecial 29, 3) := by decide +kernel
theorem dX1_init_52 : decode cX1_init 52 = .ok (.putfield 36, 3) := by decide +kernel
theorem dX1_init_55 : decode cX1_init 55 = .ok (.aload_n 0, 1) := by decide +kernel
theorem dX1_init_56 : decode cX1_init 56 = .ok (.new 27, 3) := by decide +kernel
theorem dX1_init_59 : decode cX1_init 59 = .ok (.dup, 1) := by decide +kernel
theorem dX1_init_60 : decode cX1_init 60 = .ok (.bipush 13, 2) := by decide +kernel
theorem dX1_init_62 : decode cX1_init 62 = .ok (.bipush 40, 2) := by decide +kernel
theorem dX1_init_64 : decode cX1_init 64 = .ok (.invokespecial 29, 3) := by decide +kernel
theorem dX1_init_67 : decode cX1_init 67 = .ok (.putfield 39, 3) := by decide +kernel
theorem dX1_init_70 : decode cX1_init 70 = .ok (.aload_n 0, 1) := by decide +kernel
theorem dX1_init_71 : decode cX1_init 71 = .ok (.new 27, 3) := by decide +kernel
theorem dX1_init_74 : decode cX1_init 74 = .ok (.dup, 1) := by decide +kernel
theorem dX1_init_75 : decode cX1_init 75 = .ok (.bipush 6, 2) := by decide +kernel
theorem dX1_init_77 : decode cX1_init 77 = .ok (.iconst 1, 1) := by decide +kernel
theorem dX1_init_78 : decode cX1_init 78 = .ok (.invokespecial 29, 3) := by decide +kernel
theorem dX1_init_81 : decode cX1_init 81 = .ok (.putfield 42, 3) := by decide +kernel
theorem dX1_init_84 : decode cX1_init 84 = .ok (.aload_n 0, 1) := by decide +kernel
theorem dX1_init_85 : decode cX1_init 85 = .ok (.getfield 42, 3) := by decide +kernel
theorem dX1_init_88 : decode cX1_init 88 = .ok (.invokevirtual 45, 3) := by decide +kernel
theorem dX1_init_91 : decode cX1_init 91 = .ok (.pop, 1) := by decide +kernel
theorem dX1_init_92 : decode cX1_init 92 = .ok (.aload_n 0, 1) := by decide +kernel
theorem dX1_init_93 : decode cX1_init 93 = .ok (.iconst 3, 1) := by decide +kernel
theorem dX1_init_94 : decode cX1_init 94 = .ok (.newarray .int, 2) := by decide +kernel
theorem dX1_init_96 : decode cX1_init 96 = .ok (.putfield 49, 3) := by decide +kernel
theorem dX1_init_99 : decode cX1_init 99 = .ok (.return_, 1) := by decide +kernel
theorem c_Courts_init {l : Launch} {ws : va_W} {k b b0 b1 b2 b3 : Nat} (he : ws[k]? = some (b, .inr (1, [.null, .null, .null, .null, .null, .null, .null, .null, .null, .int 0, .int 0, .int 0, .int 0]))) :
    Ct l g yX1_init (.code yX1_init cX1_init 5 none) 4 322 9 147 ws [.ref b, .ref b0, .ref b1, .ref b2, .ref b3] (fun v ws' => v = none ∧ ∃ q0 q1 q2 q3 q4 q5 q6 q7 q8 : Nat, ws' = mkW ws k (b, .inr (1, [.ref q0, .ref q2, .ref q4, .ref b0, .ref b1, .ref b2, .ref b3, .ref q6, .ref q8, .int 0, .int 0, .int 0, .int 0])) [(q0, .inr (9, [.int 6, .int 6, .ref q1, .int 0])), (q1, .inl (gI g, 24, .inl (fun _ => 0))), (q2, .inr (9, [.int 7, .int 60, .ref q3, .int 0])), (q3, .inl (gI g, 28, .inl (fun _ => 0))), (q4, .inr (9, [.int 13, .int 40, .ref q5, .int 0])), (q5, .inl (gI g, 52, .inl (fun _ => 0))), (q6, .inr (9, [.int 6, .int 1, .ref q7, .int 1])), (q7, .inl (gI g, 24, .inl fF)), (q8, .inl (gI g, 3, .inl (fun _ => 0)))]) 9 147 := by
  refine Ct.ofI rfl (by decide) (Nat.le_of_ble_eq_true rfl) ?_
  intro p e s m args below meth c A C hr hnm
  have hk := mk_lt he
  refine nw_ws (mk_0 he) ?_
  refine nw_aload_n C dX1_init_0 rfl 0 rfl ?_
  refine nw_obj C tw_345 tw_156 tm_obj dX1_init_1 (Nat.le_of_ble_eq_true rfl) (Nat.le_of_ble_eq_true rfl) (Nat.le_of_ble_eq_true rfl) ?_
  refine nw_aload_n C dX1_init_4 rfl 0 rfl ?_
  refine nw_aload_n C dX1_init_5 rfl 1 rfl ?_
  refine nw_putF C in_X1 _ (mk_this hk) rfl 3 (by decide) tyX1 tyX1_ok nmX1 tw_382 rfl rfl hnm rfl rfl rfl (Nat.le_of_ble_eq_true rfl) dX1_init_6 (mk_setT hk) ?_
  refine nw_aload_n C dX1_init_9 rfl 0 rfl ?_
  refine nw_aload_n C dX1_init_10 rfl 2 rfl ?_
  refine nw_putF C in_X1 _ (mk_this hk) rfl 4 (by decide) tyX1 tyX1_ok nmX1 tw_383 rfl rfl hnm rfl rfl rfl (Nat.le_of_ble_eq_true rfl) dX1_init_11 (mk_setT hk) ?_
  refine nw_aload_n C dX1_init_14 rfl 0 rfl ?_
  refine nw_aload_n C dX1_init_15 rfl 3 rfl ?_
  refine nw_putF C in_X1 _ (mk_this hk) rfl 5 (by decide) tyX1 tyX1_ok nmX1 tw_384 rfl rfl hnm rfl rfl rfl (Nat.le_of_ble_eq_true rfl) dX1_init_16 (mk_setT hk) ?_
  refine nw_aload_n C dX1_init_19 rfl 0 rfl ?_
  refine nw_aload C dX1_init_20 4 rfl ?_
  refine nw_putF C in_X1 _ (mk_this hk) rfl 6 (by decide) tyX1 tyX1_ok nmX1 tw_385 rfl rfl hnm rfl rfl rfl (Nat.le_of_ble_eq_true rfl) dX1_init_22 (mk_setT hk) ?_
  refine nw_aload_n C dX1_init_25 rfl 0 rfl ?_
  refine nw_new (ci := 9) (fs := [.int 0, .int 0, .null, .int 0]) C in_X9 tyX9 tyX9_ok tw_346 tw_159 tw_124 rfl (fun j h => match j, h with | 0, _ => rfl | 1, _ => rfl | 2, _ => rfl | 3, _ => rfl | j + 4, h => absurd h (by omega)) (Nat.le_of_ble_eq_true rfl) (Nat.le_of_ble_eq_true rfl) dX1_init_26 (fun q0 => nw_ws mk_app ?_)
  refine nw_dup C dX1_init_29 rfl ?_
  refine nw_bipush (v := 6) C dX1_init_30 (by decide) ?_
  refine nw_bipush (v := 6) C dX1_init_32 (by decide) ?_
  refine nw_callI (As := [.int 6, .int 6]) (rest := [.ref q0, .ref b]) C (c_Table_init (w := 6) (l0 := 6) (N := 24) ((mk_new 0).trans rfl) (by decide) (by decide) (Nat.le_of_ble_eq_true rfl)) tw_347 tw_161 tw_124 tw_162 rfl (by decide +kernel) (n := 2) (by decide +kernel) ⟨Nat.le_of_ble_eq_true rfl, Nat.le_of_ble_eq_true rfl⟩ ⟨Nat.le_of_ble_eq_true rfl, Nat.le_of_ble_eq_true rfl⟩ rfl dX1_init_34 rfl (Nat.le_of_ble_eq_true rfl) ?_
  rintro _ _ ⟨rfl, q1, rfl⟩
  refine nw_ws (ws' := mkW ws k (b, .inr (1, [.null, .null, .null, .ref b0, .ref b1, .ref b2, .ref b3, .null, .null, .int 0, .int 0, .int 0, .int 0])) [(q0, .inr (9, [.int 6, .int 6, .ref q1, .int 0])), (q1, .inl (gI g, 24, .inl (fun _ => 0)))]) (mk_in.trans rfl) ?_
  refine nw_putF C in_X1 _ (mk_this hk) rfl 0 (by decide) tyX1 tyX1_ok nmX1 tw_376 rfl rfl hnm rfl rfl rfl (Nat.le_of_ble_eq_true rfl) dX1_init_37 (mk_setT hk) ?_
  refine nw_aload_n C dX1_init_40 rfl 0 rfl ?_
  refine nw_new (ci := 9) (fs := [.int 0, .int 0, .null, .int 0]) C in_X9 tyX9 tyX9_ok tw_346 tw_159 tw_124 rfl (fun j h => match j, h with | 0, _ => rfl | 1, _ => rfl | 2, _ => rfl | 3, _ => rfl | j + 4, h => absurd h (by omega)) (Nat.le_of_ble_eq_true rfl) (Nat.le_of_ble_eq_true rfl) dX1_init_41 (fun q2 => nw_ws mk_app ?_)
  refine nw_dup C dX1_init_44 rfl ?_
  refine nw_bipush (v := 7) C dX1_init_45 (by decide) ?_
  refine nw_bipush (v := 60) C dX1_init_47 (by decide) ?_
  refine nw_callI (As := [.int 7, .int 60]) (rest := [.ref q2, .ref b]) C (c_Table_init (w := 7) (l0 := 60) (N := 28) ((mk_new 2).trans rfl) (by decide) (by decide) (Nat.le_of_ble_eq_true rfl)) tw_347 tw_161 tw_124 tw_162 rfl (by decide +kernel) (n := 2) (by decide +kernel) ⟨Nat.le_of_ble_eq_true rfl, Nat.le_of_ble_eq_true rfl⟩ ⟨Nat.le_of_ble_eq_true rfl, Nat.le_of_ble_eq_true rfl⟩ rfl dX1_init_49 rfl (Nat.le_of_ble_eq_true rfl) ?_
  rintro _ _ ⟨rfl, q3, rfl⟩
  refine nw_ws (ws' := mkW ws k (b, .inr (1, [.ref q0, .null, .null, .ref b0, .ref b1, .ref b2, .ref b3, .null, .null, .int 0, .int 0, .int 0, .int 0])) [(q0, .inr (9, [.int 6, .int 6, .ref q1, .int 0])), (q1, .inl (gI g, 24, .inl (fun _ => 0))), (q2, .inr (9, [.int 7, .int 60, .ref q3, .int 0])), (q3, .inl (gI g, 28, .inl (fun _ => 0)))]) (mk_in.trans rfl) ?_
  refine nw_putF C in_X1 _ (mk_this hk) rfl 1 (by decide) tyX1 tyX1_ok nmX1 tw_378 rfl rfl hnm rfl rfl rfl (Nat.le_of_ble_eq_true rfl) dX1_init_52 (mk_setT hk) ?_
  refine nw_aload_n C dX1_init_55 rfl 0 rfl ?_
  refine nw_new (ci := 9) (fs := [.int 0, .int 0, .null, .int 0]) C in_X9 tyX9 tyX9_ok tw_346 tw_159 tw_124 rfl (fun j h => match j, h with | 0, _ => rfl | 1, _ => rfl | 2, _ => rfl | 3, _ => rfl | j + 4, h => absurd h (by omega)) (Nat.le_of_ble_eq_true rfl) (Nat.le_of_ble_eq_true rfl) dX1_init_56 (fun q4 => nw_ws mk_app ?_)
  refine nw_dup C dX1_init_59 rfl ?_
  refine nw_bipush (v := 13) C dX1_init_60 (by decide) ?_
  refine nw_bipush (v := 40) C dX1_init_62 (by decide) ?_
  refine nw_callI (As := [.int 13, .int 40]) (rest := [.ref q4, .ref b]) C (c_Table_init (w := 13) (l0 := 40) (N := 52) ((mk_new 4).trans rfl) (by decide) (by decide) (Nat.le_of_ble_eq_true rfl)) tw_347 tw_161 tw_124 tw_162 rfl (by decide +kernel) (n := 2) (by decide +kernel) ⟨Nat.le_of_ble_eq_true rfl, Nat.le_of_ble_eq_true rfl⟩ ⟨Nat.le_of_ble_eq_true rfl, Nat.le_of_ble_eq_true rfl⟩ rfl dX1_init_64 rfl (Nat.le_of_ble_eq_true rfl) ?_
  rintro _ _ ⟨rfl, q5, rfl⟩
  refine nw_ws (ws' := mkW ws k (b, .inr (1, [.ref q0, .ref q2, .null, .ref b0, .ref b1, .ref b2, .ref b3, .null, .null, .int 0, .int 0, .int 0, .int 0])) [(q0, .inr (9, [.int 6, .int 6, .ref q1, .int 0])), (q1, .inl (gI g, 24, .inl (fun _ => 0))), (q2, .inr (9, [.int 7, .int 60, .ref q3, .int 0])), (q3, .inl (gI g, 28, .inl (fun _ => 0))), (q4, .inr (9, [.int 13, .int 40, .ref q5, .int 0])), (q5, .inl (gI g, 52, .inl (fun _ => 0)))]) (mk_in.trans rfl) ?_
  refine nw_putF C in_X1 _ (mk_this hk) rfl 2 (by decide) tyX1 tyX1_ok nmX1 tw_380 rfl rfl hnm rfl rfl rfl (Nat.le_of_ble_eq_true rfl) dX1_init_67 (mk_setT hk) ?_
  refine nw_aload_n C dX1_init_70 rfl 0 rfl ?_
  refine nw_new (ci := 9) (fs := [.int 0, .int 0, .null, .int 0]) C in_X9 tyX9 tyX9_ok tw_346 tw_159 tw_124 rfl (fun j h => match j, h with | 0, _ => rfl | 1, _ => rfl | 2, _ => rfl | 3, _ => rfl | j + 4, h => absurd h (by omega)) (Nat.le_of_ble_eq_true rfl) (Nat.le_of_ble_eq_true rfl) dX1_init_71 (fun q6 => nw_ws mk_app ?_)
  refine nw_dup C dX1_init_74 rfl ?_
  refine nw_bipush (v := 6) C dX1_init_75 (by decide) ?_
  refine nw_iconst (v := 1) C dX1_init_77 (by decide) ?_
  refine nw_callI (As := [.int 6, .int 1]) (rest := [.ref q6, .ref b]) C (c_Table_init (w := 6) (l0 := 1) (N := 24) ((mk_new 6).trans rfl) (by decide) (by decide) (Nat.le_of_ble_eq_true rfl)) tw_347 tw_161 tw_124 tw_162 rfl (by decide +kernel) (n := 2) (by decide +kernel) ⟨Nat.le_of_ble_eq_true rfl, Nat.le_of_ble_eq_true rfl⟩ ⟨Nat.le_of_ble_eq_true rfl, Nat.le_of_ble_eq_true rfl⟩ rfl dX1_init_78 rfl (Nat.le_of_ble_eq_true rfl) ?_
  rintro _ _ ⟨rfl, q7, rfl⟩
  refine nw_ws (ws' := mkW ws k (b, .inr (1, [.ref q0, .ref q2, .ref q4, .ref b0, .ref b1, .ref b2, .ref b3, .null, .null, .int 0, .int 0, .int 0, .int 0])) [(q0, .inr (9, [.int 6, .int 6, .ref q1, .int 0])), (q1, .inl (gI g, 24, .inl (fun _ => 0))), (q2, .inr (9, [.int 7, .int 60, .ref q3, .int 0])), (q3, .inl (gI g, 28, .inl (fun _ => 0))), (q4, .inr (9, [.int 13, .int 40, .ref q5, .int 0])), (q5, .inl (gI g, 52, .inl (fun _ => 0))), (q6, .inr (9, [.int 6, .int 1, .ref q7, .int 0])), (q7, .inl (gI g, 24, .inl (fun _ => 0)))]) (mk_in.trans rfl) ?_
  refine nw_putF C in_X1 _ (mk_this hk) rfl 7 (by decide) tyX1 tyX1_ok nmX1 tw_386 rfl rfl hnm rfl rfl rfl (Nat.le_of_ble_eq_true rfl) dX1_init_81 (mk_setT hk) ?_
  refine nw_aload_n C dX1_init_84 rfl 0 rfl ?_
  refine nw_get (v := .ref q6) C in_X1 _ (mk_this hk) rfl 7 (by decide) tw_386 rfl rfl dX1_init_85 ?_
  refine nw_callV (q0 := ws.length + 6) (As := []) (rest := []) C (c_Table_add0 (i := ws.length + 6) (j := ws.length + 7) (by omega) ((mk_new 6).trans rfl) ((mk_new 7).trans rfl)) tw_348 kv_X9_add.1 kv_X9_add.2.1 kv_X9_add.2.2.1 kv_X9_add.2.2.2.1 kv_X9_add.2.2.2.2.1 kv_X9_add.2.2.2.2.2 ((mk_new 6).trans rfl) rfl ⟨Nat.le_of_ble_eq_true rfl, Nat.le_of_ble_eq_true rfl⟩ ⟨Nat.le_of_ble_eq_true rfl, Nat.le_of_ble_eq_true rfl⟩ rfl dX1_init_88 rfl (Nat.le_of_ble_eq_true rfl) ?_
  rintro _ _ ⟨rfl, rfl⟩
  refine nw_ws (ws' := mkW ws k (b, .inr (1, [.ref q0, .ref q2, .ref q4, .ref b0, .ref b1, .ref b2, .ref b3, .ref q6, .null, .int 0, .int 0, .int 0, .int 0])) [(q0, .inr (9, [.int 6, .int 6, .ref q1, .int 0])), (q1, .inl (gI g, 24, .inl (fun _ => 0))), (q2, .inr (9, [.int 7, .int 60, .ref q3, .int 0])), (q3, .inl (gI g, 28, .inl (fun _ => 0))), (q4, .inr (9, [.int 13, .int 40, .ref q5, .int 0])), (q5, .inl (gI g, 52, .inl (fun _ => 0))), (q6, .inr (9, [.int 6, .int 1, .ref q7, .int 1])), (q7, .inl (gI g, 24, .inl fF))]) (by unfold tf2; rw [mk_setN, mk_setN]; rfl) ?_
  refine nw_pop C dX1_init_91 rfl ?_
  refine nw_aload_n C dX1_init_92 rfl 0 rfl ?_
  refine nw_iconst (v := 3) C dX1_init_93 (by decide) ?_
  refine nw_newI (N' := 3) C tw_180 (by decide) (by decide) (Nat.le_of_ble_eq_true rfl) (Nat.le_of_ble_eq_true rfl) (Nat.le_of_ble_eq_true rfl) dX1_init_94 (fun q8 => nw_ws mk_app ?_)
  refine nw_putF C in_X1 _ (mk_this hk) rfl 8 (by decide) tyX1 tyX1_ok nmX1 tw_387 rfl rfl hnm rfl rfl rfl (Nat.le_of_ble_eq_true rfl) dX1_init_96 (mk_setT hk) ?_
  exact nw_vret C hr dX1_init_99 (Nat.le_of_ble_eq_true rfl) (Nat.le_of_ble_eq_true rfl) ⟨rfl, q0, q1, q2, q3, q4, q5, q6, q7, q8, rfl⟩
theorem dX7_init_0 : decode cX7_init 0 = .ok (.aload_n 0, 1) := by decide +kernel
theorem dX7_init_1 : decode cX7_init 1 = .ok (.invokespecial 3, 3) := by decide +kernel
theorem dX7_init_4 : decode cX7_init 4 = .ok (.aload_n 0, 1) := by decide +kernel
theorem dX7_init_5 : decode cX7_init 5 = .ok (.new 9, 3) := by decide +kernel
theorem dX7_init_8 : decode cX7_init 8 = .ok (.dup, 1) := by decide +kernel
theorem dX7_init_9 : decode cX7_init 9 = .ok (.iconst 3, 1) := by decide +kernel
theorem dX7_init_10 : decode cX7_init 10 = .ok (.bipush 32, 2) := by decide +kernel
theorem dX7_init_12 : decode cX7_init 12 = .ok (.invokespecial 13, 3) := by decide +kernel
theorem dX7_init_15 : decode cX7_init 15 = .ok (.putfield 16, 3) := by decide +kernel
theorem dX7_init_18 : decode cX7_init 18 = .ok (.aload_n 0, 1) := by decide +kernel
theorem dX7_init_19 : decode cX7_init 19 = .ok (.bipush 8, 2) := by decide +kernel
theorem dX7_init_21 : decode cX7_init 21 = .ok (.newarray .int, 2) := by decide +kernel
theorem dX7_init_23 : decode cX7_init 23 = .ok (.putfield 20, 3) := by decide +kernel
theorem dX7_init_26 : decode cX7_init 26 = .ok (.aload_n 0, 1) := by decide +kernel
theorem dX7_init_27 : decode cX7_init 27 = .ok (.bipush 64, 2) := by decide +kernel
theorem dX7_init_29 : decode cX7_init 29 = .ok (.newarray .int, 2) := by decide +kernel
theorem dX7_init_31 : decode cX7_init 31 = .ok (.putfield 24, 3) := by decide +kernel
theorem dX7_init_34 : decode cX7_init 34 = .ok (.aload_n 0, 1) := by decide +kernel
theorem dX7_init_35 : decode cX7_init 35 = .ok (.sipush 256, 3) := by decide +kernel
theorem dX7_init_38 : decode cX7_init 38 = .ok (.newarray .int, 2) := by decide +kernel
theorem dX7_init_40 : decode cX7_init 40 = .ok (.putfield 27, 3) := by decide +kernel
theorem dX7_init_43 : decode cX7_init 43 = .ok (.aload_n 0, 1) := by decide +kernel
theorem dX7_init_44 : decode cX7_init 44 = .ok (.bipush 8, 2) := by decide +kernel
theorem dX7_init_46 : decode cX7_init 46 = .ok (.newarray .int, 2) := by decide +kernel
theorem dX7_init_48 : decode cX7_init 48 = .ok (.putfield 30, 3) := by decide +kernel
theorem dX7_init_51 : decode cX7_init 51 = .ok (.return_, 1) := by decide +kernel
theorem c_Rolls_init {l : Launch} {ws : va_W} {k b : Nat} (he : ws[k]? = some (b, .inr (7, [.null, .null, .null, .null, .null, .int 0, .int 0, .int 0]))) :
    Ct l g yX7_init (.code yX7_init cX7_init 1 none) 2 62 6 352 ws [.ref b] (fun v ws' => v = none ∧ ∃ q0 q1 q2 q3 q4 q5 : Nat, ws' = mkW ws k (b, .inr (7, [.ref q0, .ref q2, .ref q3, .ref q4, .ref q5, .int 0, .int 0, .int 0])) [(q0, .inr (9, [.int 3, .int 32, .ref q1, .int 0])), (q1, .inl (gI g, 12, .inl (fun _ => 0))), (q2, .inl (gI g, 8, .inl (fun _ => 0))), (q3, .inl (gI g, 64, .inl (fun _ => 0))), (q4, .inl (gI g, 256, .inl (fun _ => 0))), (q5, .inl (gI g, 8, .inl (fun _ => 0)))]) 6 352 := by
  refine Ct.ofI rfl (by decide) (Nat.le_of_ble_eq_true rfl) ?_
  intro p e s m args below meth c A C hr hnm
  have hk := mk_lt he
  refine nw_ws (mk_0 he) ?_
  refine nw_aload_n C dX7_init_0 rfl 0 rfl ?_
  refine nw_obj C tw_426 tw_156 tm_obj dX7_init_1 (Nat.le_of_ble_eq_true rfl) (Nat.le_of_ble_eq_true rfl) (Nat.le_of_ble_eq_true rfl) ?_
  refine nw_aload_n C dX7_init_4 rfl 0 rfl ?_
  refine nw_new (ci := 9) (fs := [.int 0, .int 0, .null, .int 0]) C in_X9 tyX9 tyX9_ok tw_427 tw_159 tw_124 rfl (fun j h => match j, h with | 0, _ => rfl | 1, _ => rfl | 2, _ => rfl | 3, _ => rfl | j + 4, h => absurd h (by omega)) (Nat.le_of_ble_eq_true rfl) (Nat.le_of_ble_eq_true rfl) dX7_init_5 (fun q0 => nw_ws mk_app ?_)
  refine nw_dup C dX7_init_8 rfl ?_
  refine nw_iconst (v := 3) C dX7_init_9 (by decide) ?_
  refine nw_bipush (v := 32) C dX7_init_10 (by decide) ?_
  refine nw_callI (As := [.int 3, .int 32]) (rest := [.ref q0, .ref b]) C (c_Table_init (w := 3) (l0 := 32) (N := 12) ((mk_new 0).trans rfl) (by decide) (by decide) (Nat.le_of_ble_eq_true rfl)) tw_428 tw_161 tw_124 tw_162 rfl (by decide +kernel) (n := 2) (by decide +kernel) ⟨Nat.le_of_ble_eq_true rfl, Nat.le_of_ble_eq_true rfl⟩ ⟨Nat.le_of_ble_eq_true rfl, Nat.le_of_ble_eq_true rfl⟩ rfl dX7_init_12 rfl (Nat.le_of_ble_eq_true rfl) ?_
  rintro _ _ ⟨rfl, q1, rfl⟩
  refine nw_ws (ws' := mkW ws k (b, .inr (7, [.null, .null, .null, .null, .null, .int 0, .int 0, .int 0])) [(q0, .inr (9, [.int 3, .int 32, .ref q1, .int 0])), (q1, .inl (gI g, 12, .inl (fun _ => 0)))]) (mk_in.trans rfl) ?_
  refine nw_putF C in_X7 _ (mk_this hk) rfl 0 (by decide) tyX7 tyX7_ok nmX7 tw_429 rfl rfl hnm rfl rfl rfl (Nat.le_of_ble_eq_true rfl) dX7_init_15 (mk_setT hk) ?_
  refine nw_aload_n C dX7_init_18 rfl 0 rfl ?_
  refine nw_bipush (v := 8) C dX7_init_19 (by decide) ?_
  refine nw_newI (N' := 8) C tw_180 (by decide) (by decide) (Nat.le_of_ble_eq_true rfl) (Nat.le_of_ble_eq_true rfl) (Nat.le_of_ble_eq_true rfl) dX7_init_21 (fun q2 => nw_ws mk_app ?_)
  refine nw_putF C in_X7 _ (mk_this hk) rfl 1 (by decide) tyX7 tyX7_ok nmX7 tw_430 rfl rfl hnm rfl rfl rfl (Nat.le_of_ble_eq_true rfl) dX7_init_23 (mk_setT hk) ?_
  refine nw_aload_n C dX7_init_26 rfl 0 rfl ?_
  refine nw_bipush (v := 64) C dX7_init_27 (by decide) ?_
  refine nw_newI (N' := 64) C tw_180 (by decide) (by decide) (Nat.le_of_ble_eq_true rfl) (Nat.le_of_ble_eq_true rfl) (Nat.le_of_ble_eq_true rfl) dX7_init_29 (fun q3 => nw_ws mk_app ?_)
  refine nw_putF C in_X7 _ (mk_this hk) rfl 2 (by decide) tyX7 tyX7_ok nmX7 tw_431 rfl rfl hnm rfl rfl rfl (Nat.le_of_ble_eq_true rfl) dX7_init_31 (mk_setT hk) ?_
  refine nw_aload_n C dX7_init_34 rfl 0 rfl ?_
  refine nw_sipush (v := 256) C dX7_init_35 (by decide) ?_
  refine nw_newI (N' := 256) C tw_180 (by decide) (by decide) (Nat.le_of_ble_eq_true rfl) (Nat.le_of_ble_eq_true rfl) (Nat.le_of_ble_eq_true rfl) dX7_init_38 (fun q4 => nw_ws mk_app ?_)
  refine nw_putF C in_X7 _ (mk_this hk) rfl 3 (by decide) tyX7 tyX7_ok nmX7 tw_432 rfl rfl hnm rfl rfl rfl (Nat.le_of_ble_eq_true rfl) dX7_init_40 (mk_setT hk) ?_
  refine nw_aload_n C dX7_init_43 rfl 0 rfl ?_
  refine nw_bipush (v := 8) C dX7_init_44 (by decide) ?_
  refine nw_newI (N' := 8) C tw_180 (by decide) (by decide) (Nat.le_of_ble_eq_true rfl) (Nat.le_of_ble_eq_true rfl) (Nat.le_of_ble_eq_true rfl) dX7_init_46 (fun q5 => nw_ws mk_app ?_)
  refine nw_putF C in_X7 _ (mk_this hk) rfl 4 (by decide) tyX7 tyX7_ok nmX7 tw_433 rfl rfl hnm rfl rfl rfl (Nat.le_of_ble_eq_true rfl) dX7_init_48 (mk_setT hk) ?_
  exact nw_vret C hr dX7_init_51 (Nat.le_of_ble_eq_true rfl) (Nat.le_of_ble_eq_true rfl) ⟨rfl, q0, q1, q2, q3, q4, q5, rfl⟩
theorem dX4_init_0 : decode cX4_init 0 = .ok (.aload_n 0, 1) := by decide +kernel
theorem dX4_init_1 : decode cX4_init 1 = .ok (.invokespecial 5, 3) := by decide +kernel
theorem dX4_init_4 : decode cX4_init 4 = .ok (.aload_n 0, 1) := by decide +kernel
theorem dX4_init_5 : decode cX4_init 5 = .ok (.aload_n 1, 1) := by decide +kernel
theorem dX4_init_6 : decode cX4_init 6 = .ok (.putfield 11, 3) := by decide +kernel
theorem dX4_init_9 : decode cX4_init 9 = .ok (.aload_n 0, 1) := by decide +kernel
theorem dX4_init_10 : decode cX4_init 10 = .ok (.new 15, 3) := by decide +kernel
theorem dX4_init_13 : decode cX4_init 13 = .ok (.dup, 1) := by decide +kernel
theorem dX4_init_14 : decode cX4_init 14 = .ok (.iconst 3, 1) := by decide +kernel
theorem dX4_init_15 : decode cX4_init 15 = .ok (.bipush 8, 2) := by decide +kernel
theorem dX4_init_17 : decode cX4_init 17 = .ok (.invokespecial 17, 3) := by decide +kernel
theorem dX4_init_20 : decode cX4_init 20 = .ok (.putfield 20, 3) := by decide +kernel
theorem dX4_init_23 : decode cX4_init 23 = .ok (.aload_n 0, 1) := by decide +kernel
theorem dX4_init_24 : decode cX4_init 24 = .ok (.sipush 2048, 3) := by decide +kernel
theorem dX4_init_27 : decode cX4_init 27 = .ok (.newarray .int, 2) := by decide +kernel
theorem dX4_init_29 : decode cX4_init 29 = .ok (.putfield 23, 3) := by decide +kernel
theorem dX4_init_32 : decode cX4_init 32 = .ok (.aload_n 0, 1) := by decide +kernel
theorem dX4_init_33 : decode cX4_init 33 = .ok (.sipush 256, 3) := by decide +kernel
theorem dX4_init_36 : decode cX4_init 36 = .ok (.newarray .boolean, 2) := by decide +kernel
theorem dX4_init_38 : decode cX4_init 38 = .ok (.putfield 27, 3) := by decide +kernel
theorem dX4_init_41 : decode cX4_init 41 = .ok (.aload_n 0, 1) := by decide +kernel
theorem dX4_init_42 : decode cX4_init 42 = .ok (.sipush 256, 3) := by decide +kernel
theorem dX4_init_45 : decode cX4_init 45 = .ok (.newarray .boolean, 2) := by decide +kernel
theorem dX4_init_47 : decode cX4_init 47 = .ok (.putfield 31, 3) := by decide +kernel
theorem dX4_init_50 : decode cX4_init 50 = .ok (.aload_n 0, 1) := by decide +kernel
theorem dX4_init_51 : decode cX4_init 51 = .ok (.bipush 8, 2) := by decide +kernel
theorem dX4_init_53 : decode cX4_init 53 = .ok (.newarray .int, 2) := by decide +kernel
theorem dX4_init_55 : decode cX4_init 55 = .ok (.putfield 34, 3) := by decide +kernel
theorem dX4_init_58 : decode cX4_init 58 = .ok (.aload_n 0, 1) := by decide +kernel
theorem dX4_init_59 : decode cX4_init 59 = .ok (.bipush 8, 2) := by decide +kernel
theorem dX4_init_61 : decode cX4_init 61 = .ok (.newarray .int, 2) := by decide +kernel
theorem dX4_init_63 : decode cX4_init 63 = .ok (.putfield 37, 3) := by decide +kernel
theorem dX4_init_66 : decode cX4_init 66 = .ok (.aload_n 0, 1) := by decide +kernel
theorem dX4_init_67 : decode cX4_init 67 = .ok (.iconst 1, 1) := by decide +kernel
theorem dX4_init_68 : decode cX4_init 68 = .ok (.putfield 40, 3) := by decide +kernel
theorem dX4_init_71 : decode cX4_init 71 = .ok (.return_, 1) := by decide +kernel
theorem c_Patrols_init {l : Launch} {ws : va_W} {k b b0 : Nat} (he : ws[k]? = some (b, .inr (4, [.null, .null, .null, .null, .null, .null, .null, .int 0, .int 0]))) :
    Ct l g yX4_init (.code yX4_init cX4_init 2 none) 2 62 7 2592 ws [.ref b, .ref b0] (fun v ws' => v = none ∧ ∃ q0 q1 q2 q3 q4 q5 q6 : Nat, ws' = mkW ws k (b, .inr (4, [.ref b0, .ref q0, .ref q2, .ref q3, .ref q4, .ref q5, .ref q6, .int 0, .int 1])) [(q0, .inr (9, [.int 3, .int 8, .ref q1, .int 0])), (q1, .inl (gI g, 12, .inl (fun _ => 0))), (q2, .inl (gI g, 2048, .inl (fun _ => 0))), (q3, .inl (gZ g, 256, .inl (fun _ => 0))), (q4, .inl (gZ g, 256, .inl (fun _ => 0))), (q5, .inl (gI g, 8, .inl (fun _ => 0))), (q6, .inl (gI g, 8, .inl (fun _ => 0)))]) 7 2592 := by
  refine Ct.ofI rfl (by decide) (Nat.le_of_ble_eq_true rfl) ?_
  intro p e s m args below meth c A C hr hnm
  have hk := mk_lt he
  refine nw_ws (mk_0 he) ?_
  refine nw_aload_n C dX4_init_0 rfl 0 rfl ?_
  refine nw_obj C tw_459 tw_156 tm_obj dX4_init_1 (Nat.le_of_ble_eq_true rfl) (Nat.le_of_ble_eq_true rfl) (Nat.le_of_ble_eq_true rfl) ?_
  refine nw_aload_n C dX4_init_4 rfl 0 rfl ?_
  refine nw_aload_n C dX4_init_5 rfl 1 rfl ?_
  refine nw_putF C in_X4 _ (mk_this hk) rfl 0 (by decide) tyX4 tyX4_ok nmX4 tw_462 rfl rfl hnm rfl rfl rfl (Nat.le_of_ble_eq_true rfl) dX4_init_6 (mk_setT hk) ?_
  refine nw_aload_n C dX4_init_9 rfl 0 rfl ?_
  refine nw_new (ci := 9) (fs := [.int 0, .int 0, .null, .int 0]) C in_X9 tyX9 tyX9_ok tw_460 tw_159 tw_124 rfl (fun j h => match j, h with | 0, _ => rfl | 1, _ => rfl | 2, _ => rfl | 3, _ => rfl | j + 4, h => absurd h (by omega)) (Nat.le_of_ble_eq_true rfl) (Nat.le_of_ble_eq_true rfl) dX4_init_10 (fun q0 => nw_ws mk_app ?_)
  refine nw_dup C dX4_init_13 rfl ?_
  refine nw_iconst (v := 3) C dX4_init_14 (by decide) ?_
  refine nw_bipush (v := 8) C dX4_init_15 (by decide) ?_
  refine nw_callI (As := [.int 3, .int 8]) (rest := [.ref q0, .ref b]) C (c_Table_init (w := 3) (l0 := 8) (N := 12) ((mk_new 0).trans rfl) (by decide) (by decide) (Nat.le_of_ble_eq_true rfl)) tw_461 tw_161 tw_124 tw_162 rfl (by decide +kernel) (n := 2) (by decide +kernel) ⟨Nat.le_of_ble_eq_true rfl, Nat.le_of_ble_eq_true rfl⟩ ⟨Nat.le_of_ble_eq_true rfl, Nat.le_of_ble_eq_true rfl⟩ rfl dX4_init_17 rfl (Nat.le_of_ble_eq_true rfl) ?_
  rintro _ _ ⟨rfl, q1, rfl⟩
  refine nw_ws (ws' := mkW ws k (b, .inr (4, [.ref b0, .null, .null, .null, .null, .null, .null, .int 0, .int 0])) [(q0, .inr (9, [.int 3, .int 8, .ref q1, .int 0])), (q1, .inl (gI g, 12, .inl (fun _ => 0)))]) (mk_in.trans rfl) ?_
  refine nw_putF C in_X4 _ (mk_this hk) rfl 1 (by decide) tyX4 tyX4_ok nmX4 tw_463 rfl rfl hnm rfl rfl rfl (Nat.le_of_ble_eq_true rfl) dX4_init_20 (mk_setT hk) ?_
  refine nw_aload_n C dX4_init_23 rfl 0 rfl ?_
  refine nw_sipush (v := 2048) C dX4_init_24 (by decide) ?_
  refine nw_newI (N' := 2048) C tw_180 (by decide) (by decide) (Nat.le_of_ble_eq_true rfl) (Nat.le_of_ble_eq_true rfl) (Nat.le_of_ble_eq_true rfl) dX4_init_27 (fun q2 => nw_ws mk_app ?_)
  refine nw_putF C in_X4 _ (mk_this hk) rfl 2 (by decide) tyX4 tyX4_ok nmX4 tw_465 rfl rfl hnm rfl rfl rfl (Nat.le_of_ble_eq_true rfl) dX4_init_29 (mk_setT hk) ?_
  refine nw_aload_n C dX4_init_32 rfl 0 rfl ?_
  refine nw_sipush (v := 256) C dX4_init_33 (by decide) ?_
  refine nw_newZ (N' := 256) C tw_492 (by decide) (by decide) (Nat.le_of_ble_eq_true rfl) (Nat.le_of_ble_eq_true rfl) (Nat.le_of_ble_eq_true rfl) dX4_init_36 (fun q3 => nw_ws mk_app ?_)
  refine nw_putF C in_X4 _ (mk_this hk) rfl 3 (by decide) tyX4 tyX4_ok nmX4 tw_466 rfl rfl hnm rfl rfl rfl (Nat.le_of_ble_eq_true rfl) dX4_init_38 (mk_setT hk) ?_
  refine nw_aload_n C dX4_init_41 rfl 0 rfl ?_
  refine nw_sipush (v := 256) C dX4_init_42 (by decide) ?_
  refine nw_newZ (N' := 256) C tw_492 (by decide) (by decide) (Nat.le_of_ble_eq_true rfl) (Nat.le_of_ble_eq_true rfl) (Nat.le_of_ble_eq_true rfl) dX4_init_45 (fun q4 => nw_ws mk_app ?_)
  refine nw_putF C in_X4 _ (mk_this hk) rfl 4 (by decide) tyX4 tyX4_ok nmX4 tw_467 rfl rfl hnm rfl rfl rfl (Nat.le_of_ble_eq_true rfl) dX4_init_47 (mk_setT hk) ?_
  refine nw_aload_n C dX4_init_50 rfl 0 rfl ?_
  refine nw_bipush (v := 8) C dX4_init_51 (by decide) ?_
  refine nw_newI (N' := 8) C tw_180 (by decide) (by decide) (Nat.le_of_ble_eq_true rfl) (Nat.le_of_ble_eq_true rfl) (Nat.le_of_ble_eq_true rfl) dX4_init_53 (fun q5 => nw_ws mk_app ?_)
  refine nw_putF C in_X4 _ (mk_this hk) rfl 5 (by decide) tyX4 tyX4_ok nmX4 tw_468 rfl rfl hnm rfl rfl rfl (Nat.le_of_ble_eq_true rfl) dX4_init_55 (mk_setT hk) ?_
  refine nw_aload_n C dX4_init_58 rfl 0 rfl ?_
  refine nw_bipush (v := 8) C dX4_init_59 (by decide) ?_
  refine nw_newI (N' := 8) C tw_180 (by decide) (by decide) (Nat.le_of_ble_eq_true rfl) (Nat.le_of_ble_eq_true rfl) (Nat.le_of_ble_eq_true rfl) dX4_init_61 (fun q6 => nw_ws mk_app ?_)
  refine nw_putF C in_X4 _ (mk_this hk) rfl 6 (by decide) tyX4 tyX4_ok nmX4 tw_469 rfl rfl hnm rfl rfl rfl (Nat.le_of_ble_eq_true rfl) dX4_init_63 (mk_setT hk) ?_
  refine nw_aload_n C dX4_init_66 rfl 0 rfl ?_
  refine nw_iconst (v := 1) C dX4_init_67 (by decide) ?_
  refine nw_put C in_X4 _ (mk_this hk) rfl 8 (by decide) tyX4 tyX4_ok nmX4 tw_472 rfl rfl (tyX4_ok 8 (by decide)) rfl rfl (Nat.le_of_ble_eq_true rfl) dX4_init_68 (mk_setT hk) ?_
  exact nw_vret C hr dX4_init_71 (Nat.le_of_ble_eq_true rfl) (Nat.le_of_ble_eq_true rfl) ⟨rfl, q0, q1, q2, q3, q4, q5, q6, rfl⟩
theorem dX10_init_0 : decode cX10_init 0 = .ok (.aload_n 0, 1) := by decide +kernel
theorem dX10_init_1 : decode cX10_init 1 = .ok (.invokespecial 3, 3) := by decide +kernel
theorem dX10_init_4 : decode cX10_init 4 = .ok (.aload_n 0, 1) := by decide +kernel
theorem dX10_init_5 : decode cX10_init 5 = .ok (.new 9, 3) := by decide +kernel
theorem dX10_init_8 : decode cX10_init 8 = .ok (.dup, 1) := by decide +kernel
theorem dX10_init_9 : decode cX10_init 9 = .ok (.iconst 3, 1) := by decide +kernel
theorem dX10_init_10 : decode cX10_init 10 = .ok (.bipush 6, 2) := by decide +kernel
theorem dX10_init_12 : decode cX10_init 12 = .ok (.invokespecial 11, 3) := by decide +kernel
theorem dX10_init_15 : decode cX10_init 15 = .ok (.putfield 14, 3) := by decide +kernel
theorem dX10_init_18 : decode cX10_init 18 = .ok (.aload_n 0, 1) := by decide +kernel
theorem dX10_init_19 : decode cX10_init 19 = .ok (.new 9, 3) := by decide +kernel
theorem dX10_init_22 : decode cX10_init 22 = .ok (.dup, 1) := by decide +kernel
theorem dX10_init_23 : decode cX10_init 23 = .ok (.iconst 5, 1) := by decide +kernel
theorem dX10_init_24 : decode cX10_init 24 = .ok (.bipush 100, 2) := by decide +kernel
theorem dX10_init_26 : decode cX10_init 26 = .ok (.invokespecial 11, 3) := by decide +kernel
theorem dX10_init_29 : decode cX10_init 29 = .ok (.putfield 20, 3) := by decide +kernel
theorem dX10_init_32 : decode cX10_init 32 = .ok (.return_, 1) := by decide +kernel
theorem c_Woods_init {l : Launch} {ws : va_W} {k b : Nat} (he : ws[k]? = some (b, .inr (10, [.null, .null]))) :
    Ct l g yX10_init (.code yX10_init cX10_init 1 none) 2 62 4 40 ws [.ref b] (fun v ws' => v = none ∧ ∃ q0 q1 q2 q3 : Nat, ws' = mkW ws k (b, .inr (10, [.ref q0, .ref q2])) [(q0, .inr (9, [.int 3, .int 6, .ref q1, .int 0])), (q1, .inl (gI g, 12, .inl (fun _ => 0))), (q2, .inr (9, [.int 5, .int 100, .ref q3, .int 0])), (q3, .inl (gI g, 20, .inl (fun _ => 0)))]) 4 40 := by
  refine Ct.ofI rfl (by decide) (Nat.le_of_ble_eq_true rfl) ?_
  intro p e s m args below meth c A C hr hnm
  have hk := mk_lt he
  refine nw_ws (mk_0 he) ?_
  refine nw_aload_n C dX10_init_0 rfl 0 rfl ?_
  refine nw_obj C tw_498 tw_156 tm_obj dX10_init_1 (Nat.le_of_ble_eq_true rfl) (Nat.le_of_ble_eq_true rfl) (Nat.le_of_ble_eq_true rfl) ?_
  refine nw_aload_n C dX10_init_4 rfl 0 rfl ?_
  refine nw_new (ci := 9) (fs := [.int 0, .int 0, .null, .int 0]) C in_X9 tyX9 tyX9_ok tw_499 tw_159 tw_124 rfl (fun j h => match j, h with | 0, _ => rfl | 1, _ => rfl | 2, _ => rfl | 3, _ => rfl | j + 4, h => absurd h (by omega)) (Nat.le_of_ble_eq_true rfl) (Nat.le_of_ble_eq_true rfl) dX10_init_5 (fun q0 => nw_ws mk_app ?_)
  refine nw_dup C dX10_init_8 rfl ?_
  refine nw_iconst (v := 3) C dX10_init_9 (by decide) ?_
  refine nw_bipush (v := 6) C dX10_init_10 (by decide) ?_
  refine nw_callI (As := [.int 3, .int 6]) (rest := [.ref q0, .ref b]) C (c_Table_init (w := 3) (l0 := 6) (N := 12) ((mk_new 0).trans rfl) (by decide) (by decide) (Nat.le_of_ble_eq_true rfl)) tw_500 tw_161 tw_124 tw_162 rfl (by decide +kernel) (n := 2) (by decide +kernel) ⟨Nat.le_of_ble_eq_true rfl, Nat.le_of_ble_eq_true rfl⟩ ⟨Nat.le_of_ble_eq_true rfl, Nat.le_of_ble_eq_true rfl⟩ rfl dX10_init_12 rfl (Nat.le_of_ble_eq_true rfl) ?_
  rintro _ _ ⟨rfl, q1, rfl⟩
  refine nw_ws (ws' := mkW ws k (b, .inr (10, [.null, .null])) [(q0, .inr (9, [.int 3, .int 6, .ref q1, .int 0])), (q1, .inl (gI g, 12, .inl (fun _ => 0)))]) (mk_in.trans rfl) ?_
  refine nw_putF C in_X10 _ (mk_this hk) rfl 0 (by decide) tyX10 tyX10_ok nmX10 tw_501 rfl rfl hnm rfl rfl rfl (Nat.le_of_ble_eq_true rfl) dX10_init_15 (mk_setT hk) ?_
  refine nw_aload_n C dX10_init_18 rfl 0 rfl ?_
  refine nw_new (ci := 9) (fs := [.int 0, .int 0, .null, .int 0]) C in_X9 tyX9 tyX9_ok tw_499 tw_159 tw_124 rfl (fun j h => match j, h with | 0, _ => rfl | 1, _ => rfl | 2, _ => rfl | 3, _ => rfl | j + 4, h => absurd h (by omega)) (Nat.le_of_ble_eq_true rfl) (Nat.le_of_ble_eq_true rfl) dX10_init_19 (fun q2 => nw_ws mk_app ?_)
  refine nw_dup C dX10_init_22 rfl ?_
  refine nw_iconst (v := 5) C dX10_init_23 (by decide) ?_
  refine nw_bipush (v := 100) C dX10_init_24 (by decide) ?_
  refine nw_callI (As := [.int 5, .int 100]) (rest := [.ref q2, .ref b]) C (c_Table_init (w := 5) (l0 := 100) (N := 20) ((mk_new 2).trans rfl) (by decide) (by decide) (Nat.le_of_ble_eq_true rfl)) tw_500 tw_161 tw_124 tw_162 rfl (by decide +kernel) (n := 2) (by decide +kernel) ⟨Nat.le_of_ble_eq_true rfl, Nat.le_of_ble_eq_true rfl⟩ ⟨Nat.le_of_ble_eq_true rfl, Nat.le_of_ble_eq_true rfl⟩ rfl dX10_init_26 rfl (Nat.le_of_ble_eq_true rfl) ?_
  rintro _ _ ⟨rfl, q3, rfl⟩
  refine nw_ws (ws' := mkW ws k (b, .inr (10, [.ref q0, .null])) [(q0, .inr (9, [.int 3, .int 6, .ref q1, .int 0])), (q1, .inl (gI g, 12, .inl (fun _ => 0))), (q2, .inr (9, [.int 5, .int 100, .ref q3, .int 0])), (q3, .inl (gI g, 20, .inl (fun _ => 0)))]) (mk_in.trans rfl) ?_
  refine nw_putF C in_X10 _ (mk_this hk) rfl 1 (by decide) tyX10 tyX10_ok nmX10 tw_503 rfl rfl hnm rfl rfl rfl (Nat.le_of_ble_eq_true rfl) dX10_init_29 (mk_setT hk) ?_
  exact nw_vret C hr dX10_init_32 (Nat.le_of_ble_eq_true rfl) (Nat.le_of_ble_eq_true rfl) ⟨rfl, q0, q1, q2, q3, rfl⟩
theorem dX11_init_0 : decode cX11_init 0 = .ok (.aload_n 0, 1) := by decide +kernel
theorem dX11_init_1 : decode cX11_init 1 = .ok (.invokespecial 1, 3) := by decide +kernel
theorem dX11_init_4 : decode cX11_init 4 = .ok (.aload_n 0, 1) := by decide +kernel
theorem dX11_init_5 : decode cX11_init 5 = .ok (.new 7, 3) := by decide +kernel
theorem dX11_init_8 : decode cX11_init 8 = .ok (.dup, 1) := by decide +kernel
theorem dX11_init_9 : decode cX11_init 9 = .ok (.iconst 1, 1) := by decide +kernel
theorem dX11_init_10 : decode cX11_init 10 = .ok (.sipush 400, 3) := by decide +kernel
theorem dX11_init_13 : decode cX11_init 13 = .ok (.invokespecial 11, 3) := by decide +kernel
theorem dX11_init_16 : decode cX11_init 16 = .ok (.putfield 14, 3) := by decide +kernel
theorem dX11_init_19 : decode cX11_init 19 = .ok (.aload_n 0, 1) := by decide +kernel
theorem dX11_init_20 : decode cX11_init 20 = .ok (.new 18, 3) := by decide +kernel
theorem dX11_init_23 : decode cX11_init 23 = .ok (.dup, 1) := by decide +kernel
theorem dX11_init_24 : decode cX11_init 24 = .ok (.invokespecial 20, 3) := by decide +kernel
theorem dX11_init_27 : decode cX11_init 27 = .ok (.putfield 21, 3) := by decide +kernel
theorem dX11_init_30 : decode cX11_init 30 = .ok (.aload_n 0, 1) := by decide +kernel
theorem dX11_init_31 : decode cX11_init 31 = .ok (.new 25, 3) := by decide +kernel
theorem dX11_init_34 : decode cX11_init 34 = .ok (.dup, 1) := by decide +kernel
theorem dX11_init_35 : decode cX11_init 35 = .ok (.aload_n 0, 1) := by decide +kernel
theorem dX11_init_36 : decode cX11_init 36 = .ok (.getfield 21, 3) := by decide +kernel
theorem dX11_init_39 : decode cX11_init 39 = .ok (.invokespecial 27, 3) := by decide +kernel
theorem dX11_init_42 : decode cX11_init 42 = .ok (.putfield 30, 3) := by decide +kernel
theorem dX11_init_45 : decode cX11_init 45 = .ok (.aload_n 0, 1) := by decide +kernel
theorem dX11_init_46 : decode cX11_init 46 = .ok (.new 34, 3) := by decide +kernel
theorem dX11_init_49 : decode cX11_init 49 = .ok (.dup, 1) := by decide +kernel
theorem dX11_init_50 : decode cX11_init 50 = .ok (.aload_n 0, 1) := by decide +kernel
theorem dX11_init_51 : decode cX11_init 51 = .ok (.getfield 14, 3) := by decide +kernel
theorem dX11_init_54 : decode cX11_init 54 = .ok (.invokespecial 36, 3) := by decide +kernel
theorem dX11_init_57 : decode cX11_init 57 = .ok (.putfield 39, 3) := by decide +kernel
theorem dX11_init_60 : decode cX11_init 60 = .ok (.aload_n 0, 1) := by decide +kernel
theorem dX11_init_61 : decode cX11_init 61 = .ok (.new 43, 3) := by decide +kernel
theorem dX11_init_64 : decode cX11_init 64 = .ok (.dup, 1) := by decide +kernel
theorem dX11_init_65 : decode cX11_init 65 = .ok (.invokespecial 45, 3) := by decide +kernel
theorem dX11_init_68 : decode cX11_init 68 = .ok (.putfield 46, 3) := by decide +kernel
theorem dX11_init_71 : decode cX11_init 71 = .ok (.aload_n 0, 1) := by decide +kernel
theorem dX11_init_72 : decode cX11_init 72 = .ok (.new 50, 3) := by decide +kernel
theorem dX11_init_75 : decode cX11_init 75 = .ok (.dup, 1) := by decide +kernel
theorem dX11_init_76 : decode cX11_init 76 = .ok (.aload_n 0, 1) := by decide +kernel
theorem dX11_init_77 : decode cX11_init 77 = .ok (.getfield 46, 3) := by decide +kernel
theorem dX11_init_80 : decode cX11_init 80 = .ok (.aload_n 0, 1) := by decide +kernel
theorem dX11_init_81 : decode cX11_init 81 = .ok (.getfield 39, 3) := by decide +kernel
theorem dX11_init_84 : decode cX11_init 84 = .ok (.invokespecial 52, 3) := by decide +kernel
theorem dX11_init_87 : decode cX11_init 87 = .ok (.putfield 55, 3) := by decide +kernel
theorem dX11_init_90 : decode cX11_init 90 = .ok (.aload_n 0, 1) := by decide +kernel
theorem dX11_init_91 : decode cX11_init 91 = .ok (.new 59, 3) := by decide +kernel
theorem dX11_init_94 : decode cX11_init 94 = .ok (.dup, 1) := by decide +kernel
theorem dX11_init_95 : decode cX11_init 95 = .ok (.aload_n 0, 1) := by decide +kernel
theorem dX11_init_96 : decode cX11_init 96 = .ok (.getfield 21, 3) := by decide +kernel
theorem dX11_init_99 : decode cX11_init 99 = .ok (.aload_n 0, 1) := by decide +kernel
theorem dX11_init_100 : decode cX11_init 100 = .ok (.getfield 39, 3) := by decide +kernel
theorem dX11_init_103 : decode cX11_init 103 = .ok (.aload_n 0, 1) := by decide +kernel
theorem dX11_init_104 : decode cX11_init 104 = .ok (.getfield 46, 3) := by decide +kernel
theorem dX11_init_107 : decode cX11_init 107 = .ok (.aload_n 0, 1) := by decide +kernel
theorem dX11_init_108 : decode cX11_init 108 = .ok (.getfield 55, 3) := by decide +kernel
theorem dX11_init_111 : decode cX11_init 111 = .ok (.invokespecial 61, 3) := by decide +kernel
theorem dX11_init_114 : decode cX11_init 114 = .ok (.putfield 64, 3) := by decide +kernel
theorem dX11_init_117 : decode cX11_init 117 = .ok (.aload_n 0, 1) := by decide +kernel
theorem dX11_init_118 : decode cX11_init 118 = .ok (.new 68, 3) := by decide +kernel
theorem dX11_init_121 : decode cX11_init 121 = .ok (.dup, 1) := by decide +kernel
theorem dX11_init_122 : decode cX11_init 122 = .ok (.invokespecial 70, 3) := by decide +kernel
theorem dX11_init_125 : decode cX11_init 125 = .ok (.putfield 71, 3) := by decide +kernel
theorem dX11_init_128 : decode cX11_init 128 = .ok (.aload_n 0, 1) := by decide +kernel
theorem dX11_init_129 : decode cX11_init 129 = .ok (.new 75, 3) := by decide +kernel
theorem dX11_init_132 : decode cX11_init 132 = .ok (.dup, 1) := by decide +kernel
theorem dX11_init_133 : decode cX11_init 133 = .ok (.aload_n 0, 1) := by decide +kernel
theorem dX11_init_134 : decode cX11_init 134 = .ok (.getfield 64, 3) := by decide +kernel
theorem dX11_init_137 : decode cX11_init 137 = .ok (.getfield 77, 3) := by decide +kernel
theorem dX11_init_140 : decode cX11_init 140 = .ok (.invokespecial 80, 3) := by decide +kernel
theorem dX11_init_143 : decode cX11_init 143 = .ok (.putfield 81, 3) := by decide +kernel
theorem dX11_init_146 : decode cX11_init 146 = .ok (.aload_n 0, 1) := by decide +kernel
theorem dX11_init_147 : decode cX11_init 147 = .ok (.new 85, 3) := by decide +kernel
theorem dX11_init_150 : decode cX11_init 150 = .ok (.dup, 1) := by decide +kernel
theorem dX11_init_151 : decode cX11_init 151 = .ok (.invokespecial 87, 3) := by decide +kernel
theorem dX11_init_154 : decode cX11_init 154 = .ok (.putfield 88, 3) := by decide +kernel
theorem dX11_init_157 : decode cX11_init 157 = .ok (.return_, 1) := by decide +kernel
theorem c_FC_init {l : Launch} {ws : va_W} {k b : Nat} (he : ws[k]? = some (b, .inr (11, [.null, .null, .null, .null, .null, .null, .null, .null, .null, .null]))) :
    Ct l g yX11_init (.code yX11_init cX11_init 1 none) 5 346 59 3507 ws [.ref b] (fun v ws' => v = none ∧ ∃ q0 q1 q2 q3 q4 q5 q6 q7 q8 q9 q10 q11 q12 q13 q14 q15 q16 q17 q18 q19 q20 q21 q22 q23 q24 q25 q26 q27 q28 q29 q30 q31 q32 q33 q34 q35 q36 q37 q38 q39 q40 q41 q42 q43 q44 q45 q46 q47 q48 q49 q50 q51 q52 q53 q54 q55 q56 q57 q58 : Nat, ws' = mkW ws k (b, .inr (11, [.ref q0, .ref q2, .ref q8, .ref q12, .ref q21, .ref q24, .ref q29, .ref q39, .ref q46, .ref q54])) [(q0, .inr (9, [.int 1, .int 400, .ref q1, .int 0])), (q1, .inl (gI g, 4, .inl (fun _ => 0))), (q2, .inr (2, [.ref q3, .ref q5, .ref q7, .int 0])), (q3, .inr (9, [.int 3, .int 40, .ref q4, .int 0])), (q4, .inl (gI g, 12, .inl (fun _ => 0))), (q5, .inr (9, [.int 13, .int 12, .ref q6, .int 0])), (q6, .inl (gI g, 52, .inl (fun _ => 0))), (q7, .inl (gI g, 10, .inl (fun _ => 0))), (q8, .inr (8, [.ref q2, .ref q9, .ref q10, .ref q11, .int 0, .int 0, .int 0])), (q9, .inl (gI g, 6, .inl (fun _ => 0))), (q10, .inl (gI g, 6, .inl (fun _ => 0))), (q11, .inl (gI g, 6, .inl (fun _ => 0))), (q12, .inr (3, [.ref q13, .ref q15, .ref q17, .ref q19, .ref q20, .int (-1), .int (-1), .int (-1)])), (q13, .inr (9, [.int 7, .int 10, .ref q14, .int 0])), (q14, .inl (gI g, 28, .inl (fun _ => 0))), (q15, .inr (9, [.int 9, .int 120, .ref q16, .int 0])), (q16, .inl (gI g, 36, .inl (fun _ => 0))), (q17, .inr (9, [.int 1, .int 4000, .ref q18, .int 0])), (q18, .inl (gI g, 4, .inl (fun _ => 0))), (q19, .inr (6, [.ref q0, .ref q15, .ref q17, .int 0, .int 0, .int 0, .int 0, .int 0])), (q20, .inl (gI g, 64, .inl (fun _ => 0))), (q21, .inr (5, [.ref q22])), (q22, .inr (9, [.int 4, .int 40, .ref q23, .int 0])), (q23, .inl (gI g, 16, .inl (fun _ => 0))), (q24, .inr (0, [.ref q25, .ref q27, .ref q21, .ref q12])), (q25, .inr (9, [.int 5, .int 20, .ref q26, .int 0])), (q26, .inl (gI g, 20, .inl (fun _ => 0))), (q27, .inr (9, [.int 3, .int 1200, .ref q28, .int 0])), (q28, .inl (gI g, 12, .inl (fun _ => 0))), (q29, .inr (1, [.ref q30, .ref q32, .ref q34, .ref q2, .ref q12, .ref q21, .ref q24, .ref q36, .ref q38, .int 0, .int 0, .int 0, .int 0])), (q30, .inr (9, [.int 6, .int 6, .ref q31, .int 0])), (q31, .inl (gI g, 24, .inl (fun _ => 0))), (q32, .inr (9, [.int 7, .int 60, .ref q33, .int 0])), (q33, .inl (gI g, 28, .inl (fun _ => 0))), (q34, .inr (9, [.int 13, .int 40, .ref q35, .int 0])), (q35, .inl (gI g, 52, .inl (fun _ => 0))), (q36, .inr (9, [.int 6, .int 1, .ref q37, .int 1])), (q37, .inl (gI g, 24, .inl fF)), (q38, .inl (gI g, 3, .inl (fun _ => 0))), (q39, .inr (7, [.ref q40, .ref q42, .ref q43, .ref q44, .ref q45, .int 0, .int 0, .int 0])), (q40, .inr (9, [.int 3, .int 32, .ref q41, .int 0])), (q41, .inl (gI g, 12, .inl (fun _ => 0))), (q42, .inl (gI g, 8, .inl (fun _ => 0))), (q43, .inl (gI g, 64, .inl (fun _ => 0))), (q44, .inl (gI g, 256, .inl (fun _ => 0))), (q45, .inl (gI g, 8, .inl (fun _ => 0))), (q46, .inr (4, [.ref q30, .ref q47, .ref q49, .ref q50, .ref q51, .ref q52, .ref q53, .int 0, .int 1])), (q47, .inr (9, [.int 3, .int 8, .ref q48, .int 0])), (q48, .inl (gI g, 12, .inl (fun _ => 0))), (q49, .inl (gI g, 2048, .inl (fun _ => 0))), (q50, .inl (gZ g, 256, .inl (fun _ => 0))), (q51, .inl (gZ g, 256, .inl (fun _ => 0))), (q52, .inl (gI g, 8, .inl (fun _ => 0))), (q53, .inl (gI g, 8, .inl (fun _ => 0))), (q54, .inr (10, [.ref q55, .ref q57])), (q55, .inr (9, [.int 3, .int 6, .ref q56, .int 0])), (q56, .inl (gI g, 12, .inl (fun _ => 0))), (q57, .inr (9, [.int 5, .int 100, .ref q58, .int 0])), (q58, .inl (gI g, 20, .inl (fun _ => 0)))]) 59 3507 := by
  refine Ct.ofI rfl (by decide) (Nat.le_of_ble_eq_true rfl) ?_
  intro p e s m args below meth c A C hr hnm
  have hk := mk_lt he
  refine nw_ws (mk_0 he) ?_
  refine nw_aload_n C dX11_init_0 rfl 0 rfl ?_
  refine nw_obj C tw_155 tw_156 tm_obj dX11_init_1 (Nat.le_of_ble_eq_true rfl) (Nat.le_of_ble_eq_true rfl) (Nat.le_of_ble_eq_true rfl) ?_
  refine nw_aload_n C dX11_init_4 rfl 0 rfl ?_
  refine nw_new (ci := 9) (fs := [.int 0, .int 0, .null, .int 0]) C in_X9 tyX9 tyX9_ok tw_158 tw_159 tw_124 rfl (fun j h => match j, h with | 0, _ => rfl | 1, _ => rfl | 2, _ => rfl | 3, _ => rfl | j + 4, h => absurd h (by omega)) (Nat.le_of_ble_eq_true rfl) (Nat.le_of_ble_eq_true rfl) dX11_init_5 (fun q0 => nw_ws mk_app ?_)
  refine nw_dup C dX11_init_8 rfl ?_
  refine nw_iconst (v := 1) C dX11_init_9 (by decide) ?_
  refine nw_sipush (v := 400) C dX11_init_10 (by decide) ?_
  refine nw_callI (As := [.int 1, .int 400]) (rest := [.ref q0, .ref b]) C (c_Table_init (w := 1) (l0 := 400) (N := 4) ((mk_new 0).trans rfl) (by decide) (by decide) (Nat.le_of_ble_eq_true rfl)) tw_160 tw_161 tw_124 tw_162 rfl (by decide +kernel) (n := 2) (by decide +kernel) ⟨Nat.le_of_ble_eq_true rfl, Nat.le_of_ble_eq_true rfl⟩ ⟨Nat.le_of_ble_eq_true rfl, Nat.le_of_ble_eq_true rfl⟩ rfl dX11_init_13 rfl (Nat.le_of_ble_eq_true rfl) ?_
  rintro _ _ ⟨rfl, q1, rfl⟩
  refine nw_ws (ws' := mkW ws k (b, .inr (11, [.null, .null, .null, .null, .null, .null, .null, .null, .null, .null])) [(q0, .inr (9, [.int 1, .int 400, .ref q1, .int 0])), (q1, .inl (gI g, 4, .inl (fun _ => 0)))]) (mk_in.trans rfl) ?_
  refine nw_putF C in_X11 _ (mk_this hk) rfl 0 (by decide) tyX11 tyX11_ok nmX11 tw_510 rfl rfl hnm rfl rfl rfl (Nat.le_of_ble_eq_true rfl) dX11_init_16 (mk_setT hk) ?_
  refine nw_aload_n C dX11_init_19 rfl 0 rfl ?_
  refine nw_new (ci := 2) (fs := [.null, .null, .null, .int 0]) C in_X2 tyX2 tyX2_ok tw_181 tw_182 tw_126 rfl (fun j h => match j, h with | 0, _ => rfl | 1, _ => rfl | 2, _ => rfl | 3, _ => rfl | j + 4, h => absurd h (by omega)) (Nat.le_of_ble_eq_true rfl) (Nat.le_of_ble_eq_true rfl) dX11_init_20 (fun q2 => nw_ws mk_app ?_)
  refine nw_dup C dX11_init_23 rfl ?_
  refine nw_callI (As := []) (rest := [.ref q2, .ref b]) C (c_Ground_init ((mk_new 2).trans rfl)) tw_183 tw_184 tw_126 tw_185 rfl (by decide +kernel) (n := 0) (by decide +kernel) ⟨Nat.le_of_ble_eq_true rfl, Nat.le_of_ble_eq_true rfl⟩ ⟨Nat.le_of_ble_eq_true rfl, Nat.le_of_ble_eq_true rfl⟩ rfl dX11_init_24 rfl (Nat.le_of_ble_eq_true rfl) ?_
  rintro _ _ ⟨rfl, q3, q4, q5, q6, q7, rfl⟩
  refine nw_ws (ws' := mkW ws k (b, .inr (11, [.ref q0, .null, .null, .null, .null, .null, .null, .null, .null, .null])) [(q0, .inr (9, [.int 1, .int 400, .ref q1, .int 0])), (q1, .inl (gI g, 4, .inl (fun _ => 0))), (q2, .inr (2, [.ref q3, .ref q5, .ref q7, .int 0])), (q3, .inr (9, [.int 3, .int 40, .ref q4, .int 0])), (q4, .inl (gI g, 12, .inl (fun _ => 0))), (q5, .inr (9, [.int 13, .int 12, .ref q6, .int 0])), (q6, .inl (gI g, 52, .inl (fun _ => 0))), (q7, .inl (gI g, 10, .inl (fun _ => 0)))]) (mk_in.trans rfl) ?_
  refine nw_putF C in_X11 _ (mk_this hk) rfl 1 (by decide) tyX11 tyX11_ok nmX11 tw_511 rfl rfl hnm rfl rfl rfl (Nat.le_of_ble_eq_true rfl) dX11_init_27 (mk_setT hk) ?_
  refine nw_aload_n C dX11_init_30 rfl 0 rfl ?_
  refine nw_new (ci := 8) (fs := [.null, .null, .null, .null, .int 0, .int 0, .int 0]) C in_X8 tyX8 tyX8_ok tw_206 tw_207 tw_127 rfl (fun j h => match j, h with | 0, _ => rfl | 1, _ => rfl | 2, _ => rfl | 3, _ => rfl | 4, _ => rfl | 5, _ => rfl | 6, _ => rfl | j + 7, h => absurd h (by omega)) (Nat.le_of_ble_eq_true rfl) (Nat.le_of_ble_eq_true rfl) dX11_init_31 (fun q8 => nw_ws mk_app ?_)
  refine nw_dup C dX11_init_34 rfl ?_
  refine nw_aload_n C dX11_init_35 rfl 0 rfl ?_
  refine nw_get (v := .ref q2) C in_X11 _ (mk_this hk) rfl 1 (by decide) tw_511 rfl rfl dX11_init_36 ?_
  refine nw_callI (As := [.ref q2]) (rest := [.ref q8, .ref b]) C (c_Search_init ((mk_new 8).trans rfl)) tw_208 tw_209 tw_127 tw_210 rfl (by decide +kernel) (n := 1) (by decide +kernel) ⟨Nat.le_of_ble_eq_true rfl, Nat.le_of_ble_eq_true rfl⟩ ⟨Nat.le_of_ble_eq_true rfl, Nat.le_of_ble_eq_true rfl⟩ rfl dX11_init_39 rfl (Nat.le_of_ble_eq_true rfl) ?_
  rintro _ _ ⟨rfl, q9, q10, q11, rfl⟩
  refine nw_ws (ws' := mkW ws k (b, .inr (11, [.ref q0, .ref q2, .null, .null, .null, .null, .null, .null, .null, .null])) [(q0, .inr (9, [.int 1, .int 400, .ref q1, .int 0])), (q1, .inl (gI g, 4, .inl (fun _ => 0))), (q2, .inr (2, [.ref q3, .ref q5, .ref q7, .int 0])), (q3, .inr (9, [.int 3, .int 40, .ref q4, .int 0])), (q4, .inl (gI g, 12, .inl (fun _ => 0))), (q5, .inr (9, [.int 13, .int 12, .ref q6, .int 0])), (q6, .inl (gI g, 52, .inl (fun _ => 0))), (q7, .inl (gI g, 10, .inl (fun _ => 0))), (q8, .inr (8, [.ref q2, .ref q9, .ref q10, .ref q11, .int 0, .int 0, .int 0])), (q9, .inl (gI g, 6, .inl (fun _ => 0))), (q10, .inl (gI g, 6, .inl (fun _ => 0))), (q11, .inl (gI g, 6, .inl (fun _ => 0)))]) (mk_in.trans rfl) ?_
  refine nw_putF C in_X11 _ (mk_this hk) rfl 2 (by decide) tyX11 tyX11_ok nmX11 tw_512 rfl rfl hnm rfl rfl rfl (Nat.le_of_ble_eq_true rfl) dX11_init_42 (mk_setT hk) ?_
  refine nw_aload_n C dX11_init_45 rfl 0 rfl ?_
  refine nw_new (ci := 3) (fs := [.null, .null, .null, .null, .null, .int 0, .int 0, .int 0]) C in_X3 tyX3 tyX3_ok tw_235 tw_236 tw_128 rfl (fun j h => match j, h with | 0, _ => rfl | 1, _ => rfl | 2, _ => rfl | 3, _ => rfl | 4, _ => rfl | 5, _ => rfl | 6, _ => rfl | 7, _ => rfl | j + 8, h => absurd h (by omega)) (Nat.le_of_ble_eq_true rfl) (Nat.le_of_ble_eq_true rfl) dX11_init_46 (fun q12 => nw_ws mk_app ?_)
  refine nw_dup C dX11_init_49 rfl ?_
  refine nw_aload_n C dX11_init_50 rfl 0 rfl ?_
  refine nw_get (v := .ref q0) C in_X11 _ (mk_this hk) rfl 0 (by decide) tw_510 rfl rfl dX11_init_51 ?_
  refine nw_callI (As := [.ref q0]) (rest := [.ref q12, .ref b]) C (c_Laws_init ((mk_new 12).trans rfl)) tw_237 tw_238 tw_128 tw_239 rfl (by decide +kernel) (n := 1) (by decide +kernel) ⟨Nat.le_of_ble_eq_true rfl, Nat.le_of_ble_eq_true rfl⟩ ⟨Nat.le_of_ble_eq_true rfl, Nat.le_of_ble_eq_true rfl⟩ rfl dX11_init_54 rfl (Nat.le_of_ble_eq_true rfl) ?_
  rintro _ _ ⟨rfl, q13, q14, q15, q16, q17, q18, q19, q20, rfl⟩
  refine nw_ws (ws' := mkW ws k (b, .inr (11, [.ref q0, .ref q2, .ref q8, .null, .null, .null, .null, .null, .null, .null])) [(q0, .inr (9, [.int 1, .int 400, .ref q1, .int 0])), (q1, .inl (gI g, 4, .inl (fun _ => 0))), (q2, .inr (2, [.ref q3, .ref q5, .ref q7, .int 0])), (q3, .inr (9, [.int 3, .int 40, .ref q4, .int 0])), (q4, .inl (gI g, 12, .inl (fun _ => 0))), (q5, .inr (9, [.int 13, .int 12, .ref q6, .int 0])), (q6, .inl (gI g, 52, .inl (fun _ => 0))), (q7, .inl (gI g, 10, .inl (fun _ => 0))), (q8, .inr (8, [.ref q2, .ref q9, .ref q10, .ref q11, .int 0, .int 0, .int 0])), (q9, .inl (gI g, 6, .inl (fun _ => 0))), (q10, .inl (gI g, 6, .inl (fun _ => 0))), (q11, .inl (gI g, 6, .inl (fun _ => 0))), (q12, .inr (3, [.ref q13, .ref q15, .ref q17, .ref q19, .ref q20, .int (-1), .int (-1), .int (-1)])), (q13, .inr (9, [.int 7, .int 10, .ref q14, .int 0])), (q14, .inl (gI g, 28, .inl (fun _ => 0))), (q15, .inr (9, [.int 9, .int 120, .ref q16, .int 0])), (q16, .inl (gI g, 36, .inl (fun _ => 0))), (q17, .inr (9, [.int 1, .int 4000, .ref q18, .int 0])), (q18, .inl (gI g, 4, .inl (fun _ => 0))), (q19, .inr (6, [.ref q0, .ref q15, .ref q17, .int 0, .int 0, .int 0, .int 0, .int 0])), (q20, .inl (gI g, 64, .inl (fun _ => 0)))]) (mk_in.trans rfl) ?_
  refine nw_putF C in_X11 _ (mk_this hk) rfl 3 (by decide) tyX11 tyX11_ok nmX11 tw_513 rfl rfl hnm rfl rfl rfl (Nat.le_of_ble_eq_true rfl) dX11_init_57 (mk_setT hk) ?_
  refine nw_aload_n C dX11_init_60 rfl 0 rfl ?_
  refine nw_new (ci := 5) (fs := [.null]) C in_X5 tyX5 tyX5_ok tw_304 tw_305 tw_130 rfl (fun j h => match j, h with | 0, _ => rfl | j + 1, h => absurd h (by omega)) (Nat.le_of_ble_eq_true rfl) (Nat.le_of_ble_eq_true rfl) dX11_init_61 (fun q21 => nw_ws mk_app ?_)
  refine nw_dup C dX11_init_64 rfl ?_
  refine nw_callI (As := []) (rest := [.ref q21, .ref b]) C (c_People_init ((mk_new 21).trans rfl)) tw_306 tw_307 tw_130 tw_308 rfl (by decide +kernel) (n := 0) (by decide +kernel) ⟨Nat.le_of_ble_eq_true rfl, Nat.le_of_ble_eq_true rfl⟩ ⟨Nat.le_of_ble_eq_true rfl, Nat.le_of_ble_eq_true rfl⟩ rfl dX11_init_65 rfl (Nat.le_of_ble_eq_true rfl) ?_
  rintro _ _ ⟨rfl, q22, q23, rfl⟩
  refine nw_ws (ws' := mkW ws k (b, .inr (11, [.ref q0, .ref q2, .ref q8, .ref q12, .null, .null, .null, .null, .null, .null])) [(q0, .inr (9, [.int 1, .int 400, .ref q1, .int 0])), (q1, .inl (gI g, 4, .inl (fun _ => 0))), (q2, .inr (2, [.ref q3, .ref q5, .ref q7, .int 0])), (q3, .inr (9, [.int 3, .int 40, .ref q4, .int 0])), (q4, .inl (gI g, 12, .inl (fun _ => 0))), (q5, .inr (9, [.int 13, .int 12, .ref q6, .int 0])), (q6, .inl (gI g, 52, .inl (fun _ => 0))), (q7, .inl (gI g, 10, .inl (fun _ => 0))), (q8, .inr (8, [.ref q2, .ref q9, .ref q10, .ref q11, .int 0, .int 0, .int 0])), (q9, .inl (gI g, 6, .inl (fun _ => 0))), (q10, .inl (gI g, 6, .inl (fun _ => 0))), (q11, .inl (gI g, 6, .inl (fun _ => 0))), (q12, .inr (3, [.ref q13, .ref q15, .ref q17, .ref q19, .ref q20, .int (-1), .int (-1), .int (-1)])), (q13, .inr (9, [.int 7, .int 10, .ref q14, .int 0])), (q14, .inl (gI g, 28, .inl (fun _ => 0))), (q15, .inr (9, [.int 9, .int 120, .ref q16, .int 0])), (q16, .inl (gI g, 36, .inl (fun _ => 0))), (q17, .inr (9, [.int 1, .int 4000, .ref q18, .int 0])), (q18, .inl (gI g, 4, .inl (fun _ => 0))), (q19, .inr (6, [.ref q0, .ref q15, .ref q17, .int 0, .int 0, .int 0, .int 0, .int 0])), (q20, .inl (gI g, 64, .inl (fun _ => 0))), (q21, .inr (5, [.ref q22])), (q22, .inr (9, [.int 4, .int 40, .ref q23, .int 0])), (q23, .inl (gI g, 16, .inl (fun _ => 0)))]) (mk_in.trans rfl) ?_
  refine nw_putF C in_X11 _ (mk_this hk) rfl 4 (by decide) tyX11 tyX11_ok nmX11 tw_514 rfl rfl hnm rfl rfl rfl (Nat.le_of_ble_eq_true rfl) dX11_init_68 (mk_setT hk) ?_
  refine nw_aload_n C dX11_init_71 rfl 0 rfl ?_
  refine nw_new (ci := 0) (fs := [.null, .null, .null, .null]) C in_X0 tyX0 tyX0_ok tw_318 tw_319 tw_131 rfl (fun j h => match j, h with | 0, _ => rfl | 1, _ => rfl | 2, _ => rfl | 3, _ => rfl | j + 4, h => absurd h (by omega)) (Nat.le_of_ble_eq_true rfl) (Nat.le_of_ble_eq_true rfl) dX11_init_72 (fun q24 => nw_ws mk_app ?_)
  refine nw_dup C dX11_init_75 rfl ?_
  refine nw_aload_n C dX11_init_76 rfl 0 rfl ?_
  refine nw_get (v := .ref q21) C in_X11 _ (mk_this hk) rfl 4 (by decide) tw_514 rfl rfl dX11_init_77 ?_
  refine nw_aload_n C dX11_init_80 rfl 0 rfl ?_
  refine nw_get (v := .ref q12) C in_X11 _ (mk_this hk) rfl 3 (by decide) tw_513 rfl rfl dX11_init_81 ?_
  refine nw_callI (As := [.ref q21, .ref q12]) (rest := [.ref q24, .ref b]) C (c_Claims_init ((mk_new 24).trans rfl)) tw_320 tw_321 tw_131 tw_322 rfl (by decide +kernel) (n := 2) (by decide +kernel) ⟨Nat.le_of_ble_eq_true rfl, Nat.le_of_ble_eq_true rfl⟩ ⟨Nat.le_of_ble_eq_true rfl, Nat.le_of_ble_eq_true rfl⟩ rfl dX11_init_84 rfl (Nat.le_of_ble_eq_true rfl) ?_
  rintro _ _ ⟨rfl, q25, q26, q27, q28, rfl⟩
  refine nw_ws (ws' := mkW ws k (b, .inr (11, [.ref q0, .ref q2, .ref q8, .ref q12, .ref q21, .null, .null, .null, .null, .null])) [(q0, .inr (9, [.int 1, .int 400, .ref q1, .int 0])), (q1, .inl (gI g, 4, .inl (fun _ => 0))), (q2, .inr (2, [.ref q3, .ref q5, .ref q7, .int 0])), (q3, .inr (9, [.int 3, .int 40, .ref q4, .int 0])), (q4, .inl (gI g, 12, .inl (fun _ => 0))), (q5, .inr (9, [.int 13, .int 12, .ref q6, .int 0])), (q6, .inl (gI g, 52, .inl (fun _ => 0))), (q7, .inl (gI g, 10, .inl (fun _ => 0))), (q8, .inr (8, [.ref q2, .ref q9, .ref q10, .ref q11, .int 0, .int 0, .int 0])), (q9, .inl (gI g, 6, .inl (fun _ => 0))), (q10, .inl (gI g, 6, .inl (fun _ => 0))), (q11, .inl (gI g, 6, .inl (fun _ => 0))), (q12, .inr (3, [.ref q13, .ref q15, .ref q17, .ref q19, .ref q20, .int (-1), .int (-1), .int (-1)])), (q13, .inr (9, [.int 7, .int 10, .ref q14, .int 0])), (q14, .inl (gI g, 28, .inl (fun _ => 0))), (q15, .inr (9, [.int 9, .int 120, .ref q16, .int 0])), (q16, .inl (gI g, 36, .inl (fun _ => 0))), (q17, .inr (9, [.int 1, .int 4000, .ref q18, .int 0])), (q18, .inl (gI g, 4, .inl (fun _ => 0))), (q19, .inr (6, [.ref q0, .ref q15, .ref q17, .int 0, .int 0, .int 0, .int 0, .int 0])), (q20, .inl (gI g, 64, .inl (fun _ => 0))), (q21, .inr (5, [.ref q22])), (q22, .inr (9, [.int 4, .int 40, .ref q23, .int 0])), (q23, .inl (gI g, 16, .inl (fun _ => 0))), (q24, .inr (0, [.ref q25, .ref q27, .ref q21, .ref q12])), (q25, .inr (9, [.int 5, .int 20, .ref q26, .int 0])), (q26, .inl (gI g, 20, .inl (fun _ => 0))), (q27, .inr (9, [.int 3, .int 1200, .ref q28, .int 0])), (q28, .inl (gI g, 12, .inl (fun _ => 0)))]) (mk_in.trans rfl) ?_
  refine nw_putF C in_X11 _ (mk_this hk) rfl 5 (by decide) tyX11 tyX11_ok nmX11 tw_515 rfl rfl hnm rfl rfl rfl (Nat.le_of_ble_eq_true rfl) dX11_init_87 (mk_setT hk) ?_
  refine nw_aload_n C dX11_init_90 rfl 0 rfl ?_
  refine nw_new (ci := 1) (fs := [.null, .null, .null, .null, .null, .null, .null, .null, .null, .int 0, .int 0, .int 0, .int 0]) C in_X1 tyX1 tyX1_ok tw_340 tw_341 tw_132 rfl (fun j h => match j, h with | 0, _ => rfl | 1, _ => rfl | 2, _ => rfl | 3, _ => rfl | 4, _ => rfl | 5, _ => rfl | 6, _ => rfl | 7, _ => rfl | 8, _ => rfl | 9, _ => rfl | 10, _ => rfl | 11, _ => rfl | 12, _ => rfl | j + 13, h => absurd h (by omega)) (Nat.le_of_ble_eq_true rfl) (Nat.le_of_ble_eq_true rfl) dX11_init_91 (fun q29 => nw_ws mk_app ?_)
  refine nw_dup C dX11_init_94 rfl ?_
  refine nw_aload_n C dX11_init_95 rfl 0 rfl ?_
  refine nw_get (v := .ref q2) C in_X11 _ (mk_this hk) rfl 1 (by decide) tw_511 rfl rfl dX11_init_96 ?_
  refine nw_aload_n C dX11_init_99 rfl 0 rfl ?_
  refine nw_get (v := .ref q12) C in_X11 _ (mk_this hk) rfl 3 (by decide) tw_513 rfl rfl dX11_init_100 ?_
  refine nw_aload_n C dX11_init_103 rfl 0 rfl ?_
  refine nw_get (v := .ref q21) C in_X11 _ (mk_this hk) rfl 4 (by decide) tw_514 rfl rfl dX11_init_104 ?_
  refine nw_aload_n C dX11_init_107 rfl 0 rfl ?_
  refine nw_get (v := .ref q24) C in_X11 _ (mk_this hk) rfl 5 (by decide) tw_515 rfl rfl dX11_init_108 ?_
  refine nw_callI (As := [.ref q2, .ref q12, .ref q21, .ref q24]) (rest := [.ref q29, .ref b]) C (c_Courts_init ((mk_new 29).trans rfl)) tw_342 tw_343 tw_132 tw_344 rfl (by decide +kernel) (n := 4) (by decide +kernel) ⟨Nat.le_of_ble_eq_true rfl, Nat.le_of_ble_eq_true rfl⟩ ⟨Nat.le_of_ble_eq_true rfl, Nat.le_of_ble_eq_true rfl⟩ rfl dX11_init_111 rfl (Nat.le_of_ble_eq_true rfl) ?_
  rintro _ _ ⟨rfl, q30, q31, q32, q33, q34, q35, q36, q37, q38, rfl⟩
  refine nw_ws (ws' := mkW ws k (b, .inr (11, [.ref q0, .ref q2, .ref q8, .ref q12, .ref q21, .ref q24, .null, .null, .null, .null])) [(q0, .inr (9, [.int 1, .int 400, .ref q1, .int 0])), (q1, .inl (gI g, 4, .inl (fun _ => 0))), (q2, .inr (2, [.ref q3, .ref q5, .ref q7, .int 0])), (q3, .inr (9, [.int 3, .int 40, .ref q4, .int 0])), (q4, .inl (gI g, 12, .inl (fun _ => 0))), (q5, .inr (9, [.int 13, .int 12, .ref q6, .int 0])), (q6, .inl (gI g, 52, .inl (fun _ => 0))), (q7, .inl (gI g, 10, .inl (fun _ => 0))), (q8, .inr (8, [.ref q2, .ref q9, .ref q10, .ref q11, .int 0, .int 0, .int 0])), (q9, .inl (gI g, 6, .inl (fun _ => 0))), (q10, .inl (gI g, 6, .inl (fun _ => 0))), (q11, .inl (gI g, 6, .inl (fun _ => 0))), (q12, .inr (3, [.ref q13, .ref q15, .ref q17, .ref q19, .ref q20, .int (-1), .int (-1), .int (-1)])), (q13, .inr (9, [.int 7, .int 10, .ref q14, .int 0])), (q14, .inl (gI g, 28, .inl (fun _ => 0))), (q15, .inr (9, [.int 9, .int 120, .ref q16, .int 0])), (q16, .inl (gI g, 36, .inl (fun _ => 0))), (q17, .inr (9, [.int 1, .int 4000, .ref q18, .int 0])), (q18, .inl (gI g, 4, .inl (fun _ => 0))), (q19, .inr (6, [.ref q0, .ref q15, .ref q17, .int 0, .int 0, .int 0, .int 0, .int 0])), (q20, .inl (gI g, 64, .inl (fun _ => 0))), (q21, .inr (5, [.ref q22])), (q22, .inr (9, [.int 4, .int 40, .ref q23, .int 0])), (q23, .inl (gI g, 16, .inl (fun _ => 0))), (q24, .inr (0, [.ref q25, .ref q27, .ref q21, .ref q12])), (q25, .inr (9, [.int 5, .int 20, .ref q26, .int 0])), (q26, .inl (gI g, 20, .inl (fun _ => 0))), (q27, .inr (9, [.int 3, .int 1200, .ref q28, .int 0])), (q28, .inl (gI g, 12, .inl (fun _ => 0))), (q29, .inr (1, [.ref q30, .ref q32, .ref q34, .ref q2, .ref q12, .ref q21, .ref q24, .ref q36, .ref q38, .int 0, .int 0, .int 0, .int 0])), (q30, .inr (9, [.int 6, .int 6, .ref q31, .int 0])), (q31, .inl (gI g, 24, .inl (fun _ => 0))), (q32, .inr (9, [.int 7, .int 60, .ref q33, .int 0])), (q33, .inl (gI g, 28, .inl (fun _ => 0))), (q34, .inr (9, [.int 13, .int 40, .ref q35, .int 0])), (q35, .inl (gI g, 52, .inl (fun _ => 0))), (q36, .inr (9, [.int 6, .int 1, .ref q37, .int 1])), (q37, .inl (gI g, 24, .inl fF)), (q38, .inl (gI g, 3, .inl (fun _ => 0)))]) (mk_in.trans rfl) ?_
  refine nw_putF C in_X11 _ (mk_this hk) rfl 6 (by decide) tyX11 tyX11_ok nmX11 tw_516 rfl rfl hnm rfl rfl rfl (Nat.le_of_ble_eq_true rfl) dX11_init_114 (mk_setT hk) ?_
  refine nw_aload_n C dX11_init_117 rfl 0 rfl ?_
  refine nw_new (ci := 7) (fs := [.null, .null, .null, .null, .null, .int 0, .int 0, .int 0]) C in_X7 tyX7 tyX7_ok tw_421 tw_422 tw_135 rfl (fun j h => match j, h with | 0, _ => rfl | 1, _ => rfl | 2, _ => rfl | 3, _ => rfl | 4, _ => rfl | 5, _ => rfl | 6, _ => rfl | 7, _ => rfl | j + 8, h => absurd h (by omega)) (Nat.le_of_ble_eq_true rfl) (Nat.le_of_ble_eq_true rfl) dX11_init_118 (fun q39 => nw_ws mk_app ?_)
  refine nw_dup C dX11_init_121 rfl ?_
  refine nw_callI (As := []) (rest := [.ref q39, .ref b]) C (c_Rolls_init ((mk_new 39).trans rfl)) tw_423 tw_424 tw_135 tw_425 rfl (by decide +kernel) (n := 0) (by decide +kernel) ⟨Nat.le_of_ble_eq_true rfl, Nat.le_of_ble_eq_true rfl⟩ ⟨Nat.le_of_ble_eq_true rfl, Nat.le_of_ble_eq_true rfl⟩ rfl dX11_init_122 rfl (Nat.le_of_ble_eq_true rfl) ?_
  rintro _ _ ⟨rfl, q40, q41, q42, q43, q44, q45, rfl⟩
  refine nw_ws (ws' := mkW ws k (b, .inr (11, [.ref q0, .ref q2, .ref q8, .ref q12, .ref q21, .ref q24, .ref q29, .null, .null, .null])) [(q0, .inr (9, [.int 1, .int 400, .ref q1, .int 0])), (q1, .inl (gI g, 4, .inl (fun _ => 0))), (q2, .inr (2, [.ref q3, .ref q5, .ref q7, .int 0])), (q3, .inr (9, [.int 3, .int 40, .ref q4, .int 0])), (q4, .inl (gI g, 12, .inl (fun _ => 0))), (q5, .inr (9, [.int 13, .int 12, .ref q6, .int 0])), (q6, .inl (gI g, 52, .inl (fun _ => 0))), (q7, .inl (gI g, 10, .inl (fun _ => 0))), (q8, .inr (8, [.ref q2, .ref q9, .ref q10, .ref q11, .int 0, .int 0, .int 0])), (q9, .inl (gI g, 6, .inl (fun _ => 0))), (q10, .inl (gI g, 6, .inl (fun _ => 0))), (q11, .inl (gI g, 6, .inl (fun _ => 0))), (q12, .inr (3, [.ref q13, .ref q15, .ref q17, .ref q19, .ref q20, .int (-1), .int (-1), .int (-1)])), (q13, .inr (9, [.int 7, .int 10, .ref q14, .int 0])), (q14, .inl (gI g, 28, .inl (fun _ => 0))), (q15, .inr (9, [.int 9, .int 120, .ref q16, .int 0])), (q16, .inl (gI g, 36, .inl (fun _ => 0))), (q17, .inr (9, [.int 1, .int 4000, .ref q18, .int 0])), (q18, .inl (gI g, 4, .inl (fun _ => 0))), (q19, .inr (6, [.ref q0, .ref q15, .ref q17, .int 0, .int 0, .int 0, .int 0, .int 0])), (q20, .inl (gI g, 64, .inl (fun _ => 0))), (q21, .inr (5, [.ref q22])), (q22, .inr (9, [.int 4, .int 40, .ref q23, .int 0])), (q23, .inl (gI g, 16, .inl (fun _ => 0))), (q24, .inr (0, [.ref q25, .ref q27, .ref q21, .ref q12])), (q25, .inr (9, [.int 5, .int 20, .ref q26, .int 0])), (q26, .inl (gI g, 20, .inl (fun _ => 0))), (q27, .inr (9, [.int 3, .int 1200, .ref q28, .int 0])), (q28, .inl (gI g, 12, .inl (fun _ => 0))), (q29, .inr (1, [.ref q30, .ref q32, .ref q34, .ref q2, .ref q12, .ref q21, .ref q24, .ref q36, .ref q38, .int 0, .int 0, .int 0, .int 0])), (q30, .inr (9, [.int 6, .int 6, .ref q31, .int 0])), (q31, .inl (gI g, 24, .inl (fun _ => 0))), (q32, .inr (9, [.int 7, .int 60, .ref q33, .int 0])), (q33, .inl (gI g, 28, .inl (fun _ => 0))), (q34, .inr (9, [.int 13, .int 40, .ref q35, .int 0])), (q35, .inl (gI g, 52, .inl (fun _ => 0))), (q36, .inr (9, [.int 6, .int 1, .ref q37, .int 1])), (q37, .inl (gI g, 24, .inl fF)), (q38, .inl (gI g, 3, .inl (fun _ => 0))), (q39, .inr (7, [.ref q40, .ref q42, .ref q43, .ref q44, .ref q45, .int 0, .int 0, .int 0])), (q40, .inr (9, [.int 3, .int 32, .ref q41, .int 0])), (q41, .inl (gI g, 12, .inl (fun _ => 0))), (q42, .inl (gI g, 8, .inl (fun _ => 0))), (q43, .inl (gI g, 64, .inl (fun _ => 0))), (q44, .inl (gI g, 256, .inl (fun _ => 0))), (q45, .inl (gI g, 8, .inl (fun _ => 0)))]) (mk_in.trans rfl) ?_
  refine nw_putF C in_X11 _ (mk_this hk) rfl 7 (by decide) tyX11 tyX11_ok nmX11 tw_517 rfl rfl hnm rfl rfl rfl (Nat.le_of_ble_eq_true rfl) dX11_init_125 (mk_setT hk) ?_
  refine nw_aload_n C dX11_init_128 rfl 0 rfl ?_
  refine nw_new (ci := 4) (fs := [.null, .null, .null, .null, .null, .null, .null, .int 0, .int 0]) C in_X4 tyX4 tyX4_ok tw_454 tw_455 tw_136 rfl (fun j h => match j, h with | 0, _ => rfl | 1, _ => rfl | 2, _ => rfl | 3, _ => rfl | 4, _ => rfl | 5, _ => rfl | 6, _ => rfl | 7, _ => rfl | 8, _ => rfl | j + 9, h => absurd h (by omega)) (Nat.le_of_ble_eq_true rfl) (Nat.le_of_ble_eq_true rfl) dX11_init_129 (fun q46 => nw_ws mk_app ?_)
  refine nw_dup C dX11_init_132 rfl ?_
  refine nw_aload_n C dX11_init_133 rfl 0 rfl ?_
  refine nw_get (v := .ref q29) C in_X11 _ (mk_this hk) rfl 6 (by decide) tw_516 rfl rfl dX11_init_134 ?_
  refine nw_get (v := .ref q30) C in_X1 _ ((mk_new 29).trans rfl) rfl 0 (by decide) tw_377 rfl rfl dX11_init_137 ?_
  refine nw_callI (As := [.ref q30]) (rest := [.ref q46, .ref b]) C (c_Patrols_init ((mk_new 46).trans rfl)) tw_456 tw_457 tw_136 tw_458 rfl (by decide +kernel) (n := 1) (by decide +kernel) ⟨Nat.le_of_ble_eq_true rfl, Nat.le_of_ble_eq_true rfl⟩ ⟨Nat.le_of_ble_eq_true rfl, Nat.le_of_ble_eq_true rfl⟩ rfl dX11_init_140 rfl (Nat.le_of_ble_eq_true rfl) ?_
  rintro _ _ ⟨rfl, q47, q48, q49, q50, q51, q52, q53, rfl⟩
  refine nw_ws (ws' := mkW ws k (b, .inr (11, [.ref q0, .ref q2, .ref q8, .ref q12, .ref q21, .ref q24, .ref q29, .ref q39, .null, .null])) [(q0, .inr (9, [.int 1, .int 400, .ref q1, .int 0])), (q1, .inl (gI g, 4, .inl (fun _ => 0))), (q2, .inr (2, [.ref q3, .ref q5, .ref q7, .int 0])), (q3, .inr (9, [.int 3, .int 40, .ref q4, .int 0])), (q4, .inl (gI g, 12, .inl (fun _ => 0))), (q5, .inr (9, [.int 13, .int 12, .ref q6, .int 0])), (q6, .inl (gI g, 52, .inl (fun _ => 0))), (q7, .inl (gI g, 10, .inl (fun _ => 0))), (q8, .inr (8, [.ref q2, .ref q9, .ref q10, .ref q11, .int 0, .int 0, .int 0])), (q9, .inl (gI g, 6, .inl (fun _ => 0))), (q10, .inl (gI g, 6, .inl (fun _ => 0))), (q11, .inl (gI g, 6, .inl (fun _ => 0))), (q12, .inr (3, [.ref q13, .ref q15, .ref q17, .ref q19, .ref q20, .int (-1), .int (-1), .int (-1)])), (q13, .inr (9, [.int 7, .int 10, .ref q14, .int 0])), (q14, .inl (gI g, 28, .inl (fun _ => 0))), (q15, .inr (9, [.int 9, .int 120, .ref q16, .int 0])), (q16, .inl (gI g, 36, .inl (fun _ => 0))), (q17, .inr (9, [.int 1, .int 4000, .ref q18, .int 0])), (q18, .inl (gI g, 4, .inl (fun _ => 0))), (q19, .inr (6, [.ref q0, .ref q15, .ref q17, .int 0, .int 0, .int 0, .int 0, .int 0])), (q20, .inl (gI g, 64, .inl (fun _ => 0))), (q21, .inr (5, [.ref q22])), (q22, .inr (9, [.int 4, .int 40, .ref q23, .int 0])), (q23, .inl (gI g, 16, .inl (fun _ => 0))), (q24, .inr (0, [.ref q25, .ref q27, .ref q21, .ref q12])), (q25, .inr (9, [.int 5, .int 20, .ref q26, .int 0])), (q26, .inl (gI g, 20, .inl (fun _ => 0))), (q27, .inr (9, [.int 3, .int 1200, .ref q28, .int 0])), (q28, .inl (gI g, 12, .inl (fun _ => 0))), (q29, .inr (1, [.ref q30, .ref q32, .ref q34, .ref q2, .ref q12, .ref q21, .ref q24, .ref q36, .ref q38, .int 0, .int 0, .int 0, .int 0])), (q30, .inr (9, [.int 6, .int 6, .ref q31, .int 0])), (q31, .inl (gI g, 24, .inl (fun _ => 0))), (q32, .inr (9, [.int 7, .int 60, .ref q33, .int 0])), (q33, .inl (gI g, 28, .inl (fun _ => 0))), (q34, .inr (9, [.int 13, .int 40, .ref q35, .int 0])), (q35, .inl (gI g, 52, .inl (fun _ => 0))), (q36, .inr (9, [.int 6, .int 1, .ref q37, .int 1])), (q37, .inl (gI g, 24, .inl fF)), (q38, .inl (gI g, 3, .inl (fun _ => 0))), (q39, .inr (7, [.ref q40, .ref q42, .ref q43, .ref q44, .ref q45, .int 0, .int 0, .int 0])), (q40, .inr (9, [.int 3, .int 32, .ref q41, .int 0])), (q41, .inl (gI g, 12, .inl (fun _ => 0))), (q42, .inl (gI g, 8, .inl (fun _ => 0))), (q43, .inl (gI g, 64, .inl (fun _ => 0))), (q44, .inl (gI g, 256, .inl (fun _ => 0))), (q45, .inl (gI g, 8, .inl (fun _ => 0))), (q46, .inr (4, [.ref q30, .ref q47, .ref q49, .ref q50, .ref q51, .ref q52, .ref q53, .int 0, .int 1])), (q47, .inr (9, [.int 3, .int 8, .ref q48, .int 0])), (q48, .inl (gI g, 12, .inl (fun _ => 0))), (q49, .inl (gI g, 2048, .inl (fun _ => 0))), (q50, .inl (gZ g, 256, .inl (fun _ => 0))), (q51, .inl (gZ g, 256, .inl (fun _ => 0))), (q52, .inl (gI g, 8, .inl (fun _ => 0))), (q53, .inl (gI g, 8, .inl (fun _ => 0)))]) (mk_in.trans rfl) ?_
  refine nw_putF C in_X11 _ (mk_this hk) rfl 8 (by decide) tyX11 tyX11_ok nmX11 tw_518 rfl rfl hnm rfl rfl rfl (Nat.le_of_ble_eq_true rfl) dX11_init_143 (mk_setT hk) ?_
  refine nw_aload_n C dX11_init_146 rfl 0 rfl ?_
  refine nw_new (ci := 10) (fs := [.null, .null]) C in_X10 tyX10 tyX10_ok tw_493 tw_494 tw_137 rfl (fun j h => match j, h with | 0, _ => rfl | 1, _ => rfl | j + 2, h => absurd h (by omega)) (Nat.le_of_ble_eq_true rfl) (Nat.le_of_ble_eq_true rfl) dX11_init_147 (fun q54 => nw_ws mk_app ?_)
  refine nw_dup C dX11_init_150 rfl ?_
  refine nw_callI (As := []) (rest := [.ref q54, .ref b]) C (c_Woods_init ((mk_new 54).trans rfl)) tw_495 tw_496 tw_137 tw_497 rfl (by decide +kernel) (n := 0) (by decide +kernel) ⟨Nat.le_of_ble_eq_true rfl, Nat.le_of_ble_eq_true rfl⟩ ⟨Nat.le_of_ble_eq_true rfl, Nat.le_of_ble_eq_true rfl⟩ rfl dX11_init_151 rfl (Nat.le_of_ble_eq_true rfl) ?_
  rintro _ _ ⟨rfl, q55, q56, q57, q58, rfl⟩
  refine nw_ws (ws' := mkW ws k (b, .inr (11, [.ref q0, .ref q2, .ref q8, .ref q12, .ref q21, .ref q24, .ref q29, .ref q39, .ref q46, .null])) [(q0, .inr (9, [.int 1, .int 400, .ref q1, .int 0])), (q1, .inl (gI g, 4, .inl (fun _ => 0))), (q2, .inr (2, [.ref q3, .ref q5, .ref q7, .int 0])), (q3, .inr (9, [.int 3, .int 40, .ref q4, .int 0])), (q4, .inl (gI g, 12, .inl (fun _ => 0))), (q5, .inr (9, [.int 13, .int 12, .ref q6, .int 0])), (q6, .inl (gI g, 52, .inl (fun _ => 0))), (q7, .inl (gI g, 10, .inl (fun _ => 0))), (q8, .inr (8, [.ref q2, .ref q9, .ref q10, .ref q11, .int 0, .int 0, .int 0])), (q9, .inl (gI g, 6, .inl (fun _ => 0))), (q10, .inl (gI g, 6, .inl (fun _ => 0))), (q11, .inl (gI g, 6, .inl (fun _ => 0))), (q12, .inr (3, [.ref q13, .ref q15, .ref q17, .ref q19, .ref q20, .int (-1), .int (-1), .int (-1)])), (q13, .inr (9, [.int 7, .int 10, .ref q14, .int 0])), (q14, .inl (gI g, 28, .inl (fun _ => 0))), (q15, .inr (9, [.int 9, .int 120, .ref q16, .int 0])), (q16, .inl (gI g, 36, .inl (fun _ => 0))), (q17, .inr (9, [.int 1, .int 4000, .ref q18, .int 0])), (q18, .inl (gI g, 4, .inl (fun _ => 0))), (q19, .inr (6, [.ref q0, .ref q15, .ref q17, .int 0, .int 0, .int 0, .int 0, .int 0])), (q20, .inl (gI g, 64, .inl (fun _ => 0))), (q21, .inr (5, [.ref q22])), (q22, .inr (9, [.int 4, .int 40, .ref q23, .int 0])), (q23, .inl (gI g, 16, .inl (fun _ => 0))), (q24, .inr (0, [.ref q25, .ref q27, .ref q21, .ref q12])), (q25, .inr (9, [.int 5, .int 20, .ref q26, .int 0])), (q26, .inl (gI g, 20, .inl (fun _ => 0))), (q27, .inr (9, [.int 3, .int 1200, .ref q28, .int 0])), (q28, .inl (gI g, 12, .inl (fun _ => 0))), (q29, .inr (1, [.ref q30, .ref q32, .ref q34, .ref q2, .ref q12, .ref q21, .ref q24, .ref q36, .ref q38, .int 0, .int 0, .int 0, .int 0])), (q30, .inr (9, [.int 6, .int 6, .ref q31, .int 0])), (q31, .inl (gI g, 24, .inl (fun _ => 0))), (q32, .inr (9, [.int 7, .int 60, .ref q33, .int 0])), (q33, .inl (gI g, 28, .inl (fun _ => 0))), (q34, .inr (9, [.int 13, .int 40, .ref q35, .int 0])), (q35, .inl (gI g, 52, .inl (fun _ => 0))), (q36, .inr (9, [.int 6, .int 1, .ref q37, .int 1])), (q37, .inl (gI g, 24, .inl fF)), (q38, .inl (gI g, 3, .inl (fun _ => 0))), (q39, .inr (7, [.ref q40, .ref q42, .ref q43, .ref q44, .ref q45, .int 0, .int 0, .int 0])), (q40, .inr (9, [.int 3, .int 32, .ref q41, .int 0])), (q41, .inl (gI g, 12, .inl (fun _ => 0))), (q42, .inl (gI g, 8, .inl (fun _ => 0))), (q43, .inl (gI g, 64, .inl (fun _ => 0))), (q44, .inl (gI g, 256, .inl (fun _ => 0))), (q45, .inl (gI g, 8, .inl (fun _ => 0))), (q46, .inr (4, [.ref q30, .ref q47, .ref q49, .ref q50, .ref q51, .ref q52, .ref q53, .int 0, .int 1])), (q47, .inr (9, [.int 3, .int 8, .ref q48, .int 0])), (q48, .inl (gI g, 12, .inl (fun _ => 0))), (q49, .inl (gI g, 2048, .inl (fun _ => 0))), (q50, .inl (gZ g, 256, .inl (fun _ => 0))), (q51, .inl (gZ g, 256, .inl (fun _ => 0))), (q52, .inl (gI g, 8, .inl (fun _ => 0))), (q53, .inl (gI g, 8, .inl (fun _ => 0))), (q54, .inr (10, [.ref q55, .ref q57])), (q55, .inr (9, [.int 3, .int 6, .ref q56, .int 0])), (q56, .inl (gI g, 12, .inl (fun _ => 0))), (q57, .inr (9, [.int 5, .int 100, .ref q58, .int 0])), (q58, .inl (gI g, 20, .inl (fun _ => 0)))]) (mk_in.trans rfl) ?_
  refine nw_putF C in_X11 _ (mk_this hk) rfl 9 (by decide) tyX11 tyX11_ok nmX11 tw_519 rfl rfl hnm rfl rfl rfl (Nat.le_of_ble_eq_true rfl) dX11_init_154 (mk_setT hk) ?_
  exact nw_vret C hr dX11_init_157 (Nat.le_of_ble_eq_true rfl) (Nat.le_of_ble_eq_true rfl) ⟨rfl, q0, q1, q2, q3, q4, q5, q6, q7, q8, q9, q10, q11, q12, q13, q14, q15, q16, q17, q18, q19, q20, q21, q22, q23, q24, q25, q26, q27, q28, q29, q30, q31, q32, q33, q34, q35, q36, q37, q38, q39, q40, q41, q42, q43, q44, q45, q46, q47, q48, q49, q50, q51, q52, q53, q54, q55, q56, q57, q58, rfl⟩
end
