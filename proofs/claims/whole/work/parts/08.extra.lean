section NWX
variable {g : EG} {p : Program} {l : Launch} {e : Env} {R : Room} {s : State} {m : MethodId} {args : Array Value} {below : List Frame} {meth : Method} {c : Code} {A : Nat → Prop} {Q : State → Prop} {nL : Nat} {cc : ByteArray} {own : String} {ws : va_W} {cells slots : Nat} {lv lv' : List (Nat × Value)} {pc : Nat} {st : List Value}
theorem nw_zero (n : Nat) (k : Nw g p l e R s m args below meth c A Q nL ws (n - n) (2 * (n - n)) lv pc st) : Nw g p l e R s m args below meth c A Q nL ws 0 0 lv pc st := by
  rw [Nat.sub_self] at k
  exact k
theorem nw_tsOut (C : Cx g p s m args meth c A nL cc own) {dflt lo hi : Int} {offs : Array Int} {len : Nat} {x : Int32} {tgt : Nat} (hd : decode cc pc = .ok (.tableswitch dflt lo hi offs, len)) (h : x.toInt < lo ∨ hi < x.toInt) (ht : (pc : Int) + dflt = (tgt : Int)) (k : Nw g p l e R s m args below meth c A Q nL ws cells slots lv tgt st) : Nw g p l e R s m args below meth c A Q nL ws cells slots lv pc (.int x :: st) :=
  fun H locs ls hP hD hS hl => lv_tableOut C.1 C.2.1 hd h ht (k H locs ls hP hD hS hl)
theorem nw_tsCase (C : Cx g p s m args meth c A nL cc own) {X : Type} {a b : Option X} {r : X} {dflt lo hi : Int} {offs : Array Int} {len : Nat} {x : Int32} {off : Int} {tgt : Nat} (k0 : Int32) (hd : decode cc pc = .ok (.tableswitch dflt lo hi offs, len)) (h1 : ¬ k0.toInt < lo) (h2 : ¬ hi < k0.toInt) (ho : offs[(k0.toInt - lo).toNat]? = some off) (ht : (pc : Int) + off = (tgt : Int))
    (h : (if x = k0 then a else b) = some r) (k1 : x = k0 → a = some r → Nw g p l e R s m args below meth c A Q nL ws cells slots lv tgt st) (k2 : ¬ x = k0 → b = some r → Nw g p l e R s m args below meth c A Q nL ws cells slots lv pc (.int x :: st)) : Nw g p l e R s m args below meth c A Q nL ws cells slots lv pc (.int x :: st) := by
  by_cases hx : x = k0
  · intro H locs ls hP hD hS hl
    have q := k1 hx (if_1 hx h)
    subst hx
    exact lv_tableIn C.1 C.2.1 hd h1 h2 ho ht (q H locs ls hP hD hS hl)
  · exact k2 hx (if_2 hx h)
theorem nw_lushr (C : Cx g p s m args meth c A nL cc own) {x : Int64} {y : Int32} (hd : decode cc pc = .ok (.lushr, 1)) (k : Nw g p l e R s m args below meth c A Q nL ws cells slots lv (pc + 1) (.long (x.toUInt64 >>> (y.toInt64.toUInt64 &&& Int64.toUInt64 63)).toInt64 :: st)) : Nw g p l e R s m args below meth c A Q nL ws cells slots lv pc (.int y :: .long x :: st) :=
  fun H locs ls hP hD hS hl => lv_lushr C.1 C.2.1 hd rfl (k H locs ls hP hD hS hl)
theorem nw_ldc2 (C : Cx g p s m args meth c A nL cc own) {index : Nat} {v : Int64} (hw : Cond.constantLong own index v ∈ TT) (hd : decode cc pc = .ok (.ldc2_w index, 3)) (k : Nw g p l e R s m args below meth c A Q nL ws cells slots lv (pc + 3) (.long v :: st)) : Nw g p l e R s m args below meth c A Q nL ws cells slots lv pc st :=
  fun H locs ls hP hD hS hl => lv_ldc2 C.1 C.2.1 C.2.2.2.1 (C.2.2.2.2.1 _ hw) hd (k H locs ls hP hD hS hl)
theorem nw_prget (C : Cx g p s m args meth c A nL cc own) {index : Nat} (hw : Cond.fieldLink own index "ForestCourts$Laws" "PLAIN_RULES" "[I" ∈ TT) (hd : decode cc pc = .ok (.getstatic index, 3)) (k : Nw g p l e R s m args below meth c A Q nL ws cells slots lv (pc + 3) (.ref (gP g) :: st)) : Nw g p l e R s m args below meth c A Q nL ws cells slots lv pc st :=
  fun H locs ls hP hD hS hl => va_gets C.1 C.2.1 C.2.2.2.2.2.1.2.2.2.2.1 hS C.2.2.2.1 (C.2.2.2.2.1 _ hw) (fun _ h9 => h9) hd (k H locs ls hP hD hS hl)
theorem nw_prlen (C : Cx g p s m args meth c A nL cc own) (hd : decode cc pc = .ok (.arraylength, 1)) (k : Nw g p l e R s m args below meth c A Q nL ws cells slots lv (pc + 1) (.int 5 :: st)) : Nw g p l e R s m args below meth c A Q nL ws cells slots lv pc (.ref (gP g) :: st) :=
  fun H locs ls hP hD hS hl => va_tlen C.1 C.2.1 C.2.2.2.2.2.1.2.2.2.2.2.1 hS rfl hd (k H locs ls hP hD hS hl)
theorem nw_prld (C : Cx g p s m args meth c A nL cc own) {X : Type} {a : Option X} {r : X} {i : Int32} (hd : decode cc pc = .ok (.iaload, 1)) (h : gix i 5 a = some r) (k : a = some r → Nw g p l e R s m args below meth c A Q nL ws cells slots lv (pc + 1) (.int (plainR i.toNatClampNeg) :: st)) : Nw g p l e R s m args below meth c A Q nL ws cells slots lv pc (.int i :: .ref (gP g) :: st) :=
  fun H locs ls hP hD hS hl => va_ti C.1 C.2.1 C.2.2.2.2.2.1.2.2.2.2.2.1 hS (gix_1 h) rfl hd (k (gix_2 h) H locs ls hP hD hS hl)
theorem nw_mmax (C : Cx g p s m args meth c A nL cc own) {index : Nat} (hw : Cond.methodLink own index ⟨"java/lang/Math", "max", "(II)I"⟩ ∈ TT) (hs1 : Cond.static ⟨"java/lang/Math", "max", "(II)I"⟩ ∈ TT) (hi : Cond.initialized "java/lang/Math" ∈ TT) (hcd : Cond.code ⟨"java/lang/Math", "max", "(II)I"⟩ Lib.Math.max.code 2 (some .int) ∈ TT) (hf : 1 ≤ R.frames) (hlo : (st.map fun v => v.category).sum + 13 ≤ R.locals) (hc : cells ≤ R.cells) (hs : slots ≤ R.slots) {x y : Int32} (hd : decode cc pc = .ok (.invokestatic index, 3)) (k : Nw g p l e R s m args below meth c A Q nL ws cells slots lv (pc + 3) (.int (if x < y then y else x) :: st)) : Nw g p l e R s m args below meth c A Q nL ws cells slots lv pc (.int y :: .int x :: st) :=
  fun H locs ls hP hD hS hl => va_mmax C.1 C.2.1 (C.2.2.1.trans hl.1.symm) C.2.2.2.1 (C.2.2.2.2.1 _ hw) (C.2.2.2.2.1 _ hs1) (C.2.2.2.2.1 _ hi) (C.2.2.2.2.1 _ hcd) hf hlo hc hs hd (k H locs ls hP hD hS hl)
theorem nw_mmin (C : Cx g p s m args meth c A nL cc own) {index : Nat} (hw : Cond.methodLink own index ⟨"java/lang/Math", "min", "(II)I"⟩ ∈ TT) (hs1 : Cond.static ⟨"java/lang/Math", "min", "(II)I"⟩ ∈ TT) (hi : Cond.initialized "java/lang/Math" ∈ TT) (hcd : Cond.code ⟨"java/lang/Math", "min", "(II)I"⟩ Lib.Math.min.code 2 (some .int) ∈ TT) (hf : 1 ≤ R.frames) (hlo : (st.map fun v => v.category).sum + 13 ≤ R.locals) (hc : cells ≤ R.cells) (hs : slots ≤ R.slots) {x y : Int32} (hd : decode cc pc = .ok (.invokestatic index, 3)) (k : Nw g p l e R s m args below meth c A Q nL ws cells slots lv (pc + 3) (.int (if y < x then y else x) :: st)) : Nw g p l e R s m args below meth c A Q nL ws cells slots lv pc (.int y :: .int x :: st) :=
  fun H locs ls hP hD hS hl => va_mmin C.1 C.2.1 (C.2.2.1.trans hl.1.symm) C.2.2.2.1 (C.2.2.2.2.1 _ hw) (C.2.2.2.2.1 _ hs1) (C.2.2.2.2.1 _ hi) (C.2.2.2.2.1 _ hcd) hf hlo hc hs hd (k H locs ls hP hD hS hl)
theorem nw_mabs (C : Cx g p s m args meth c A nL cc own) {index : Nat} (hw : Cond.methodLink own index ⟨"java/lang/Math", "abs", "(I)I"⟩ ∈ TT) (hs1 : Cond.static ⟨"java/lang/Math", "abs", "(I)I"⟩ ∈ TT) (hi : Cond.initialized "java/lang/Math" ∈ TT) (hcd : Cond.code ⟨"java/lang/Math", "abs", "(I)I"⟩ Lib.Math.abs.code 1 (some .int) ∈ TT) (hf : 1 ≤ R.frames) (hlo : (st.map fun v => v.category).sum + 13 ≤ R.locals) (hc : cells ≤ R.cells) (hs : slots ≤ R.slots) {x : Int32} (hd : decode cc pc = .ok (.invokestatic index, 3)) (k : Nw g p l e R s m args below meth c A Q nL ws cells slots lv (pc + 3) (.int (if 0 ≤ x then x else 0 - x) :: st)) : Nw g p l e R s m args below meth c A Q nL ws cells slots lv pc (.int x :: st) :=
  fun H locs ls hP hD hS hl => va_mabs C.1 C.2.1 (C.2.2.1.trans hl.1.symm) C.2.2.2.1 (C.2.2.2.2.1 _ hw) (C.2.2.2.2.1 _ hs1) (C.2.2.2.2.1 _ hi) (C.2.2.2.2.1 _ hcd) hf hlo hc hs hd (k H locs ls hP hD hS hl)
theorem in_tb {w : Cond} (h : w ∈ tables_1) (hg : goodWord w = true) : w ∈ TT := List.mem_filter.mpr ⟨List.mem_append_right _ h, hg⟩
theorem in_tN {w : Cond} (h : w ∈ tables_1) (hg : isN w = true) : w ∈ NN := List.mem_append_left _ (List.mem_filter.mpr ⟨List.mem_append_right _ h, hg⟩)
theorem in_sl {w : Cond} (h : w ∈ k2_sels lw_privs) (hg : goodWord w = true) : w ∈ TT := List.mem_filter.mpr ⟨List.mem_append_left _ h, hg⟩
theorem tb_1 {w : Cond} (h : w ∈ tables_1_1) : w ∈ tables_1 := List.mem_append_left _ h
theorem tb_2 {w : Cond} (h : w ∈ tables_1_2) : w ∈ tables_1 := List.mem_append_right _ (List.mem_append_left _ h)
theorem tb_3 {w : Cond} (h : w ∈ tables_1_3) : w ∈ tables_1 := List.mem_append_right _ (List.mem_append_right _ (List.mem_append_left _ h))
theorem tb_4 {w : Cond} (h : w ∈ tables_1_4) : w ∈ tables_1 := List.mem_append_right _ (List.mem_append_right _ (List.mem_append_right _ (List.mem_append_left _ h)))
theorem tb_5 {w : Cond} (h : w ∈ tables_1_5) : w ∈ tables_1 := List.mem_append_right _ (List.mem_append_right _ (List.mem_append_right _ (List.mem_append_right _ (List.mem_append_left _ h))))
theorem tb_6 {w : Cond} (h : w ∈ tables_1_6) : w ∈ tables_1 := List.mem_append_right _ (List.mem_append_right _ (List.mem_append_right _ (List.mem_append_right _ (List.mem_append_right _ (List.mem_append_left _ h)))))
theorem tb_7 {w : Cond} (h : w ∈ tables_1_7) : w ∈ tables_1 := List.mem_append_right _ (List.mem_append_right _ (List.mem_append_right _ (List.mem_append_right _ (List.mem_append_right _ (List.mem_append_right _ (List.mem_append_left _ h))))))
theorem tb_8 {w : Cond} (h : w ∈ tables_1_8) : w ∈ tables_1 := List.mem_append_right _ (List.mem_append_right _ (List.mem_append_right _ (List.mem_append_right _ (List.mem_append_right _ (List.mem_append_right _ (List.mem_append_right _ (List.mem_append_left _ h)))))))
theorem tb_9 {w : Cond} (h : w ∈ tables_1_9) : w ∈ tables_1 := List.mem_append_right _ (List.mem_append_right _ (List.mem_append_right _ (List.mem_append_right _ (List.mem_append_right _ (List.mem_append_right _ (List.mem_append_right _ (List.mem_append_right _ (List.mem_append_left _ h))))))))
theorem tb_10 {w : Cond} (h : w ∈ tables_1_10) : w ∈ tables_1 := List.mem_append_right _ (List.mem_append_right _ (List.mem_append_right _ (List.mem_append_right _ (List.mem_append_right _ (List.mem_append_right _ (List.mem_append_right _ (List.mem_append_right _ (List.mem_append_right _ (h)))))))))
theorem mem_by (l : List Cond) (is : List Nat) (h : l.map some = is.map (fun i => lw_tbl[i]?)) (hg : l.all goodWord = true) : ∀ w ∈ l, w ∈ TT := by
  intro w hw
  have h1 : some w ∈ l.map some := List.mem_map.mpr ⟨w, hw, rfl⟩
  rw [h] at h1
  obtain ⟨i, -, hi⟩ := List.mem_map.mp h1
  exact mem_TT hi (List.all_eq_true.mp hg w hw)
theorem mem_by2 (l : List Cond) (is : List Nat) (h : l.map some = is.map (fun i => lw_tbl[i]?)) (hg : l.all (fun w => goodWord w || isN w) = true) : ∀ w ∈ l, w ∈ TT ∨ (w ∈ NN ∧ isN w = true) := by
  intro w hw
  have h1 : some w ∈ l.map some := List.mem_map.mpr ⟨w, hw, rfl⟩
  rw [h] at h1
  obtain ⟨i, -, hi⟩ := List.mem_map.mp h1
  have h2 := List.all_eq_true.mp hg w hw
  rcases Bool.or_eq_true _ _ ▸ h2 with h3 | h3
  · exact Or.inl (mem_TT hi h3)
  · exact Or.inr ⟨mem_NN hi h3, h3⟩
theorem NT_use (hts : ∀ w ∈ TT, w.before args s = true) (hN : ∀ w ∈ NN, va_Nw w s) {w : Cond} (h : w ∈ TT ∨ (w ∈ NN ∧ isN w = true)) : w.before args s = true := by
  rcases h with h | h
  · exact hts w h
  · exact NN_use h.2 (hN w h.1)
end NWX
