theorem dJ0_coder_7d493_0 : decode cJ0_coder_7d493 0 = .ok (.getstatic 38, 3) := by decide +kernel
theorem dJ0_coder_7d493_3 : decode cJ0_coder_7d493 3 = .ok (.ifCond .eq 10, 3) := by decide +kernel
theorem dJ0_coder_7d493_6 : decode cJ0_coder_7d493 6 = .ok (.aload_n 0, 1) := by decide +kernel
theorem dJ0_coder_7d493_7 : decode cJ0_coder_7d493 7 = .ok (.getfield 15, 3) := by decide +kernel
theorem dJ0_coder_7d493_10 : decode cJ0_coder_7d493 10 = .ok (.goto 4, 3) := by decide +kernel
theorem dJ0_coder_7d493_13 : decode cJ0_coder_7d493 13 = .ok (.iconst 1, 1) := by decide +kernel
theorem dJ0_coder_7d493_14 : decode cJ0_coder_7d493 14 = .ok (.ireturn, 1) := by decide +kernel
theorem dJ0_isLatin1_aae02_0 : decode cJ0_isLatin1_aae02 0 = .ok (.getstatic 38, 3) := by decide +kernel
theorem dJ0_isLatin1_aae02_3 : decode cJ0_isLatin1_aae02 3 = .ok (.ifCond .eq 14, 3) := by decide +kernel
theorem dJ0_isLatin1_aae02_6 : decode cJ0_isLatin1_aae02 6 = .ok (.aload_n 0, 1) := by decide +kernel
theorem dJ0_isLatin1_aae02_7 : decode cJ0_isLatin1_aae02 7 = .ok (.getfield 15, 3) := by decide +kernel
theorem dJ0_isLatin1_aae02_10 : decode cJ0_isLatin1_aae02 10 = .ok (.ifCond .ne 7, 3) := by decide +kernel
theorem dJ0_isLatin1_aae02_13 : decode cJ0_isLatin1_aae02 13 = .ok (.iconst 1, 1) := by decide +kernel
theorem dJ0_isLatin1_aae02_14 : decode cJ0_isLatin1_aae02 14 = .ok (.goto 4, 3) := by decide +kernel
theorem dJ0_isLatin1_aae02_17 : decode cJ0_isLatin1_aae02 17 = .ok (.iconst 0, 1) := by decide +kernel
theorem dJ0_isLatin1_aae02_18 : decode cJ0_isLatin1_aae02 18 = .ok (.ireturn, 1) := by decide +kernel
theorem dJ0_length_8abf5_0 : decode cJ0_length_8abf5 0 = .ok (.aload_n 0, 1) := by decide +kernel
theorem dJ0_length_8abf5_1 : decode cJ0_length_8abf5 1 = .ok (.getfield 9, 3) := by decide +kernel
theorem dJ0_length_8abf5_4 : decode cJ0_length_8abf5 4 = .ok (.arraylength, 1) := by decide +kernel
theorem dJ0_length_8abf5_5 : decode cJ0_length_8abf5 5 = .ok (.aload_n 0, 1) := by decide +kernel
theorem dJ0_length_8abf5_6 : decode cJ0_length_8abf5 6 = .ok (.invokevirtual 335, 3) := by decide +kernel
theorem dJ0_length_8abf5_9 : decode cJ0_length_8abf5 9 = .ok (.ishr, 1) := by decide +kernel
theorem dJ0_length_8abf5_10 : decode cJ0_length_8abf5 10 = .ok (.ireturn, 1) := by decide +kernel
theorem dJ0_charAt_5068e_0 : decode cJ0_charAt_5068e 0 = .ok (.aload_n 0, 1) := by decide +kernel
theorem dJ0_charAt_5068e_1 : decode cJ0_charAt_5068e 1 = .ok (.invokevirtual 492, 3) := by decide +kernel
theorem dJ0_charAt_5068e_4 : decode cJ0_charAt_5068e 4 = .ok (.ifCond .eq 12, 3) := by decide +kernel
theorem dJ0_charAt_5068e_7 : decode cJ0_charAt_5068e 7 = .ok (.aload_n 0, 1) := by decide +kernel
theorem dJ0_charAt_5068e_8 : decode cJ0_charAt_5068e 8 = .ok (.getfield 9, 3) := by decide +kernel
theorem dJ0_charAt_5068e_11 : decode cJ0_charAt_5068e 11 = .ok (.iload_n 1, 1) := by decide +kernel
theorem dJ0_charAt_5068e_12 : decode cJ0_charAt_5068e 12 = .ok (.invokestatic 495, 3) := by decide +kernel
theorem dJ0_charAt_5068e_15 : decode cJ0_charAt_5068e 15 = .ok (.ireturn, 1) := by decide +kernel
theorem dJ0_charAt_5068e_16 : decode cJ0_charAt_5068e 16 = .ok (.aload_n 0, 1) := by decide +kernel
theorem dJ0_charAt_5068e_17 : decode cJ0_charAt_5068e 17 = .ok (.getfield 9, 3) := by decide +kernel
theorem dJ0_charAt_5068e_20 : decode cJ0_charAt_5068e 20 = .ok (.iload_n 1, 1) := by decide +kernel
theorem dJ0_charAt_5068e_21 : decode cJ0_charAt_5068e 21 = .ok (.invokestatic 498, 3) := by decide +kernel
theorem dJ0_charAt_5068e_24 : decode cJ0_charAt_5068e 24 = .ok (.ireturn, 1) := by decide +kernel
theorem dJ0_checkIndex_df160_0 : decode cJ0_checkIndex_df160 0 = .ok (.iload_n 0, 1) := by decide +kernel
theorem dJ0_checkIndex_df160_1 : decode cJ0_checkIndex_df160 1 = .ok (.iload_n 1, 1) := by decide +kernel
theorem dJ0_checkIndex_df160_2 : decode cJ0_checkIndex_df160 2 = .ok (.getstatic 1053, 3) := by decide +kernel
theorem dJ0_checkIndex_df160_5 : decode cJ0_checkIndex_df160 5 = .ok (.invokestatic 1059, 3) := by decide +kernel
theorem dJ0_checkIndex_df160_8 : decode cJ0_checkIndex_df160 8 = .ok (.pop, 1) := by decide +kernel
theorem dJ0_checkIndex_df160_9 : decode cJ0_checkIndex_df160 9 = .ok (.return_, 1) := by decide +kernel
theorem dJ1_charAt_3b067_0 : decode cJ1_charAt_3b067 0 = .ok (.iload_n 1, 1) := by decide +kernel
theorem dJ1_charAt_3b067_1 : decode cJ1_charAt_3b067 1 = .ok (.aload_n 0, 1) := by decide +kernel
theorem dJ1_charAt_3b067_2 : decode cJ1_charAt_3b067 2 = .ok (.arraylength, 1) := by decide +kernel
theorem dJ1_charAt_3b067_3 : decode cJ1_charAt_3b067 3 = .ok (.invokestatic 9, 3) := by decide +kernel
theorem dJ1_charAt_3b067_6 : decode cJ1_charAt_3b067 6 = .ok (.aload_n 0, 1) := by decide +kernel
theorem dJ1_charAt_3b067_7 : decode cJ1_charAt_3b067 7 = .ok (.iload_n 1, 1) := by decide +kernel
theorem dJ1_charAt_3b067_8 : decode cJ1_charAt_3b067 8 = .ok (.baload, 1) := by decide +kernel
theorem dJ1_charAt_3b067_9 : decode cJ1_charAt_3b067 9 = .ok (.sipush 255, 3) := by decide +kernel
theorem dJ1_charAt_3b067_12 : decode cJ1_charAt_3b067 12 = .ok (.iand, 1) := by decide +kernel
theorem dJ1_charAt_3b067_13 : decode cJ1_charAt_3b067 13 = .ok (.i2c, 1) := by decide +kernel
theorem dJ1_charAt_3b067_14 : decode cJ1_charAt_3b067 14 = .ok (.ireturn, 1) := by decide +kernel
theorem dJ3_checkIndex_8e157_0 : decode cJ3_checkIndex_8e157 0 = .ok (.iload_n 0, 1) := by decide +kernel
theorem dJ3_checkIndex_8e157_1 : decode cJ3_checkIndex_8e157 1 = .ok (.ifCond .lt 8, 3) := by decide +kernel
theorem dJ3_checkIndex_8e157_4 : decode cJ3_checkIndex_8e157 4 = .ok (.iload_n 0, 1) := by decide +kernel
theorem dJ3_checkIndex_8e157_5 : decode cJ3_checkIndex_8e157 5 = .ok (.iload_n 1, 1) := by decide +kernel
theorem dJ3_checkIndex_8e157_6 : decode cJ3_checkIndex_8e157 6 = .ok (.if_icmp .lt 10, 3) := by decide +kernel
theorem dJ3_checkIndex_8e157_9 : decode cJ3_checkIndex_8e157 9 = .ok (.aload_n 2, 1) := by decide +kernel
theorem dJ3_checkIndex_8e157_10 : decode cJ3_checkIndex_8e157 10 = .ok (.iload_n 0, 1) := by decide +kernel
theorem dJ3_checkIndex_8e157_11 : decode cJ3_checkIndex_8e157 11 = .ok (.iload_n 1, 1) := by decide +kernel
theorem dJ3_checkIndex_8e157_12 : decode cJ3_checkIndex_8e157 12 = .ok (.invokestatic 95, 3) := by decide +kernel
theorem dJ3_checkIndex_8e157_15 : decode cJ3_checkIndex_8e157 15 = .ok (.athrow, 1) := by decide +kernel
theorem dJ3_checkIndex_8e157_16 : decode cJ3_checkIndex_8e157 16 = .ok (.iload_n 0, 1) := by decide +kernel
theorem dJ3_checkIndex_8e157_17 : decode cJ3_checkIndex_8e157 17 = .ok (.ireturn, 1) := by decide +kernel
/-! ===== literals ===== -/
def slen (i : Nat) : Int32 := nI (lenS.getD i 0)
def sch (i : Nat) (k : Int32) : Int32 := (bytS.getD i []).getD k.toNatClampNeg 0
theorem sc_all : ∀ i, i < nS → lenS.getD i 0 = (bytS.getD i []).length ∧ lenS.getD i 0 < 100 ∧ ∀ b ∈ bytS.getD i [], ((b &&& 255).toUInt32 % 65536).toInt32 = b ∧ narrow .char (.int b) = .int b := by decide +kernel
theorem getD_mem {l : List Int32} {n : Nat} (h : n < l.length) : l.getD n 0 ∈ l := by
  rw [List.getD_eq_getElem?_getD, List.getElem?_eq_getElem h]
  exact List.getElem_mem h
section NWS
variable {g : EG} {p : Program} {l : Launch} {e : Env} {R : Room} {s : State} {m : MethodId} {args : Array Value} {below : List Frame} {meth : Method} {c : Code} {A : Nat → Prop} {Q : State → Prop} {nL : Nat} {cc : ByteArray} {own : String} {ws : va_W} {cells slots : Nat} {lv lv' : List (Nat × Value)} {pc : Nat} {st : List Value}
theorem nw_lds (C : Cx g p s m args meth c A nL cc own) {i index : Nat} (hi : i < nS) (h1 : (strS i).1 = own) (h2 : (strS i).2.1 = index) (hd : decode cc pc = .ok (.ldc index, 2)) (k : Nw g p l e R s m args below meth c A Q nL ws cells slots lv (pc + 2) (.ref (gK g i) :: st)) : Nw g p l e R s m args below meth c A Q nL ws cells slots lv pc st := by
  subst h1; subst h2
  exact fun H locs ls hP hD hS hl => va_ldcS C.1 C.2.1 C.2.2.2.1 (C.2.2.2.2.2.1.2.2.2.1 i hi) hd (k H locs ls hP hD hS hl)
theorem ldcwS {T : State} {locs : List Loc} (X : Stand p l e R s m args below meth c T locs cells slots) (hexec : p.tables.exec = Jvm.exec) {own text : String} {index : Nat} {a : Addr} (hown : s.vm.findClass own = some m.cls)
    (hconst : (Cond.stringRef own index text).before #[] s = true) (hev : (Term.string own index).eval #[] s none [] s = some (.ref a)) {g : JFrame} (hg : g.method = m) (hdg : decode c.code g.pc = .ok (.ldc_w index, 3)) :
    ∀ target, Steps p.tables e below (T.setTop { g with pc := g.pc + 3, stack := .ref a :: g.stack }) target → Steps p.tables e below (T.setTop g) target := by
  obtain ⟨k, cf, i, a', hk, hcf, hcp, -, hr, hev'⟩ := Cond.stringRef_spec hown hconst
  cases hev.symm.trans hev'
  obtain ⟨k', hk', he⟩ := X.warmed.alike.2.2 _ _ hk
  have hr' : k'.resolved[index]? = some (some (.string a)) := by
    rcases X.warmed.entry hk hk' index with h | ⟨h, -⟩
    · rw [h]; exact hr
    · rw [hr] at h; cases h
  intro target hrest
  subst hg
  jvm_step X.here [hexec, hdg, ldc_w.wp_string (e := e) (s := T) (f := g) X.here.top hk' (by rw [he]; exact hcf) hcp hr']
  exact hrest
theorem nw_ldsw (C : Cx g p s m args meth c A nL cc own) {i index : Nat} (hi : i < nS) (h1 : (strS i).1 = own) (h2 : (strS i).2.1 = index) (hd : decode cc pc = .ok (.ldc_w index, 3)) (k : Nw g p l e R s m args below meth c A Q nL ws cells slots lv (pc + 3) (.ref (gK g i) :: st)) : Nw g p l e R s m args below meth c A Q nL ws cells slots lv pc st := by
  subst h1; subst h2
  intro H locs ls hP hD hS hl T hT X
  obtain ⟨t, a1, b1⟩ := k H locs ls hP hD hS hl T hT X
  have hZ := C.2.2.2.2.2.1.2.2.2.1 i hi
  exact ⟨t, ldcwS X C.1 C.2.2.2.1 hZ.1 hZ.2 (g := F0 m pc ls st) rfl (by rw [C.2.1]; exact hd) t a1, b1⟩
theorem nw_sget (C : Cx g p s m args meth c A nL cc own) {q index : Nat} {n d : String} {v : Value} (hE : va_OF "java/lang/String" n d v q A s s.heap) (hw : Cond.fieldLink own index "java/lang/String" n d ∈ TT) (hd : decode cc pc = .ok (.getfield index, 3)) (k : Nw g p l e R s m args below meth c A Q nL ws cells slots lv (pc + 3) (v :: st)) : Nw g p l e R s m args below meth c A Q nL ws cells slots lv pc (.ref q :: st) :=
  fun H locs ls hP hD hS hl => vk_getf C.1 C.2.1 hE hS C.2.2.2.1 (C.2.2.2.2.1 _ hw) (fun _ h9 => h9) hd (k H locs ls hP hD hS hl)
theorem nw_compact (C : Cx g p s m args meth c A nL cc own) {index : Nat} (hw : Cond.fieldLink own index "java/lang/String" "COMPACT_STRINGS" "Z" ∈ TT) (hd : decode cc pc = .ok (.getstatic index, 3)) (k : Nw g p l e R s m args below meth c A Q nL ws cells slots lv (pc + 3) (.int 1 :: st)) : Nw g p l e R s m args below meth c A Q nL ws cells slots lv pc st :=
  fun H locs ls hP hD hS hl => va_gets C.1 C.2.1 C.2.2.2.2.2.1.2.2.2.2.2.2.2.2.1 hS C.2.2.2.1 (C.2.2.2.2.1 _ hw) (fun _ h9 => h9) hd (k H locs ls hP hD hS hl)
/-- the format of an index outside: null or some reference; nobody looks at it -/
theorem nw_sio (C : Cx g p s m args meth c A nL cc own) {index : Nat} (hw : Cond.fieldLink own index "jdk/internal/util/Preconditions" "SIOOBE_FORMATTER" "Ljava/util/function/BiFunction;" ∈ TT) (hd : decode cc pc = .ok (.getstatic index, 3)) (k : ∀ v : Value, (v = .null ∨ ∃ t, v = .ref t) → Nw g p l e R s m args below meth c A Q nL ws cells slots lv (pc + 3) (v :: st)) : Nw g p l e R s m args below meth c A Q nL ws cells slots lv pc st := by
  intro H locs ls hP hD hS hl
  rcases C.2.2.2.2.2.1.2.2.2.2.2.2.2.2.2 with h | ⟨t, h⟩
  · exact va_gets C.1 C.2.1 h hS C.2.2.2.1 (C.2.2.2.2.1 _ hw) (fun _ h9 => h9) hd (k _ (Or.inl rfl) H locs ls hP hD hS hl)
  · exact va_gets C.1 C.2.1 h hS C.2.2.2.1 (C.2.2.2.2.1 _ hw) (fun _ h9 => h9) hd (k _ (Or.inr ⟨t, rfl⟩) H locs ls hP hD hS hl)
theorem nw_slen (C : Cx g p s m args meth c A nL cc own) {i : Nat} (hi : i < nS) (hd : decode cc pc = .ok (.arraylength, 1)) (k : Nw g p l e R s m args below meth c A Q nL ws cells slots lv (pc + 1) (.int (slen i) :: st)) : Nw g p l e R s m args below meth c A Q nL ws cells slots lv pc (.ref (gV g i) :: st) :=
  fun H locs ls hP hD hS hl => va_tlen C.1 C.2.1 (C.2.2.2.2.2.1.2.2.1 i hi).2.2.2 hS rfl hd (k H locs ls hP hD hS hl)
theorem nw_sld (C : Cx g p s m args meth c A nL cc own) {i : Nat} {j : Int32} (hi : i < nS) (hj : vp_in j (lenS.getD i 0)) (hd : decode cc pc = .ok (.baload, 1)) (k : Nw g p l e R s m args below meth c A Q nL ws cells slots lv (pc + 1) (.int (sch i j) :: st)) : Nw g p l e R s m args below meth c A Q nL ws cells slots lv pc (.int j :: .ref (gV g i) :: st) :=
  fun H locs ls hP hD hS hl => va_tb C.1 C.2.1 (C.2.2.2.2.2.1.2.2.1 i hi).2.2.2 hS hj rfl hd (k H locs ls hP hD hS hl)
theorem nw_bret (C : Cx g p s m args meth c A nL cc own) {v : Int32} {ty : FieldType} {mc ms : Nat} {Qq : Option Value → va_W → Prop} (hr : meth.sig.returnType = some ty) (hv : narrow ty (.int v) = .int v) (hd : decode cc pc = .ok (.ireturn, 1)) (hc : cells ≤ mc) (hs : slots ≤ ms) (hq : Qq (some (.int v)) ws) :
    Nw g p l e R s m args below meth c A (RQ g below args s mc ms A Qq) nL ws cells slots lv pc [.int v] :=
  nw_ret0 (v := some (.int v)) hc hs hq (fun H locs ls hf hk => W.zret C.1 C.2.1 hr hv (fun t ht hW => hk t ht hW) hf hd C.2.2.2.2.2.2.2)
/-- a method of a literal -/
theorem nw_callK {y : MethodName} {bytes : ByteArray} {maxL fr lo i n index : Nat} {ret : Option FieldType} {As rest : List Value} {r : Int32} (C : Cx g p s m args meth c A nL cc own) (hM : Ct l g y (.code y bytes maxL ret) fr lo 0 0 ws (.ref (gK g i) :: As) (fun v ws' => v = some (.int r) ∧ ws' = ws) 0 0) (hi : i < nS) (hlink : Cond.methodLink own index y ∈ TT) (hk : Kv y "java/lang/String" bytes maxL ret n) (hR : fr + 1 ≤ R.frames ∧ 8 + (maxL + 11) + lo ≤ R.locals) (hf : cells ≤ R.cells ∧ slots ≤ R.slots) (hn : As.length = n) (hd : decode cc pc = .ok (.invokevirtual index, 3)) (hst : st = As.reverse ++ .ref (gK g i) :: rest) (hW : (rest.map fun v => v.category).sum ≤ 8)
    (k : Nw g p l e R s m args below meth c A Q nL ws cells slots lv (pc + 3) (.int r :: rest)) : Nw g p l e R s m args below meth c A Q nL ws cells slots lv pc st := by
  intro H locs ls hP hD hS hl
  obtain ⟨hx, hb, hml, hown, hts, hE, hA, hlk⟩ := id C
  have hsub := ct_sub hD hS hA
  obtain ⟨hinst, hsel, hini, hcode, hy, hlen⟩ := hk
  have hK := kback (R := R) (p := p) (e := e) (below := below) (s := s) (args := args) (len := 3) (bytes := bytes) (maxL := maxL) (ret := ret) (hM H.size) ct_blind hR.1 hR.2 (fun w hw a' U hW => by
      rcases List.mem_cons.mp hw with h | h
      · rw [h]; exact TT_at hts hcode a' U hW
      · exact TT_at hts h a' U hW) List.mem_cons_self (fun a' U hW => TT_at hts hini a' U hW)
  refine ct_back (rest := rest) (mc := 0) (ms := 0) (Qq := fun v ws' => v = some (.int r) ∧ ws' = ws) C hP hD hS hl ?_ (by rintro v ws' ⟨rfl, rfl⟩; exact k)
  intro T hT X
  obtain ⟨cellB, hcB, hoB, hclB, -⟩ := (hE.2.2.1 i hi).1.kept hS.2.1
  obtain ⟨v, vm₁, ⟨U', l2, c2, s2⟩, hW₁, X', ⟨g', mk, t, L, e1, e2, hq, h1, hL, h2, h3⟩, stp⟩ := callV X hx (C := "java/lang/String") (bytes := bytes) (maxL := maxL) (ret := ret) hown (hts _ hlink) (hts _ hinst) (hts _ hsel) (hts _ hcode) hy hK (by rw [hT]; exact hcB) hoB hclB (g := F0 m pc ls st) rfl (hl.1.trans hml.symm) (argsL := As) (rest := rest) (fun sig h => hn.trans (by rw [h] at hlen; exact (Option.some.inj hlen).symm)) hst (lv_room hW) (by rw [hb]; exact hd)
    (fun vm₁ hW₁ => ⟨hf.1, hf.2, rfl, by show (T.setVm vm₁).heap.size = _; exact congrArg Array.size hT, by show va_P _ _ _ (T.setVm vm₁).heap; rw [show (T.setVm vm₁).heap = H from hT]; exact hP, EO.call hE hS hsub hT hW₁, hD.weaken (fun _ _ _ _ => trivial)⟩)
  dsimp only [Pt.U, Pt.locs, Pt.cells, Pt.slots] at X' e1 e2 h1 h2 h3 stp
  subst h1; subst h2; subst h3
  exact ⟨v, _, t, U', L, hT, X', hL, e1, hq, stp⟩
/-- a static method that leaves the world as it is -/
theorem nw_callJ {y : MethodName} {bytes : ByteArray} {maxL fr lo n index : Nat} {ret : Option FieldType} {As rest : List Value} {rv : Option Value} (C : Cx g p s m args meth c A nL cc own) (hM : Ct l g y (.code y bytes maxL ret) fr lo 0 0 ws As (fun v ws' => v = rv ∧ ws' = ws) 0 0) (hlink : Cond.methodLink own index y ∈ TT) (hk : Ks y bytes maxL ret n) (hR : fr + 1 ≤ R.frames ∧ 8 + (maxL + 11) + lo ≤ R.locals) (hf : cells ≤ R.cells ∧ slots ≤ R.slots) (hn : As.length = n) (hd : decode cc pc = .ok (.invokestatic index, 3)) (hst : st = As.reverse ++ rest) (hW : (rest.map fun v => v.category).sum ≤ 8)
    (k : Nw g p l e R s m args below meth c A Q nL ws cells slots lv (pc + 3) (rv.toList ++ rest)) : Nw g p l e R s m args below meth c A Q nL ws cells slots lv pc st :=
  nw_callS C hM hlink hk.1 hk.2.1 hk.2.2.1 hk.2.2.2.1 hk.2.2.2.2 hR hf hn hd hst hW (by rintro v ws' ⟨rfl, rfl⟩; exact k)
end NWS
theorem c_coder {l : Launch} {g : EG} {ws : va_W} {i : Nat} (hi : i < nS) : Ct l g yJ0_coder_7d493 (.code yJ0_coder_7d493 cJ0_coder_7d493 1 (some .byte)) 0 0 0 0 ws [.ref (gK g i)] (fun v ws' => v = some (.int 0) ∧ ws' = ws) 0 0 := by
  refine Ct.of rfl (by decide) (Nat.le_of_ble_eq_true rfl) ?_
  intro p e s m args below meth c A C hr
  have h : (if (1 : Int32) = 0 then none else some 1) = some 1 := rfl
  refine nw_compact C tw_1112 dJ0_coder_7d493_0 ?_
  refine nw_if_eq (tgt := 13) C dJ0_coder_7d493_3 (by decide) h (fun _ h => by cases h) (fun _ h => ?_)
  refine nw_aload_n (i := 0) C dJ0_coder_7d493_6 rfl 0 rfl ?_
  refine nw_sget C (C.2.2.2.2.2.1.2.2.1 i hi).2.1 tw_2401 dJ0_coder_7d493_7 ?_
  refine nw_goto (tgt := 14) C dJ0_coder_7d493_10 (by decide) ?_
  exact nw_bret C hr rfl dJ0_coder_7d493_14 (Nat.le_refl _) (Nat.le_refl _) ⟨rfl, rfl⟩
theorem c_isLatin1 {l : Launch} {g : EG} {ws : va_W} {i : Nat} (hi : i < nS) : Ct l g yJ0_isLatin1_aae02 (.code yJ0_isLatin1_aae02 cJ0_isLatin1_aae02 1 (some .boolean)) 0 0 0 0 ws [.ref (gK g i)] (fun v ws' => v = some (.int 1) ∧ ws' = ws) 0 0 := by
  refine Ct.of rfl (by decide) (Nat.le_of_ble_eq_true rfl) ?_
  intro p e s m args below meth c A C hr
  have h : (if (1 : Int32) = 0 then none else some 1) = some 1 := rfl
  have h2 : (if (0 : Int32) = 0 then some 1 else none) = some 1 := rfl
  refine nw_compact C tw_1112 dJ0_isLatin1_aae02_0 ?_
  refine nw_if_eq (tgt := 17) C dJ0_isLatin1_aae02_3 (by decide) h (fun _ h => by cases h) (fun _ h => ?_)
  refine nw_aload_n (i := 0) C dJ0_isLatin1_aae02_6 rfl 0 rfl ?_
  refine nw_sget C (C.2.2.2.2.2.1.2.2.1 i hi).2.1 tw_2401 dJ0_isLatin1_aae02_7 ?_
  refine nw_if_ne (tgt := 17) C dJ0_isLatin1_aae02_10 (by decide) h2 (fun _ h => ?_) (fun _ h => by cases h)
  refine nw_iconst (v := 1) C dJ0_isLatin1_aae02_13 (by decide) ?_
  refine nw_goto (tgt := 18) C dJ0_isLatin1_aae02_14 (by decide) ?_
  exact nw_bret C hr rfl dJ0_isLatin1_aae02_18 (Nat.le_refl _) (Nat.le_refl _) ⟨rfl, rfl⟩
theorem c_slength {l : Launch} {g : EG} {ws : va_W} {i : Nat} (hi : i < nS) : Ct l g yJ0_length_8abf5 (.code yJ0_length_8abf5 cJ0_length_8abf5 1 (some .int)) 1 20 0 0 ws [.ref (gK g i)] (fun v ws' => v = some (.int (slen i)) ∧ ws' = ws) 0 0 := by
  refine Ct.of rfl (by decide) (Nat.le_of_ble_eq_true rfl) ?_
  intro p e s m args below meth c A C hr
  refine nw_aload_n (i := 0) C dJ0_length_8abf5_0 rfl 0 rfl ?_
  refine nw_sget C (C.2.2.2.2.2.1.2.2.1 i hi).2.2.1 tw_2400 dJ0_length_8abf5_1 ?_
  refine nw_slen C hi dJ0_length_8abf5_4 ?_
  refine nw_aload_n (i := 0) C dJ0_length_8abf5_5 rfl 0 rfl ?_
  refine nw_callK (As := []) (rest := [.int (slen i)]) C (c_coder hi) hi tw_1108 kv_J0_coder_7d493 ⟨Nat.le_of_ble_eq_true rfl, Nat.le_of_ble_eq_true rfl⟩ ⟨Nat.le_refl _, Nat.le_refl _⟩ rfl dJ0_length_8abf5_6 rfl (Nat.le_of_ble_eq_true rfl) ?_
  refine nw_ishr C dJ0_length_8abf5_9 ?_
  have e1 : slen i >>> ((0 : Int32) &&& 31) = slen i := by
    have h := (sc_all i hi).2.1
    have h2 := pk_shrN (n := lenS.getD i 0) (by omega) ((0 : Int32) &&& 31) 0 (by decide)
    simpa [slen] using h2
  rw [e1]
  exact nw_iret C hr dJ0_length_8abf5_10 (Nat.le_refl _) (Nat.le_refl _) ⟨rfl, rfl⟩
theorem c_pcheck {l : Launch} {g : EG} {ws : va_W} {v : Value} {j n : Int32} (hv : v = .null ∨ ∃ t, v = .ref t) (h1 : ¬ j < 0) (h2 : j < n) : Ct l g yJ3_checkIndex_8e157 (.code yJ3_checkIndex_8e157 cJ3_checkIndex_8e157 3 (some .int)) 0 0 0 0 ws [.int j, .int n, v] (fun v ws' => v = some (.int j) ∧ ws' = ws) 0 0 := by
  refine Ct.of rfl (by decide) (by rcases hv with rfl | ⟨t, rfl⟩ <;> exact Nat.le_of_ble_eq_true rfl) ?_
  intro p e s m args below meth c A C hr
  have e1 : (if j < 0 then none else some 1) = some 1 := if_neg h1
  have e2 : (if j < n then some 1 else none) = some 1 := if_pos h2
  refine nw_lv (lv' := [(0, .int j), (1, .int n)]) [0, 1] rfl ?_
  refine nw_iload_n C dJ3_checkIndex_8e157_0 rfl 0 rfl ?_
  refine nw_if_lt (tgt := 9) C dJ3_checkIndex_8e157_1 (by decide) e1 (fun _ h => by cases h) (fun _ h => ?_)
  refine nw_iload_n C dJ3_checkIndex_8e157_4 rfl 0 rfl ?_
  refine nw_iload_n C dJ3_checkIndex_8e157_5 rfl 1 rfl ?_
  refine nw_icmp_lt (tgt := 16) C dJ3_checkIndex_8e157_6 (by decide) e2 (fun _ h => ?_) (fun _ h => by cases h)
  refine nw_iload_n C dJ3_checkIndex_8e157_16 rfl 0 rfl ?_
  exact nw_iret C hr dJ3_checkIndex_8e157_17 (Nat.le_refl _) (Nat.le_refl _) ⟨rfl, rfl⟩
theorem c_scheck {l : Launch} {g : EG} {ws : va_W} {j n : Int32} (h1 : ¬ j < 0) (h2 : j < n) : Ct l g yJ0_checkIndex_df160 (.code yJ0_checkIndex_df160 cJ0_checkIndex_df160 2 none) 1 40 0 0 ws [.int j, .int n] (fun v ws' => v = none ∧ ws' = ws) 0 0 := by
  refine Ct.of rfl (by decide) (Nat.le_of_ble_eq_true rfl) ?_
  intro p e s m args below meth c A C hr
  refine nw_iload_n (i := 0) C dJ0_checkIndex_df160_0 rfl 0 rfl ?_
  refine nw_iload_n (i := 1) C dJ0_checkIndex_df160_1 rfl 1 rfl ?_
  refine nw_sio C tw_1128 dJ0_checkIndex_df160_2 (fun v hv => ?_)
  refine nw_callJ (As := [.int j, .int n, v]) (rest := []) C (c_pcheck hv h1 h2) tw_1130 ks_J3_checkIndex_8e157 ⟨Nat.le_of_ble_eq_true rfl, Nat.le_of_ble_eq_true rfl⟩ ⟨Nat.le_refl _, Nat.le_refl _⟩ rfl dJ0_checkIndex_df160_5 rfl (Nat.le_of_ble_eq_true rfl) ?_
  refine nw_pop C dJ0_checkIndex_df160_8 rfl ?_
  exact nw_vret C hr dJ0_checkIndex_df160_9 (Nat.le_refl _) (Nat.le_refl _) ⟨rfl, rfl⟩
theorem c_lcharAt {l : Launch} {g : EG} {ws : va_W} {i : Nat} {j : Int32} (hi : i < nS) (hj : vp_in j (lenS.getD i 0)) : Ct l g yJ1_charAt_3b067 (.code yJ1_charAt_3b067 cJ1_charAt_3b067 2 (some .char)) 2 70 0 0 ws [.ref (gV g i), .int j] (fun v ws' => v = some (.int (sch i j)) ∧ ws' = ws) 0 0 := by
  refine Ct.of rfl (by decide) (Nat.le_of_ble_eq_true rfl) ?_
  intro p e s m args below meth c A C hr
  obtain ⟨q1, q2, q3⟩ := sc_all i hi
  obtain ⟨n, hn, rfl⟩ := vp_in_of hj (by omega)
  refine nw_iload_n (i := 1) C dJ1_charAt_3b067_0 rfl 1 rfl ?_
  refine nw_aload_n (i := 0) C dJ1_charAt_3b067_1 rfl 0 rfl ?_
  refine nw_slen C hi dJ1_charAt_3b067_2 ?_
  refine nw_callJ (As := [.int (nI n), .int (slen i)]) (rest := []) C (c_scheck (nI_pos (by omega)) (nI_lt hn (by omega))) tw_1125 ks_J0_checkIndex_df160 ⟨Nat.le_of_ble_eq_true rfl, Nat.le_of_ble_eq_true rfl⟩ ⟨Nat.le_refl _, Nat.le_refl _⟩ rfl dJ1_charAt_3b067_3 rfl (Nat.le_of_ble_eq_true rfl) ?_
  refine nw_aload_n (i := 0) C dJ1_charAt_3b067_6 rfl 0 rfl ?_
  refine nw_iload_n (i := 1) C dJ1_charAt_3b067_7 rfl 1 rfl ?_
  refine nw_sld C hi hj dJ1_charAt_3b067_8 ?_
  refine nw_sipush (v := 255) C dJ1_charAt_3b067_9 (by decide) ?_
  refine nw_iand C dJ1_charAt_3b067_12 ?_
  refine nw_i2c C dJ1_charAt_3b067_13 ?_
  have hm : sch i (nI n) ∈ bytS.getD i [] := by
    unfold sch
    rw [nI_clamp (by omega)]
    exact getD_mem (by omega)
  rw [(q3 _ hm).1]
  exact nw_bret C hr (q3 _ hm).2 dJ1_charAt_3b067_14 (Nat.le_refl _) (Nat.le_refl _) ⟨rfl, rfl⟩
theorem c_scharAt {l : Launch} {g : EG} {ws : va_W} {i : Nat} {j : Int32} (hi : i < nS) (hj : vp_in j (lenS.getD i 0)) : Ct l g yJ0_charAt_5068e (.code yJ0_charAt_5068e cJ0_charAt_5068e 2 (some .char)) 3 100 0 0 ws [.ref (gK g i), .int j] (fun v ws' => v = some (.int (sch i j)) ∧ ws' = ws) 0 0 := by
  refine Ct.of rfl (by decide) (Nat.le_of_ble_eq_true rfl) ?_
  intro p e s m args below meth c A C hr
  obtain ⟨q1, q2, q3⟩ := sc_all i hi
  have h : (if (1 : Int32) = 0 then none else some 1) = some 1 := rfl
  refine nw_aload_n (i := 0) C dJ0_charAt_5068e_0 rfl 0 rfl ?_
  refine nw_callK (As := []) (rest := []) C (c_isLatin1 hi) hi tw_1118 kv_J0_isLatin1_aae02 ⟨Nat.le_of_ble_eq_true rfl, Nat.le_of_ble_eq_true rfl⟩ ⟨Nat.le_refl _, Nat.le_refl _⟩ rfl dJ0_charAt_5068e_1 rfl (Nat.le_of_ble_eq_true rfl) ?_
  refine nw_if_eq (tgt := 16) C dJ0_charAt_5068e_4 (by decide) h (fun _ h => by cases h) (fun _ h => ?_)
  refine nw_aload_n (i := 0) C dJ0_charAt_5068e_7 rfl 0 rfl ?_
  refine nw_sget C (C.2.2.2.2.2.1.2.2.1 i hi).2.2.1 tw_2400 dJ0_charAt_5068e_8 ?_
  refine nw_iload_n (i := 1) C dJ0_charAt_5068e_11 rfl 1 rfl ?_
  refine nw_callJ (As := [.ref (gV g i), .int j]) (rest := []) C (c_lcharAt hi hj) tw_1122 ks_J1_charAt_3b067 ⟨Nat.le_of_ble_eq_true rfl, Nat.le_of_ble_eq_true rfl⟩ ⟨Nat.le_refl _, Nat.le_refl _⟩ rfl dJ0_charAt_5068e_12 rfl (Nat.le_of_ble_eq_true rfl) ?_
  have hm : narrow .char (.int (sch i j)) = .int (sch i j) := by
    obtain ⟨n, hn, rfl⟩ := vp_in_of hj (by omega)
    refine (q3 _ ?_).2
    unfold sch
    rw [nI_clamp (by omega)]
    exact getD_mem (by omega)
  exact nw_bret C hr hm dJ0_charAt_5068e_15 (Nat.le_refl _) (Nat.le_refl _) ⟨rfl, rfl⟩
section NWS2
variable {g : EG} {p : Program} {l : Launch} {e : Env} {R : Room} {s : State} {m : MethodId} {args : Array Value} {below : List Frame} {meth : Method} {c : Code} {A : Nat → Prop} {Q : State → Prop} {nL : Nat} {cc : ByteArray} {own : String} {ws : va_W} {cells slots : Nat} {lv lv' : List (Nat × Value)} {pc : Nat} {st : List Value}
theorem nw_strlen (C : Cx g p s m args meth c A nL cc own) {i index : Nat} (hi : i < nS) (hlink : Cond.methodLink own index yJ0_length_8abf5 ∈ TT) (hR : 2 ≤ R.frames ∧ 40 ≤ R.locals) (hf : cells ≤ R.cells ∧ slots ≤ R.slots) (hd : decode cc pc = .ok (.invokevirtual index, 3)) (hW : (st.map fun v => v.category).sum ≤ 8) (k : Nw g p l e R s m args below meth c A Q nL ws cells slots lv (pc + 3) (.int (slen i) :: st)) : Nw g p l e R s m args below meth c A Q nL ws cells slots lv pc (.ref (gK g i) :: st) :=
  nw_callK (As := []) (rest := st) C (c_slength hi) hi hlink kv_J0_length_8abf5 ⟨hR.1, hR.2⟩ hf rfl hd rfl hW k
theorem nw_strchr (C : Cx g p s m args meth c A nL cc own) {i index : Nat} {j : Int32} {X : Type} {a : Option X} {r : X} (hi : i < nS) (hlink : Cond.methodLink own index yJ0_charAt_5068e ∈ TT) (hR : 4 ≤ R.frames ∧ 121 ≤ R.locals) (hf : cells ≤ R.cells ∧ slots ≤ R.slots) (hd : decode cc pc = .ok (.invokevirtual index, 3)) (hW : (st.map fun v => v.category).sum ≤ 8) (h : gix j (lenS.getD i 0) a = some r) (k : a = some r → Nw g p l e R s m args below meth c A Q nL ws cells slots lv (pc + 3) (.int (sch i j) :: st)) : Nw g p l e R s m args below meth c A Q nL ws cells slots lv pc (.int j :: .ref (gK g i) :: st) :=
  nw_callK (As := [.int j]) (rest := st) C (c_scharAt hi (gix_1 h)) hi hlink kv_J0_charAt_5068e ⟨hR.1, hR.2⟩ hf rfl hd rfl hW (k (gix_2 h))
end NWS2
section NWS3
variable {g : EG} {p : Program} {l : Launch} {e : Env} {s : State} {m : MethodId} {args : Array Value} {below : List Frame} {meth : Method} {c : Code} {A : Nat → Prop} {nL : Nat} {cc : ByteArray} {own : String} {lv : List (Nat × Value)} {pc : Nat} {st : List Value} {am : Nat → Nat} {Rr : va_W} {fr0 lo0 : Nat} {σ : CS}
def MS (g : EG) (am : Nat → Nat) (Rr : va_W) (r : Int32) (σ : CS) : Option Value → va_W → Prop := fun v ws' => v = some (.ref (gK g r.toNatClampNeg)) ∧ ws' = mw g am σ ++ Rr ∧ r.toNatClampNeg < nS
abbrev NMS (g : EG) (p : Program) (l : Launch) (e : Env) (s : State) (m : MethodId) (args : Array Value) (below : List Frame) (meth : Method) (c : Code) (A : Nat → Prop) (fr lo nL : Nat) (am : Nat → Nat) (Rr : va_W) (res : Int32 × CS) (σ : CS) (lv : List (Nat × Value)) (pc : Nat) (st : List Value) : Prop :=
  Nw g p l e { frames := fr, cells := 0, slots := 0, locals := lo } s m args below meth c A (RQ g below args s 0 0 A (MS g am Rr res.1 res.2)) nL (mw g am σ ++ Rr) 0 0 lv pc st
abbrev CmS (l : Launch) (g : EG) (y : MethodName) (cd : Cond) (fr lo : Nat) (am : Nat → Nat) (Rr : va_W) (σ : CS) (av : List Value) (r : Int32) (σ' : CS) : Prop := Ct l g y cd fr lo 0 0 (mw g am σ ++ Rr) av (MS g am Rr r σ') 0 0
theorem nm_sret (C : Cx g p s m args meth c A nL cc own) {res : Int32 × CS} {i : Nat} {v : Int32} (hr : meth.sig.returnType = some (.object "java/lang/String")) (hd : decode cc pc = .ok (.areturn, 1)) (hi : i < nS) (hv : v.toNatClampNeg = i) (h : some (v, σ) = some res) : NMS g p l e s m args below meth c A fr0 lo0 nL am Rr res σ lv pc [.ref (gK g i)] := by
  cases h
  subst hv
  exact nw_aret C hr (Or.inl ⟨_, rfl⟩) hd (Nat.le_refl _) (Nat.le_refl _) ⟨rfl, rfl, hi⟩
theorem nm_callSS (C : Cx g p s m args meth c A nL cc own) {X : Type} {Q : State → Prop} {o : Option (Int32 × CS)} {K : Int32 → CS → Option X} {res : X} {y : MethodName} {bytes : ByteArray} {maxL fr lo n index : Nat} {ret : Option FieldType} {As rest : List Value} (h : bnd o K = some res)
    (hM : ∀ (r1 : Int32) (σ1 : CS), o = some (r1, σ1) → CmS l g y (.code y bytes maxL ret) fr lo am Rr σ As r1 σ1) (hlink : Cond.methodLink own index y ∈ TT) (hk : Ks y bytes maxL ret n) (hR : fr + 1 ≤ fr0 ∧ 8 + (maxL + 11) + lo ≤ lo0) (hn : As.length = n) (hd : decode cc pc = .ok (.invokestatic index, 3)) (hst : st = As.reverse ++ rest) (hW : (rest.map fun v => v.category).sum ≤ 8)
    (k : ∀ (r1 : Int32) (σ1 : CS), r1.toNatClampNeg < nS → K r1 σ1 = some res → Nw g p l e { frames := fr0, cells := 0, slots := 0, locals := lo0 } s m args below meth c A Q nL (mw g am σ1 ++ Rr) 0 0 lv (pc + 3) (.ref (gK g r1.toNatClampNeg) :: rest)) :
    Nw g p l e { frames := fr0, cells := 0, slots := 0, locals := lo0 } s m args below meth c A Q nL (mw g am σ ++ Rr) 0 0 lv pc st := by
  obtain ⟨r1, σ1, e1, h1⟩ := bnd_1 h
  refine nw_callS C (hM r1 σ1 e1) hlink hk.1 hk.2.1 hk.2.2.1 hk.2.2.2.1 hk.2.2.2.2 hR ⟨Nat.le_refl _, Nat.le_refl _⟩ hn hd hst hW ?_
  rintro v ws' ⟨rfl, rfl, hs⟩
  exact k r1 σ1 hs h1
end NWS3
