/-! THE CLAIM OUT OF ONE WALK OF THE LAW'S BODY. Your part is whole_start (and what it stands on); all else here is the same for every law, but numbers. -/
def R_law : String := "ForestCourtsLaw"
def lw_P (b : Addr) (xs : List Int32) (args : Array Value) (s : State) : Prop := args = #[.ref b] ∧ s.IntsAt b xs ∧ xs.length ≤ 3584 ∧ (Jvm.Cond.and given_1 narrow_1).before args s = true
def lw_Q (_ : Array Value) (s : State) (o : Outcome) (t : State) : Prop := o = .returned (some (.int 1)) ∧ Framed s o t [] 601024 7293033
def lw_Z (below : List Frame) (a : Array Value) (s : State) : State → Prop := fun t => ∃ o, t.status = .running ∧ Ended t below o ∧ lw_Q a s o t
/-- the law's own end, with 1 on the stack, nothing written that was there before, its room as the claim has it -/
theorem lw_ret {p : Program} {l : Launch} {e : Env} {s : State} {m : MethodId} {below : List Frame} {meth : Method} {c : Code} {b : Nat} (hx : p.tables.exec = Jvm.exec) (hb : c.code = code) (hr : meth.sig.returnType = ret) (hlocks : meth.locks = false) {pc : Nat} {H : Heap} {ls : Array Slot} (hdg : decode code pc = .ok (.ireturn, 1)) : W p l e room_1 s m #[Value.ref b] below meth c H [] 601024 7293033 (lw_Z below #[Value.ref b] s) (F0 m pc ls [.int 1]) := by
  intro T hT X
  obtain ⟨fs, hret, hrun, hended, hW, hframe⟩ := X.leave (v := some (.int 1)) (hlocks := hlocks) (fun h => by rw [hr] at h; cases h)
  have hmeth' : T.vm.method? m = some meth := X.method'
  refine ⟨T.setFrames fs, ?_, .returned (some (.int 1)), hrun, hended, rfl, ⟨_, rfl⟩, hW, hframe⟩
  jvm_step X.here [X.here.top, hx, hb, hdg, hmeth', hr, ret, narrow_b1]
  (try refine ⟨rfl, ?_⟩); (try refine ⟨rfl, ?_⟩)
  first | (intro acts; rw [hret _ acts rfl rfl rfl]) | rw [hret _ _ rfl rfl rfl]
  exact Steps.refl _
/-- what holds at the law's entry: the machine, the code, the tables' words (any of lw_tbl by 'hts w (by decide +kernel)'), the script of L ints xs at the cell b, what the Statement gives of the start (any of its parts by flat_of_before) -/
def lw_At (p : Program) (s : State) (m : MethodId) (meth : Method) (c : Code) (b L : Nat) (xs : Nat → Int32) : Prop :=
  p.tables.exec = Jvm.exec ∧ c.code = code ∧ meth.sig.returnType = ret ∧ c.maxLocals = 7 ∧ s.vm.findClass R_law = some m.cls ∧ (∀ w ∈ lw_tbl, w.before #[Value.ref b] s = true) ∧ va_X b L xs s s.heap ∧ b < s.heap.size ∧ meth.locks = false ∧ (Jvm.Cond.and given_1 narrow_1).before #[Value.ref b] s = true
/-- what the Statement gives of the literal i -/
def strC (i : Nat) : List Cond :=
  [.exactly (.string (strS i).1 (strS i).2.1) "java/lang/String", .eq (.field (.string (strS i).1 (strS i).2.1) "java/lang/String" "coder" "B") (.int 0), .arrayOf (.field (.string (strS i).1 (strS i).2.1) "java/lang/String" "value" "[B") .byte, .eq (.length (.field (.string (strS i).1 (strS i).2.1) "java/lang/String" "value" "[B")) (.int (Int32.ofNat (lenS.getD i 0)))] ++ (List.range (lenS.getD i 0)).map (fun j => .eq (.elem (.field (.string (strS i).1 (strS i).2.1) "java/lang/String" "value" "[B") (.int (Int32.ofNat j))) (.int ((bytS.getD i []).getD j 0)))
def offS : List Nat := [64, 92, 121, 143, 190, 225, 231, 238, 271, 285, 292, 298, 310, 317, 326, 336, 344, 352, 361, 371, 378, 385, 393, 401, 410, 419, 428, 436, 445, 453, 461, 467, 476, 485, 493, 500, 508, 516, 523, 530]
theorem st_all : ∀ i, i < 40 → ((flatC (Jvm.Cond.and given_1 narrow_1)).drop (offS.getD i 0)).take (4 + lenS.getD i 0) = strC i := by decide +kernel
theorem st_in {i : Nat} (hi : i < nS) {c : Cond} (h : c ∈ strC i) : c ∈ flatC (Jvm.Cond.and given_1 narrow_1) := by
  rw [← st_all i hi] at h
  exact List.mem_of_mem_drop (List.mem_of_mem_take h)
theorem sKs_of {args : Array Value} {s : State} {A : Nat → Prop} (hs : ∀ c ∈ flatC (Jvm.Cond.and given_1 narrow_1), c.before args s = true) (hA : ∀ a : Nat, a < s.heap.size → ¬ A a) : ∃ aK aV : Nat → Nat, sKs aK aV A s s.heap ∧ ∀ i : Nat, i < nS → (Term.string (strS i).1 (strS i).2.1).eval args s none [] s = some (.ref (aK i)) := by
  have h0 : ∀ i : Nat, ∃ q : Nat × Nat, i < nS → (Term.string (strS i).1 (strS i).2.1).eval args s none [] s = some (.ref q.1) ∧ va_O "java/lang/String" q.1 A s s.heap ∧ va_OF "java/lang/String" "coder" "B" (.int 0) q.1 A s s.heap ∧ va_OF "java/lang/String" "value" "[B" (.ref q.2) q.1 A s s.heap ∧ va_T .byte q.2 (lenS.getD i 0) (fun j => .int ((bytS.getD i []).getD j 0)) A s s.heap := by
    intro i
    by_cases hi : i < nS
    · have hc : ∀ c ∈ strC i, c.before args s = true := fun c h => hs c (st_in hi h)
      have hex := hc _ (List.mem_of_getElem? (i := 0) rfl)
      have hco := hc _ (List.mem_of_getElem? (i := 1) rfl)
      have har := hc _ (List.mem_of_getElem? (i := 2) rfl)
      have hle := hc _ (List.mem_of_getElem? (i := 3) rfl)
      have hel : ∀ j : Nat, j < lenS.getD i 0 → (Cond.eq (.elem (.field (.string (strS i).1 (strS i).2.1) "java/lang/String" "value" "[B") (.int (Int32.ofNat j))) (.int ((bytS.getD i []).getD j 0))).before args s = true := fun j hj => hc _ (List.mem_append_right _ (List.mem_map.mpr ⟨j, List.mem_range.mpr hj, rfl⟩))
      obtain ⟨a, c, cA, kA, q1, q2, q3, q4, q5, q6, -⟩ := Cond.exactly_spec (args := args) (first := s) (o := none) (s := s) (idx := []) (t := .string (strS i).1 (strS i).2.1) (cls := "java/lang/String") hex
      obtain ⟨t, ht, hT⟩ := va_Tof (f := fun j => .int ((bytS.getD i []).getD j 0)) (A := A) (Nat.lt_trans (sc_all i hi).2.1 (by decide)) har (va_eqt hle) (fun j hj => va_eqt (hel j hj)) hA
      exact ⟨(a, t), fun _ => ⟨q1, ⟨cA, q3, q5, by rw [q6]; exact q2, hA a (Array.getElem?_eq_some_iff.mp q3).1⟩, vk_OFof q1 (va_eqt hco) hA, vk_OFof q1 ht hA, hT⟩⟩
    · exact ⟨(0, 0), fun h => absurd h hi⟩
  obtain ⟨ad, had⟩ := Classical.axiomOfChoice h0
  exact ⟨fun i => (ad i).1, fun i => (ad i).2, fun i hi => (had i hi).2, fun i hi => (had i hi).1⟩
theorem sr_0 : Cond.stringRef "ForestCourts" 322 "an argument is none such" ∈ lw_tbl := (List.mem_append_right _ (tb_3 (List.mem_of_getElem? (i := 120) rfl)))
theorem sr_1 : Cond.stringRef "ForestCourts" 334 "there is no room for more" ∈ lw_tbl := (List.mem_append_right _ (tb_3 (List.mem_of_getElem? (i := 160) rfl)))
theorem sr_2 : Cond.stringRef "ForestCourts" 329 "there is none such" ∈ lw_tbl := (List.mem_append_right _ (tb_4 (List.mem_of_getElem? (i := 161) rfl)))
theorem sr_3 : Cond.stringRef "ForestCourts$Reader" 46 "bar allow strike fine undo heirs courts use" ∈ lw_tbl := (List.mem_append_right _ (tb_5 (List.mem_of_getElem? (i := 13) rfl)))
theorem sr_4 : Cond.stringRef "ForestCourts$Reader" 87 "cut hunt dogs swine clear build" ∈ lw_tbl := (List.mem_append_right _ (tb_5 (List.mem_of_getElem? (i := 84) rfl)))
theorem sr_5 : Cond.stringRef "ForestCourts$Reader" 69 "if" ∈ lw_tbl := (List.mem_append_right _ (tb_5 (List.mem_of_getElem? (i := 85) rfl)))
theorem sr_6 : Cond.stringRef "ForestCourts$Reader" 108 "not" ∈ lw_tbl := (List.mem_append_right _ (tb_5 (List.mem_of_getElem? (i := 98) rfl)))
theorem sr_7 : Cond.stringRef "ForestCourts$Reader" 128 "many month rank year in doubt" ∈ lw_tbl := (List.mem_append_right _ (tb_5 (List.mem_of_getElem? (i := 139) rfl)))
theorem sr_8 : Cond.stringRef "ForestCourts$Reader" 130 "least most" ∈ lw_tbl := (List.mem_append_right _ (tb_5 (List.mem_of_getElem? (i := 140) rfl)))
theorem sr_9 : Cond.stringRef "ForestCourts$Reader" 106 "and" ∈ lw_tbl := (List.mem_append_right _ (tb_5 (List.mem_of_getElem? (i := 145) rfl)))
theorem sr_10 : Cond.stringRef "ForestCourts$Reader" 98 "or" ∈ lw_tbl := (List.mem_append_right _ (tb_5 (List.mem_of_getElem? (i := 146) rfl)))
theorem sr_11 : Cond.stringRef "ForestCourts$Reader" 89 "free owe" ∈ lw_tbl := (List.mem_append_right _ (tb_5 (List.mem_of_getElem? (i := 155) rfl)))
theorem sr_12 : Cond.stringRef "ForestCourtsModel" 368 "bar" ∈ lw_tbl := (List.mem_append_right _ (tb_8 (List.mem_of_getElem? (i := 234) rfl)))
theorem sr_13 : Cond.stringRef "ForestCourtsModel" 370 "allow" ∈ lw_tbl := (List.mem_append_right _ (tb_8 (List.mem_of_getElem? (i := 235) rfl)))
theorem sr_14 : Cond.stringRef "ForestCourtsModel" 372 "strike" ∈ lw_tbl := (List.mem_append_right _ (tb_8 (List.mem_of_getElem? (i := 236) rfl)))
theorem sr_15 : Cond.stringRef "ForestCourtsModel" 374 "fine" ∈ lw_tbl := (List.mem_append_right _ (tb_8 (List.mem_of_getElem? (i := 237) rfl)))
theorem sr_16 : Cond.stringRef "ForestCourtsModel" 376 "undo" ∈ lw_tbl := (List.mem_append_right _ (tb_8 (List.mem_of_getElem? (i := 238) rfl)))
theorem sr_17 : Cond.stringRef "ForestCourtsModel" 378 "heirs" ∈ lw_tbl := (List.mem_append_right _ (tb_8 (List.mem_of_getElem? (i := 239) rfl)))
theorem sr_18 : Cond.stringRef "ForestCourtsModel" 380 "courts" ∈ lw_tbl := (List.mem_append_right _ (tb_9 (List.mem_of_getElem? (i := 0) rfl)))
theorem sr_19 : Cond.stringRef "ForestCourtsModel" 382 "use" ∈ lw_tbl := (List.mem_append_right _ (tb_9 (List.mem_of_getElem? (i := 1) rfl)))
theorem sr_20 : Cond.stringRef "ForestCourtsModel" 384 "cut" ∈ lw_tbl := (List.mem_append_right _ (tb_9 (List.mem_of_getElem? (i := 23) rfl)))
theorem sr_21 : Cond.stringRef "ForestCourtsModel" 386 "hunt" ∈ lw_tbl := (List.mem_append_right _ (tb_9 (List.mem_of_getElem? (i := 24) rfl)))
theorem sr_22 : Cond.stringRef "ForestCourtsModel" 388 "dogs" ∈ lw_tbl := (List.mem_append_right _ (tb_9 (List.mem_of_getElem? (i := 25) rfl)))
theorem sr_23 : Cond.stringRef "ForestCourtsModel" 390 "swine" ∈ lw_tbl := (List.mem_append_right _ (tb_9 (List.mem_of_getElem? (i := 26) rfl)))
theorem sr_24 : Cond.stringRef "ForestCourtsModel" 392 "clear" ∈ lw_tbl := (List.mem_append_right _ (tb_9 (List.mem_of_getElem? (i := 27) rfl)))
theorem sr_25 : Cond.stringRef "ForestCourtsModel" 394 "build" ∈ lw_tbl := (List.mem_append_right _ (tb_9 (List.mem_of_getElem? (i := 28) rfl)))
theorem sr_26 : Cond.stringRef "ForestCourtsModel" 396 "many" ∈ lw_tbl := (List.mem_append_right _ (tb_9 (List.mem_of_getElem? (i := 63) rfl)))
theorem sr_27 : Cond.stringRef "ForestCourtsModel" 398 "month" ∈ lw_tbl := (List.mem_append_right _ (tb_9 (List.mem_of_getElem? (i := 64) rfl)))
theorem sr_28 : Cond.stringRef "ForestCourtsModel" 400 "rank" ∈ lw_tbl := (List.mem_append_right _ (tb_9 (List.mem_of_getElem? (i := 65) rfl)))
theorem sr_29 : Cond.stringRef "ForestCourtsModel" 401 "year" ∈ lw_tbl := (List.mem_append_right _ (tb_9 (List.mem_of_getElem? (i := 66) rfl)))
theorem sr_30 : Cond.stringRef "ForestCourtsModel" 403 "in" ∈ lw_tbl := (List.mem_append_right _ (tb_9 (List.mem_of_getElem? (i := 67) rfl)))
theorem sr_31 : Cond.stringRef "ForestCourtsModel" 404 "doubt" ∈ lw_tbl := (List.mem_append_right _ (tb_9 (List.mem_of_getElem? (i := 68) rfl)))
theorem sr_32 : Cond.stringRef "ForestCourtsModel" 451 "least" ∈ lw_tbl := (List.mem_append_right _ (tb_9 (List.mem_of_getElem? (i := 69) rfl)))
theorem sr_33 : Cond.stringRef "ForestCourtsModel" 453 "most" ∈ lw_tbl := (List.mem_append_right _ (tb_9 (List.mem_of_getElem? (i := 70) rfl)))
theorem sr_34 : Cond.stringRef "ForestCourtsModel" 485 "if" ∈ lw_tbl := (List.mem_append_right _ (tb_9 (List.mem_of_getElem? (i := 79) rfl)))
theorem sr_35 : Cond.stringRef "ForestCourtsModel" 474 "not" ∈ lw_tbl := (List.mem_append_right _ (tb_9 (List.mem_of_getElem? (i := 92) rfl)))
theorem sr_36 : Cond.stringRef "ForestCourtsModel" 472 "and" ∈ lw_tbl := (List.mem_append_right _ (tb_9 (List.mem_of_getElem? (i := 93) rfl)))
theorem sr_37 : Cond.stringRef "ForestCourtsModel" 467 "or" ∈ lw_tbl := (List.mem_append_right _ (tb_9 (List.mem_of_getElem? (i := 94) rfl)))
theorem sr_38 : Cond.stringRef "ForestCourtsModel" 487 "owe" ∈ lw_tbl := (List.mem_append_right _ (tb_9 (List.mem_of_getElem? (i := 95) rfl)))
theorem sr_39 : Cond.stringRef "ForestCourtsModel" 489 "free" ∈ lw_tbl := (List.mem_append_right _ (tb_9 (List.mem_of_getElem? (i := 96) rfl)))
theorem sr_all : ∀ i, i < nS → Cond.stringRef (strS i).1 (strS i).2.1 (strS i).2.2 ∈ lw_tbl := fun i h => match i, h with | 0, _ => sr_0 | 1, _ => sr_1 | 2, _ => sr_2 | 3, _ => sr_3 | 4, _ => sr_4 | 5, _ => sr_5 | 6, _ => sr_6 | 7, _ => sr_7 | 8, _ => sr_8 | 9, _ => sr_9 | 10, _ => sr_10 | 11, _ => sr_11 | 12, _ => sr_12 | 13, _ => sr_13 | 14, _ => sr_14 | 15, _ => sr_15 | 16, _ => sr_16 | 17, _ => sr_17 | 18, _ => sr_18 | 19, _ => sr_19 | 20, _ => sr_20 | 21, _ => sr_21 | 22, _ => sr_22 | 23, _ => sr_23 | 24, _ => sr_24 | 25, _ => sr_25 | 26, _ => sr_26 | 27, _ => sr_27 | 28, _ => sr_28 | 29, _ => sr_29 | 30, _ => sr_30 | 31, _ => sr_31 | 32, _ => sr_32 | 33, _ => sr_33 | 34, _ => sr_34 | 35, _ => sr_35 | 36, _ => sr_36 | 37, _ => sr_37 | 38, _ => sr_38 | 39, _ => sr_39 | i + 40, h => absurd h (by unfold nS; omega)
theorem ar_int {args : Array Value} {s : State} (h : (Cond.arrayClass .int).before args s = true) : ∃ cA : ClassId, ArrOfT s cA .int ∧ va_RA s cA .int := by
  obtain ⟨cA, kA, comp, h1, h2, h3⟩ := Cond.arrayClass_spec h
  exact ⟨cA, fun n z => ⟨fun k h => (by cases h), kA, h2, comp, h3⟩, h1⟩
theorem ar_boolean {args : Array Value} {s : State} (h : (Cond.arrayClass .boolean).before args s = true) : ∃ cA : ClassId, ArrOfT s cA .boolean ∧ va_RA s cA .boolean := by
  obtain ⟨cA, kA, comp, h1, h2, h3⟩ := Cond.arrayClass_spec h
  exact ⟨cA, fun n z => ⟨fun k h => (by cases h), kA, h2, comp, h3⟩, h1⟩
theorem ar_byte {args : Array Value} {s : State} (h : (Cond.arrayClass .byte).before args s = true) : ∃ cA : ClassId, ArrOfT s cA .byte ∧ va_RA s cA .byte := by
  obtain ⟨cA, kA, comp, h1, h2, h3⟩ := Cond.arrayClass_spec h
  exact ⟨cA, fun n z => ⟨fun k h => (by cases h), kA, h2, comp, h3⟩, h1⟩
theorem ar_long {args : Array Value} {s : State} (h : (Cond.arrayClass .long).before args s = true) : ∃ cA : ClassId, ArrOfT s cA .long ∧ va_RA s cA .long := by
  obtain ⟨cA, kA, comp, h1, h2, h3⟩ := Cond.arrayClass_spec h
  exact ⟨cA, fun n z => ⟨fun k h => (by cases h), kA, h2, comp, h3⟩, h1⟩
theorem nc_args {C T : String} {args : Array Value} {s : State} (h : (Cond.not (.castable C T)).before args s = true) : va_Nw (.not (.castable C T)) s := by
  simp only [va_Nw, Cond.before, Cond.holds, Cond.value] at h ⊢
  exact h
theorem EO_start {p : Program} {s : State} {m : MethodId} {meth : Method} {c : Code} {b L : Nat} {xs : Nat → Int32} (C0 : lw_At p s m meth c b L xs) : ∃ g : EG, EO g (fun q : Nat => s.heap.size ≤ q) s := by
  obtain ⟨hx, hb, hr, hml, hown, hts, hX, hbl, hlocks, hgv⟩ := id C0
  have hs := flat_of_before _ hgv
  have hA : ∀ a : Nat, a < s.heap.size → ¬ (fun q : Nat => s.heap.size ≤ q) a := fun a h => Nat.not_le.mpr h
  have htT : ∀ w ∈ TT, w.before #[Value.ref b] s = true := fun w h => hts w (List.mem_filter.mp h).1
  obtain ⟨cX0, iX0, hX0⟩ := u_known (C := RX0) (T := TX0) (N := 4) (n := 4) htT in_X0 (hts _ (List.mem_append_right _ (tb_1 (List.mem_of_getElem? (i := 197) rfl))))
  obtain ⟨cX1, iX1, hX1⟩ := u_known (C := RX1) (T := TX1) (N := 13) (n := 13) htT in_X1 (hts _ (List.mem_append_right _ (tb_1 (List.mem_of_getElem? (i := 219) rfl))))
  obtain ⟨cX2, iX2, hX2⟩ := u_known (C := RX2) (T := TX2) (N := 4) (n := 4) htT in_X2 (hts _ (List.mem_append_right _ (tb_1 (List.mem_of_getElem? (i := 60) rfl))))
  obtain ⟨cX3, iX3, hX3⟩ := u_known (C := RX3) (T := TX3) (N := 8) (n := 8) htT in_X3 (hts _ (List.mem_append_right _ (tb_1 (List.mem_of_getElem? (i := 114) rfl))))
  obtain ⟨cX4, iX4, hX4⟩ := u_known (C := RX4) (T := TX4) (N := 9) (n := 9) htT in_X4 (hts _ (List.mem_append_right _ (tb_2 (List.mem_of_getElem? (i := 93) rfl))))
  obtain ⟨cX5, iX5, hX5⟩ := u_known (C := RX5) (T := TX5) (N := 1) (n := 1) htT in_X5 (hts _ (List.mem_append_right _ (tb_1 (List.mem_of_getElem? (i := 183) rfl))))
  obtain ⟨cX6, iX6, hX6⟩ := u_known (C := RX6) (T := TX6) (N := 8) (n := 8) htT in_X6 (hts _ (List.mem_append_right _ (tb_1 (List.mem_of_getElem? (i := 122) rfl))))
  obtain ⟨cX7, iX7, hX7⟩ := u_known (C := RX7) (T := TX7) (N := 8) (n := 8) htT in_X7 (hts _ (List.mem_append_right _ (tb_2 (List.mem_of_getElem? (i := 60) rfl))))
  obtain ⟨cX8, iX8, hX8⟩ := u_known (C := RX8) (T := TX8) (N := 7) (n := 7) htT in_X8 (hts _ (List.mem_append_right _ (tb_1 (List.mem_of_getElem? (i := 85) rfl))))
  obtain ⟨cX9, iX9, hX9⟩ := u_known (C := RX9) (T := TX9) (N := 4) (n := 4) htT in_X9 (hts _ (List.mem_append_right _ (tb_1 (List.mem_of_getElem? (i := 37) rfl))))
  obtain ⟨cX10, iX10, hX10⟩ := u_known (C := RX10) (T := TX10) (N := 2) (n := 2) htT in_X10 (hts _ (List.mem_append_right _ (tb_2 (List.mem_of_getElem? (i := 132) rfl))))
  obtain ⟨cX11, iX11, hX11⟩ := u_known (C := RX11) (T := TX11) (N := 10) (n := 10) htT in_X11 (hts _ (List.mem_append_right _ (tb_1 (List.mem_of_getElem? (i := 29) rfl))))
  obtain ⟨cX12, iX12, hX12⟩ := u_known (C := RX12) (T := TX12) (N := 112) (n := 112) htT in_X12 (hts _ (List.mem_append_right _ (tb_7 (List.mem_of_getElem? (i := 6) rfl))))
  obtain ⟨gint, hint⟩ := ar_int (hts _ (List.mem_append_right _ (tb_1 (List.mem_of_getElem? (i := 58) rfl))))
  obtain ⟨gboolean, hboolean⟩ := ar_boolean (hts _ (List.mem_append_right _ (tb_2 (List.mem_of_getElem? (i := 130) rfl))))
  obtain ⟨gbyte, hbyte⟩ := ar_byte (hts _ (List.mem_append_right _ (tb_3 (List.mem_of_getElem? (i := 146) rfl))))
  obtain ⟨glong, hlong⟩ := ar_long (hts _ (List.mem_append_right _ (tb_10 (List.mem_of_getElem? (i := 116) rfl))))
  obtain ⟨aK, aV, hS1, hS2⟩ := sKs_of hs hA
  obtain ⟨aP, hP1, hP2⟩ := va_Tof (tm := .static "ForestCourts$Laws" "PLAIN_RULES" "[I") (ty := .int) (N := 5) (f := fun j => .int (plainR j)) (A := fun q : Nat => s.heap.size ≤ q) (by decide) (hs _ (List.mem_of_getElem? (i := 7) rfl)) (va_eqt (hs _ (List.mem_of_getElem? (i := 8) rfl))) (fun j hj => match j, hj with | 0, _ => va_eqt (hs _ (List.mem_of_getElem? (i := 9) rfl)) | 1, _ => va_eqt (hs _ (List.mem_of_getElem? (i := 10) rfl)) | 2, _ => va_eqt (hs _ (List.mem_of_getElem? (i := 11) rfl)) | 3, _ => va_eqt (hs _ (List.mem_of_getElem? (i := 12) rfl)) | 4, _ => va_eqt (hs _ (List.mem_of_getElem? (i := 13) rfl)) | j + 5, h => absurd h (by omega)) hA
  refine ⟨((fun k => ([cX0, cX1, cX2, cX3, cX4, cX5, cX6, cX7, cX8, cX9, cX10, cX11, cX12] : List ClassId).getD k cX0, fun k => ([iX0, iX1, iX2, iX3, iX4, iX5, iX6, iX7, iX8, iX9, iX10, iX11, iX12] : List (Nat → Nat)).getD k iX0), (gint, gboolean, gbyte, glong), aK, aV, aP), ⟨fun k q hq => ?_, fun k q hq => ?_⟩, fun w hw => ?_, hS1, fun i hi => vk_R.of (hts _ (sr_all i hi)) (hS2 i hi), va_Zof (hts _ (List.mem_append_right _ (tb_3 (List.mem_of_getElem? (i := 181) rfl)))) (hts _ (List.mem_append_right _ (tb_1 (List.mem_of_getElem? (i := 6) rfl)))) hP1 hA, hP2, ?_, ?_, ?_, ?_⟩
  · exact match k, hq with | 0, hq => by cases hq; exact hX0 | 1, hq => by cases hq; exact hX1 | 2, hq => by cases hq; exact hX2 | 3, hq => by cases hq; exact hX3 | 4, hq => by cases hq; exact hX4 | 5, hq => by cases hq; exact hX5 | 6, hq => by cases hq; exact hX6 | 7, hq => by cases hq; exact hX7 | 8, hq => by cases hq; exact hX8 | 9, hq => by cases hq; exact hX9 | 10, hq => by cases hq; exact hX10 | 11, hq => by cases hq; exact hX11 | 12, hq => by cases hq; exact hX12 | j + 13, hq => by cases hq
  · exact match k, hq with | 0, hq => by cases hq; exact hint | 1, hq => by cases hq; exact hboolean | 2, hq => by cases hq; exact hbyte | 3, hq => by cases hq; exact hlong | j + 4, hq => by cases hq
  · rcases List.mem_append.mp hw with hw | hw
    · have h1 := hts w (List.mem_filter.mp hw).1
      have h2 : isN w = true := (List.mem_filter.mp hw).2
      cases w <;> first | exact va_Nw.of rfl h1 | exact Bool.noConfusion h2
    · rcases List.mem_cons.mp hw with rfl | hw
      · exact nc_args (hs _ (List.mem_of_getElem? (i := 62) rfl))
      · rcases List.mem_cons.mp hw with rfl | hw
        · exact nc_args (hs _ (List.mem_of_getElem? (i := 32) rfl))
        · cases hw
  · exact vx_Zqof (hts _ (List.mem_append_right _ (tb_3 (List.mem_of_getElem? (i := 106) rfl)))) (hts _ (List.mem_append_right _ (tb_1 (List.mem_of_getElem? (i := 17) rfl)))) (hs _ (List.mem_of_getElem? (i := 4) rfl)) hA
  · exact vx_Zqof (hts _ (List.mem_append_right _ (tb_3 (List.mem_of_getElem? (i := 108) rfl)))) (hts _ (List.mem_append_right _ (tb_1 (List.mem_of_getElem? (i := 17) rfl)))) (hs _ (List.mem_of_getElem? (i := 5) rfl)) hA
  · exact va_Zof (hts _ (List.mem_append_right _ (tb_5 (List.mem_of_getElem? (i := 31) rfl)))) (hts _ (List.mem_append_right _ (tb_1 (List.mem_of_getElem? (i := 23) rfl)))) (va_eqt (hs _ (List.mem_of_getElem? (i := 14) rfl))) hA
  · exact va_Zqof (hts _ (List.mem_append_right _ (tb_5 (List.mem_of_getElem? (i := 47) rfl)))) (hts _ (List.mem_append_right _ (tb_1 (List.mem_of_getElem? (i := 25) rfl)))) (hs _ (List.mem_of_getElem? (i := 15) rfl)) hA
/-- the law's whole walk, over any tie that the starts have and all calls keep -/
theorem whole_from {p : Program} {e : Env} {s : State} {m : MethodId} {below : List Frame} {meth : Method} {c : Code} {Inv : CS → CS → Prop} (hAg : AgAll Inv) (hI : Inv σ0 τ0) (l : Launch) (hflags : l.flags = flags0) {b L : Nat} {xs : Nat → Int32} (hL : L ≤ 3584) (C0 : lw_At p s m meth c b L xs) : W p l e room_1 s m #[Value.ref b] below meth c s.heap [] 0 0 (lw_Z below #[Value.ref b] s) (entryFrame m ([Value.ref b] : List Value).toArray 7) := by
  obtain ⟨g, hE⟩ := EO_start C0
  obtain ⟨hx, hb, hr, hml, hown, hts, hX, hbl, hlocks, hgv⟩ := id C0
  have hA : ∀ q : Nat, s.heap.size ≤ q → (fun q : Nat => s.heap.size ≤ q) q := fun _ h => h
  have hbA : ¬ (fun q : Nat => s.heap.size ≤ q) b := Nat.not_le.mpr hbl
  have hl0 : l.stackTraces = false := by
    unfold Launch.stackTraces
    rw [hflags]
    decide
  have C : Cx g p s m #[Value.ref b] meth c (fun q : Nat => s.heap.size ≤ q) 7 cL_law "ForestCourtsLaw" := ⟨hx, hb, hml, hown, fun w h => hts w (List.mem_filter.mp h).1, hE, hA, hlocks⟩
  have hend : ∀ (ws : va_W) (cells slots : Nat) (lv : List (Nat × Value)), cells ≤ 601024 → slots ≤ 7293033 → Nw g p l e room_1 s m #[Value.ref b] below meth c (fun q : Nat => s.heap.size ≤ q) (lw_Z below #[Value.ref b] s) 7 ws cells slots lv 2873 [] :=
    fun ws cells slots lv h1 h2 H locs ls hP hD hS hl => W.widen h1 h2 (va_forget hS.2.2 (lv_iconst hx hb dL_law_2873 rfl (lw_ret hx hb hr hlocks dL_law_2874)))
  have K := law_begin (l := l) (e := e) (below := below) (Q := lw_Z below #[Value.ref b] s) (b := b) C (fun ad ta am ao => law_loop C hl0 hAg hL hX hbl hbA hend 513 0 σ0 τ0 ta _ _ _ rfl (by omega) hI (by decide) (by decide) (by decide))
  have hl := lv_entry ([.ref b]) (n := 7) (Nat.le_of_ble_eq_true rfl)
  rw [lg_entry_eq]
  exact K s.heap [] _ (fun k q h => by simp at h) ⟨fun i j p q h => by simp at h, fun k q h => by simp at h⟩ va_S.rf hl
