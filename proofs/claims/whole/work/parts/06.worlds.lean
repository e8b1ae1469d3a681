/-! ===== the worlds of the class and of the reference: numbers for their ints and arrays ===== -/
abbrev CS : Type := (Nat → Int32) × (Nat → Nat → Int32) × (Nat → Nat)
abbrev sF (σ : CS) (k : Nat) (v : Int32) : CS := (va_up σ.1 k v, σ.2.1, σ.2.2)
abbrev sA (σ : CS) (a : Nat) (f : Nat → Int32) : CS := (σ.1, va_up σ.2.1 a f, σ.2.2)
abbrev sL (σ : CS) (t n : Nat) : CS := (σ.1, σ.2.1, va_up σ.2.2 t n)
abbrev rd (σ : CS) (a : Nat) (i : Int32) : Int32 := σ.2.1 a i.toNatClampNeg
abbrev wr (σ : CS) (a : Nat) (i v : Int32) : CS := sA σ a (upd (σ.2.1 a) i.toNatClampNeg v)
def ph (f : Nat → Nat) : Nat := f 0 + f 1 + f 2 + f 3 + f 4 + f 5 + f 6 + f 7 + f 8 + f 9 + f 10 + f 11 + f 12 + f 13 + f 14 + f 15
-- ints of the class: 48 Ground.strip, 49 Search.size, 50 Search.shortest, 51 Search.found, 52 Laws.faultPlace, 53 Laws.word, 54 Laws.saidFine, 55 Reader.end, 56 Reader.at, 57 Reader.text, 58 Reader.fault, 59 Reader.place, 60 Courts.changeDay, 61 Courts.textsThen, 62 Courts.today, 63 Courts.chest, 64 Rolls.size, 65 Rolls.tooMany, 66 Rolls.stale, 67 Patrols.worth, 68 Patrols.stale; of table t: 3t width, 3t+1 limit, 3t+2 rows
-- tables: 0 FC.tape, 1 Ground.marks, 2 Ground.rings, 3 Laws.texts, 4 Laws.clauses, 5 Laws.code, 6 People.rows, 7 Claims.rows, 8 Claims.events, 9 Courts.wardens, 10 Courts.deeds, 11 Courts.presentments, 12 Rolls.entries, 13 Patrols.spots, 14 Woods.rows, 15 Woods.takings; arrays: 16 Ground.row, 17 Search.names, 18 Search.row, 19 Search.best, 20 Laws.held, 21 Courts.facts, 22 Courts.every, 23 Rolls.listed, 24 Rolls.against, 25 Rolls.least, 26 Rolls.order, 27 Patrols.path, 28 Patrols.firstGoes, 29 Patrols.secondGoes, 30 Patrols.given, 31 Patrols.tried
def lenA : Nat → Nat := fun a => ([10, 6, 6, 6, 64, 24, 3, 8, 64, 256, 8, 2048, 256, 256, 8, 8] : List Nat).getD (a - 16) 0
def okI : Nat → Bool := fun a => [16, 17, 18, 19, 20, 21, 22, 23, 24, 25, 26, 27, 30, 31].contains a
def okZ : Nat → Bool := fun a => [28, 29].contains a
def cw (g : EG) (ad ta : Nat → Nat) (σ : CS) : va_W := [(ad 0, .inr (11, [.ref (ad 11), .ref (ad 1), .ref (ad 2), .ref (ad 3), .ref (ad 5), .ref (ad 6), .ref (ad 7), .ref (ad 8), .ref (ad 9), .ref (ad 10)])), (ad 1, .inr (2, [.ref (ad 12), .ref (ad 13), .ref (ad 43), .int (σ.1 48)])), (ad 2, .inr (8, [.ref (ad 1), .ref (ad 44), .ref (ad 45), .ref (ad 46), .int (σ.1 49), .int (σ.1 50), .int (σ.1 51)])), (ad 3, .inr (3, [.ref (ad 14), .ref (ad 15), .ref (ad 16), .ref (ad 4), .ref (ad 47), .int (σ.1 52), .int (σ.1 53), .int (σ.1 54)])), (ad 4, .inr (6, [.ref (ad 11), .ref (ad 15), .ref (ad 16), .int (σ.1 55), .int (σ.1 56), .int (σ.1 57), .int (σ.1 58), .int (σ.1 59)])), (ad 5, .inr (5, [.ref (ad 17)])), (ad 6, .inr (0, [.ref (ad 18), .ref (ad 19), .ref (ad 5), .ref (ad 3)])), (ad 7, .inr (1, [.ref (ad 20), .ref (ad 21), .ref (ad 22), .ref (ad 1), .ref (ad 3), .ref (ad 5), .ref (ad 6), .ref (ad 59), .ref (ad 49), .int (σ.1 60), .int (σ.1 61), .int (σ.1 62), .int (σ.1 63)])), (ad 8, .inr (7, [.ref (ad 23), .ref (ad 50), .ref (ad 51), .ref (ad 52), .ref (ad 53), .int (σ.1 64), .int (σ.1 65), .int (σ.1 66)])), (ad 9, .inr (4, [.ref (ad 20), .ref (ad 24), .ref (ad 54), .ref (ad 55), .ref (ad 56), .ref (ad 57), .ref (ad 58), .int (σ.1 67), .int (σ.1 68)])), (ad 10, .inr (10, [.ref (ad 25), .ref (ad 26)])), (ad 11, .inr (9, [.int (σ.1 0), .int (σ.1 1), .ref (ta 0), .int (σ.1 2)])), (ad 12, .inr (9, [.int (σ.1 3), .int (σ.1 4), .ref (ta 1), .int (σ.1 5)])), (ad 13, .inr (9, [.int (σ.1 6), .int (σ.1 7), .ref (ta 2), .int (σ.1 8)])), (ad 14, .inr (9, [.int (σ.1 9), .int (σ.1 10), .ref (ta 3), .int (σ.1 11)])), (ad 15, .inr (9, [.int (σ.1 12), .int (σ.1 13), .ref (ta 4), .int (σ.1 14)])), (ad 16, .inr (9, [.int (σ.1 15), .int (σ.1 16), .ref (ta 5), .int (σ.1 17)])), (ad 17, .inr (9, [.int (σ.1 18), .int (σ.1 19), .ref (ta 6), .int (σ.1 20)])), (ad 18, .inr (9, [.int (σ.1 21), .int (σ.1 22), .ref (ta 7), .int (σ.1 23)])), (ad 19, .inr (9, [.int (σ.1 24), .int (σ.1 25), .ref (ta 8), .int (σ.1 26)])), (ad 20, .inr (9, [.int (σ.1 27), .int (σ.1 28), .ref (ta 9), .int (σ.1 29)])), (ad 21, .inr (9, [.int (σ.1 30), .int (σ.1 31), .ref (ta 10), .int (σ.1 32)])), (ad 22, .inr (9, [.int (σ.1 33), .int (σ.1 34), .ref (ta 11), .int (σ.1 35)])), (ad 23, .inr (9, [.int (σ.1 36), .int (σ.1 37), .ref (ta 12), .int (σ.1 38)])), (ad 24, .inr (9, [.int (σ.1 39), .int (σ.1 40), .ref (ta 13), .int (σ.1 41)])), (ad 25, .inr (9, [.int (σ.1 42), .int (σ.1 43), .ref (ta 14), .int (σ.1 44)])), (ad 26, .inr (9, [.int (σ.1 45), .int (σ.1 46), .ref (ta 15), .int (σ.1 47)])), (ta 0, .inl (gI g, σ.2.2 0, .inl (σ.2.1 0))), (ta 1, .inl (gI g, σ.2.2 1, .inl (σ.2.1 1))), (ta 2, .inl (gI g, σ.2.2 2, .inl (σ.2.1 2))), (ta 3, .inl (gI g, σ.2.2 3, .inl (σ.2.1 3))), (ta 4, .inl (gI g, σ.2.2 4, .inl (σ.2.1 4))), (ta 5, .inl (gI g, σ.2.2 5, .inl (σ.2.1 5))), (ta 6, .inl (gI g, σ.2.2 6, .inl (σ.2.1 6))), (ta 7, .inl (gI g, σ.2.2 7, .inl (σ.2.1 7))), (ta 8, .inl (gI g, σ.2.2 8, .inl (σ.2.1 8))), (ta 9, .inl (gI g, σ.2.2 9, .inl (σ.2.1 9))), (ta 10, .inl (gI g, σ.2.2 10, .inl (σ.2.1 10))), (ta 11, .inl (gI g, σ.2.2 11, .inl (σ.2.1 11))), (ta 12, .inl (gI g, σ.2.2 12, .inl (σ.2.1 12))), (ta 13, .inl (gI g, σ.2.2 13, .inl (σ.2.1 13))), (ta 14, .inl (gI g, σ.2.2 14, .inl (σ.2.1 14))), (ta 15, .inl (gI g, σ.2.2 15, .inl (σ.2.1 15))), (ad 43, .inl (gI g, 10, .inl (σ.2.1 16))), (ad 44, .inl (gI g, 6, .inl (σ.2.1 17))), (ad 45, .inl (gI g, 6, .inl (σ.2.1 18))), (ad 46, .inl (gI g, 6, .inl (σ.2.1 19))), (ad 47, .inl (gI g, 64, .inl (σ.2.1 20))), (ad 48, .inl (gI g, 24, .inl (σ.2.1 21))), (ad 49, .inl (gI g, 3, .inl (σ.2.1 22))), (ad 50, .inl (gI g, 8, .inl (σ.2.1 23))), (ad 51, .inl (gI g, 64, .inl (σ.2.1 24))), (ad 52, .inl (gI g, 256, .inl (σ.2.1 25))), (ad 53, .inl (gI g, 8, .inl (σ.2.1 26))), (ad 54, .inl (gI g, 2048, .inl (σ.2.1 27))), (ad 55, .inl (gZ g, 256, .inl (σ.2.1 28))), (ad 56, .inl (gZ g, 256, .inl (σ.2.1 29))), (ad 57, .inl (gI g, 8, .inl (σ.2.1 30))), (ad 58, .inl (gI g, 8, .inl (σ.2.1 31))), (ad 59, .inr (9, [.int 6, .int 1, .ref (ad 48), .int 1]))]
section CWR
variable {g : EG} {ad ta : Nat → Nat} {σ : CS} {Rr : va_W}
theorem cl_FC : (cw g ad ta σ ++ Rr)[0]? = some (ad 0, .inr (11, [.ref (ad 11), .ref (ad 1), .ref (ad 2), .ref (ad 3), .ref (ad 5), .ref (ad 6), .ref (ad 7), .ref (ad 8), .ref (ad 9), .ref (ad 10)])) := rfl
theorem cl_Ground : (cw g ad ta σ ++ Rr)[1]? = some (ad 1, .inr (2, [.ref (ad 12), .ref (ad 13), .ref (ad 43), .int (σ.1 48)])) := rfl
theorem cs_Ground_strip {v : Int32} : (cw g ad ta σ ++ Rr).set 1 (ad 1, .inr (2, [.ref (ad 12), .ref (ad 13), .ref (ad 43), .int (σ.1 48)].set 3 (.int v))) = cw g ad ta (sF σ 48 v) ++ Rr := rfl
theorem cl_Search : (cw g ad ta σ ++ Rr)[2]? = some (ad 2, .inr (8, [.ref (ad 1), .ref (ad 44), .ref (ad 45), .ref (ad 46), .int (σ.1 49), .int (σ.1 50), .int (σ.1 51)])) := rfl
theorem cs_Search_size {v : Int32} : (cw g ad ta σ ++ Rr).set 2 (ad 2, .inr (8, [.ref (ad 1), .ref (ad 44), .ref (ad 45), .ref (ad 46), .int (σ.1 49), .int (σ.1 50), .int (σ.1 51)].set 4 (.int v))) = cw g ad ta (sF σ 49 v) ++ Rr := rfl
theorem cs_Search_shortest {v : Int32} : (cw g ad ta σ ++ Rr).set 2 (ad 2, .inr (8, [.ref (ad 1), .ref (ad 44), .ref (ad 45), .ref (ad 46), .int (σ.1 49), .int (σ.1 50), .int (σ.1 51)].set 5 (.int v))) = cw g ad ta (sF σ 50 v) ++ Rr := rfl
theorem cs_Search_found {v : Int32} : (cw g ad ta σ ++ Rr).set 2 (ad 2, .inr (8, [.ref (ad 1), .ref (ad 44), .ref (ad 45), .ref (ad 46), .int (σ.1 49), .int (σ.1 50), .int (σ.1 51)].set 6 (.int v))) = cw g ad ta (sF σ 51 v) ++ Rr := rfl
theorem cl_Laws : (cw g ad ta σ ++ Rr)[3]? = some (ad 3, .inr (3, [.ref (ad 14), .ref (ad 15), .ref (ad 16), .ref (ad 4), .ref (ad 47), .int (σ.1 52), .int (σ.1 53), .int (σ.1 54)])) := rfl
theorem cs_Laws_faultPlace {v : Int32} : (cw g ad ta σ ++ Rr).set 3 (ad 3, .inr (3, [.ref (ad 14), .ref (ad 15), .ref (ad 16), .ref (ad 4), .ref (ad 47), .int (σ.1 52), .int (σ.1 53), .int (σ.1 54)].set 5 (.int v))) = cw g ad ta (sF σ 52 v) ++ Rr := rfl
theorem cs_Laws_word {v : Int32} : (cw g ad ta σ ++ Rr).set 3 (ad 3, .inr (3, [.ref (ad 14), .ref (ad 15), .ref (ad 16), .ref (ad 4), .ref (ad 47), .int (σ.1 52), .int (σ.1 53), .int (σ.1 54)].set 6 (.int v))) = cw g ad ta (sF σ 53 v) ++ Rr := rfl
theorem cs_Laws_saidFine {v : Int32} : (cw g ad ta σ ++ Rr).set 3 (ad 3, .inr (3, [.ref (ad 14), .ref (ad 15), .ref (ad 16), .ref (ad 4), .ref (ad 47), .int (σ.1 52), .int (σ.1 53), .int (σ.1 54)].set 7 (.int v))) = cw g ad ta (sF σ 54 v) ++ Rr := rfl
theorem cl_Reader : (cw g ad ta σ ++ Rr)[4]? = some (ad 4, .inr (6, [.ref (ad 11), .ref (ad 15), .ref (ad 16), .int (σ.1 55), .int (σ.1 56), .int (σ.1 57), .int (σ.1 58), .int (σ.1 59)])) := rfl
theorem cs_Reader_end {v : Int32} : (cw g ad ta σ ++ Rr).set 4 (ad 4, .inr (6, [.ref (ad 11), .ref (ad 15), .ref (ad 16), .int (σ.1 55), .int (σ.1 56), .int (σ.1 57), .int (σ.1 58), .int (σ.1 59)].set 3 (.int v))) = cw g ad ta (sF σ 55 v) ++ Rr := rfl
theorem cs_Reader_at {v : Int32} : (cw g ad ta σ ++ Rr).set 4 (ad 4, .inr (6, [.ref (ad 11), .ref (ad 15), .ref (ad 16), .int (σ.1 55), .int (σ.1 56), .int (σ.1 57), .int (σ.1 58), .int (σ.1 59)].set 4 (.int v))) = cw g ad ta (sF σ 56 v) ++ Rr := rfl
theorem cs_Reader_text {v : Int32} : (cw g ad ta σ ++ Rr).set 4 (ad 4, .inr (6, [.ref (ad 11), .ref (ad 15), .ref (ad 16), .int (σ.1 55), .int (σ.1 56), .int (σ.1 57), .int (σ.1 58), .int (σ.1 59)].set 5 (.int v))) = cw g ad ta (sF σ 57 v) ++ Rr := rfl
theorem cs_Reader_fault {v : Int32} : (cw g ad ta σ ++ Rr).set 4 (ad 4, .inr (6, [.ref (ad 11), .ref (ad 15), .ref (ad 16), .int (σ.1 55), .int (σ.1 56), .int (σ.1 57), .int (σ.1 58), .int (σ.1 59)].set 6 (.int v))) = cw g ad ta (sF σ 58 v) ++ Rr := rfl
theorem cs_Reader_place {v : Int32} : (cw g ad ta σ ++ Rr).set 4 (ad 4, .inr (6, [.ref (ad 11), .ref (ad 15), .ref (ad 16), .int (σ.1 55), .int (σ.1 56), .int (σ.1 57), .int (σ.1 58), .int (σ.1 59)].set 7 (.int v))) = cw g ad ta (sF σ 59 v) ++ Rr := rfl
theorem cl_People : (cw g ad ta σ ++ Rr)[5]? = some (ad 5, .inr (5, [.ref (ad 17)])) := rfl
theorem cl_Claims : (cw g ad ta σ ++ Rr)[6]? = some (ad 6, .inr (0, [.ref (ad 18), .ref (ad 19), .ref (ad 5), .ref (ad 3)])) := rfl
theorem cl_Courts : (cw g ad ta σ ++ Rr)[7]? = some (ad 7, .inr (1, [.ref (ad 20), .ref (ad 21), .ref (ad 22), .ref (ad 1), .ref (ad 3), .ref (ad 5), .ref (ad 6), .ref (ad 59), .ref (ad 49), .int (σ.1 60), .int (σ.1 61), .int (σ.1 62), .int (σ.1 63)])) := rfl
theorem cs_Courts_changeDay {v : Int32} : (cw g ad ta σ ++ Rr).set 7 (ad 7, .inr (1, [.ref (ad 20), .ref (ad 21), .ref (ad 22), .ref (ad 1), .ref (ad 3), .ref (ad 5), .ref (ad 6), .ref (ad 59), .ref (ad 49), .int (σ.1 60), .int (σ.1 61), .int (σ.1 62), .int (σ.1 63)].set 9 (.int v))) = cw g ad ta (sF σ 60 v) ++ Rr := rfl
theorem cs_Courts_textsThen {v : Int32} : (cw g ad ta σ ++ Rr).set 7 (ad 7, .inr (1, [.ref (ad 20), .ref (ad 21), .ref (ad 22), .ref (ad 1), .ref (ad 3), .ref (ad 5), .ref (ad 6), .ref (ad 59), .ref (ad 49), .int (σ.1 60), .int (σ.1 61), .int (σ.1 62), .int (σ.1 63)].set 10 (.int v))) = cw g ad ta (sF σ 61 v) ++ Rr := rfl
theorem cs_Courts_today {v : Int32} : (cw g ad ta σ ++ Rr).set 7 (ad 7, .inr (1, [.ref (ad 20), .ref (ad 21), .ref (ad 22), .ref (ad 1), .ref (ad 3), .ref (ad 5), .ref (ad 6), .ref (ad 59), .ref (ad 49), .int (σ.1 60), .int (σ.1 61), .int (σ.1 62), .int (σ.1 63)].set 11 (.int v))) = cw g ad ta (sF σ 62 v) ++ Rr := rfl
theorem cs_Courts_chest {v : Int32} : (cw g ad ta σ ++ Rr).set 7 (ad 7, .inr (1, [.ref (ad 20), .ref (ad 21), .ref (ad 22), .ref (ad 1), .ref (ad 3), .ref (ad 5), .ref (ad 6), .ref (ad 59), .ref (ad 49), .int (σ.1 60), .int (σ.1 61), .int (σ.1 62), .int (σ.1 63)].set 12 (.int v))) = cw g ad ta (sF σ 63 v) ++ Rr := rfl
theorem cl_Rolls : (cw g ad ta σ ++ Rr)[8]? = some (ad 8, .inr (7, [.ref (ad 23), .ref (ad 50), .ref (ad 51), .ref (ad 52), .ref (ad 53), .int (σ.1 64), .int (σ.1 65), .int (σ.1 66)])) := rfl
theorem cs_Rolls_size {v : Int32} : (cw g ad ta σ ++ Rr).set 8 (ad 8, .inr (7, [.ref (ad 23), .ref (ad 50), .ref (ad 51), .ref (ad 52), .ref (ad 53), .int (σ.1 64), .int (σ.1 65), .int (σ.1 66)].set 5 (.int v))) = cw g ad ta (sF σ 64 v) ++ Rr := rfl
theorem cs_Rolls_tooMany {v : Int32} : (cw g ad ta σ ++ Rr).set 8 (ad 8, .inr (7, [.ref (ad 23), .ref (ad 50), .ref (ad 51), .ref (ad 52), .ref (ad 53), .int (σ.1 64), .int (σ.1 65), .int (σ.1 66)].set 6 (.int v))) = cw g ad ta (sF σ 65 v) ++ Rr := rfl
theorem cs_Rolls_stale {v : Int32} : (cw g ad ta σ ++ Rr).set 8 (ad 8, .inr (7, [.ref (ad 23), .ref (ad 50), .ref (ad 51), .ref (ad 52), .ref (ad 53), .int (σ.1 64), .int (σ.1 65), .int (σ.1 66)].set 7 (.int v))) = cw g ad ta (sF σ 66 v) ++ Rr := rfl
theorem cl_Patrols : (cw g ad ta σ ++ Rr)[9]? = some (ad 9, .inr (4, [.ref (ad 20), .ref (ad 24), .ref (ad 54), .ref (ad 55), .ref (ad 56), .ref (ad 57), .ref (ad 58), .int (σ.1 67), .int (σ.1 68)])) := rfl
theorem cs_Patrols_worth {v : Int32} : (cw g ad ta σ ++ Rr).set 9 (ad 9, .inr (4, [.ref (ad 20), .ref (ad 24), .ref (ad 54), .ref (ad 55), .ref (ad 56), .ref (ad 57), .ref (ad 58), .int (σ.1 67), .int (σ.1 68)].set 7 (.int v))) = cw g ad ta (sF σ 67 v) ++ Rr := rfl
theorem cs_Patrols_stale {v : Int32} : (cw g ad ta σ ++ Rr).set 9 (ad 9, .inr (4, [.ref (ad 20), .ref (ad 24), .ref (ad 54), .ref (ad 55), .ref (ad 56), .ref (ad 57), .ref (ad 58), .int (σ.1 67), .int (σ.1 68)].set 8 (.int v))) = cw g ad ta (sF σ 68 v) ++ Rr := rfl
theorem cl_Woods : (cw g ad ta σ ++ Rr)[10]? = some (ad 10, .inr (10, [.ref (ad 25), .ref (ad 26)])) := rfl
theorem cl_Facts : (cw g ad ta σ ++ Rr)[59]? = some (ad 59, .inr (9, [.int 6, .int 1, .ref (ad 48), .int 1])) := rfl
theorem cl_T (t : Nat) (h : t < 16) : (cw g ad ta σ ++ Rr)[11 + t]? = some (ad (11 + t), .inr (9, [.int (σ.1 (3 * t)), .int (σ.1 (3 * t + 1)), .ref (ta t), .int (σ.1 (3 * t + 2))])) := match t, h with | 0, _ => rfl | 1, _ => rfl | 2, _ => rfl | 3, _ => rfl | 4, _ => rfl | 5, _ => rfl | 6, _ => rfl | 7, _ => rfl | 8, _ => rfl | 9, _ => rfl | 10, _ => rfl | 11, _ => rfl | 12, _ => rfl | 13, _ => rfl | 14, _ => rfl | 15, _ => rfl | n + 16, h => absurd h (by omega)
theorem cl_TA (t : Nat) (h : t < 16) : (cw g ad ta σ ++ Rr)[27 + t]? = some (ta t, .inl (gI g, σ.2.2 t, .inl (σ.2.1 t))) := match t, h with | 0, _ => rfl | 1, _ => rfl | 2, _ => rfl | 3, _ => rfl | 4, _ => rfl | 5, _ => rfl | 6, _ => rfl | 7, _ => rfl | 8, _ => rfl | 9, _ => rfl | 10, _ => rfl | 11, _ => rfl | 12, _ => rfl | 13, _ => rfl | 14, _ => rfl | 15, _ => rfl | n + 16, h => absurd h (by omega)
theorem cs_T (t : Nat) (h : t < 16) {v : Int32} : (cw g ad ta σ ++ Rr).set (11 + t) (ad (11 + t), .inr (9, [.int (σ.1 (3 * t)), .int (σ.1 (3 * t + 1)), .ref (ta t), .int (σ.1 (3 * t + 2))].set 3 (.int v))) = cw g ad ta (sF σ (3 * t + 2) v) ++ Rr := match t, h with | 0, _ => rfl | 1, _ => rfl | 2, _ => rfl | 3, _ => rfl | 4, _ => rfl | 5, _ => rfl | 6, _ => rfl | 7, _ => rfl | 8, _ => rfl | 9, _ => rfl | 10, _ => rfl | 11, _ => rfl | 12, _ => rfl | 13, _ => rfl | 14, _ => rfl | 15, _ => rfl | n + 16, h => absurd h (by omega)
theorem cs_TA (t : Nat) (h : t < 16) {f : Nat → Int32} : (cw g ad ta σ ++ Rr).set (27 + t) (ta t, .inl (gI g, σ.2.2 t, .inl f)) = cw g ad ta (sA σ t f) ++ Rr := match t, h with | 0, _ => rfl | 1, _ => rfl | 2, _ => rfl | 3, _ => rfl | 4, _ => rfl | 5, _ => rfl | 6, _ => rfl | 7, _ => rfl | 8, _ => rfl | 9, _ => rfl | 10, _ => rfl | 11, _ => rfl | 12, _ => rfl | 13, _ => rfl | 14, _ => rfl | 15, _ => rfl | n + 16, h => absurd h (by omega)
theorem cl_I (a : Nat) (h : okI a = true) : (cw g ad ta σ ++ Rr)[27 + a]? = some (ad (27 + a), .inl (gI g, lenA a, .inl (σ.2.1 a))) := by
  have h2 : a = 16 ∨ a = 17 ∨ a = 18 ∨ a = 19 ∨ a = 20 ∨ a = 21 ∨ a = 22 ∨ a = 23 ∨ a = 24 ∨ a = 25 ∨ a = 26 ∨ a = 27 ∨ a = 30 ∨ a = 31 := by
    simp [okI] at h; omega
  rcases h2 with rfl | rfl | rfl | rfl | rfl | rfl | rfl | rfl | rfl | rfl | rfl | rfl | rfl | rfl <;> rfl
theorem cs_I (a : Nat) (h : okI a = true) {f : Nat → Int32} : (cw g ad ta σ ++ Rr).set (27 + a) (ad (27 + a), .inl (gI g, lenA a, .inl f)) = cw g ad ta (sA σ a f) ++ Rr := by
  have h2 : a = 16 ∨ a = 17 ∨ a = 18 ∨ a = 19 ∨ a = 20 ∨ a = 21 ∨ a = 22 ∨ a = 23 ∨ a = 24 ∨ a = 25 ∨ a = 26 ∨ a = 27 ∨ a = 30 ∨ a = 31 := by
    simp [okI] at h; omega
  rcases h2 with rfl | rfl | rfl | rfl | rfl | rfl | rfl | rfl | rfl | rfl | rfl | rfl | rfl | rfl <;> rfl
theorem cl_Z (a : Nat) (h : okZ a = true) : (cw g ad ta σ ++ Rr)[27 + a]? = some (ad (27 + a), .inl (gZ g, lenA a, .inl (σ.2.1 a))) := by
  have h2 : a = 28 ∨ a = 29 := by
    simp [okZ] at h; omega
  rcases h2 with rfl | rfl <;> rfl
theorem cs_Z (a : Nat) (h : okZ a = true) {f : Nat → Int32} : (cw g ad ta σ ++ Rr).set (27 + a) (ad (27 + a), .inl (gZ g, lenA a, .inl f)) = cw g ad ta (sA σ a f) ++ Rr := by
  have h2 : a = 28 ∨ a = 29 := by
    simp [okZ] at h; omega
  rcases h2 with rfl | rfl <;> rfl
end CWR
-- the reference, slots: 0 thrown, 1 today, 2 marks, 3 nameOf, 4 markX, 5 markY, 6 tape, 7 taped, 8 row, 9 rowLong, 10 rings, 11 strip, 12 ringMarks, 13 ringLong, 14 ringFrom, 15 ringTill, 16 wanted, 17 bestWalk, 18 walkedLong, 19 walks, 20 bestLength, 21 texts, 22 size, 23 at, 24 fault, 25 place, 26 open, 27 codes, 28 textFrom, 29 clauseMany, 30 kind, 31 what, 32 begin, 33 second, 34 third, 35 code, 36 number, 37 isForce, 38 people, 39 chest, 40 rank, 41 coins, 42 heirOf, 43 died, 44 wardens, 45 wardenIs, 46 weight, 47 share, 48 deeds, 49 doer, 50 actOf, 51 deedX, 52 deedY, 53 deedDay, 54 manyOf, 55 pile, 56 wordText, 57 wordClause, 58 fineOf, 59 isBar, 60 cases, 61 caseDeed, 62 caseWarden, 63 pledge, 64 accused, 65 state, 66 since, 67 proofs, 68 owed, 69 paid, 70 got, 71 claims, 72 claimer, 73 claimAct, 74 claimX, 75 claimY, 76 useMany, 77 useKind, 78 useDay, 79 entryMany, 80 entryCase, 81 entrySum, 82 listed, 83 ahead, 84 order, 85 bestOrder, 86 listedMany, 87 bestQuarrel, 88 hasLodge, 89 lodgeX, 90 lodgeY, 91 reach, 92 spots, 93 spotX, 94 spotY, 95 worth, 96 way, 97 canBe, 98 who, 99 given, 100 bestGiven, 101 bestWorth, 102 woods, 103 takings, 104 woodFrom, 105 oaks, 106 deer, 107 takeWood, 108 takeKind, 109 takeYear, 110 takeMany, 111 takeTold
def lenM : Nat → Nat := fun a => ([0, 0, 0, 40, 40, 40, 400, 0, 10, 0, 0, 0, 120, 12, 12, 12, 6, 6, 0, 0, 0, 0, 0, 0, 0, 0, 0, 0, 10, 10, 120, 120, 120, 120, 120, 4500, 4500, 10, 0, 0, 40, 40, 40, 40, 0, 6, 6, 6, 0, 60, 60, 60, 60, 60, 60, 450, 0, 0, 0, 0, 0, 40, 40, 80, 40, 40, 40, 40, 40, 120, 40, 0, 20, 20, 20, 20, 20, 1200, 1200, 4, 32, 32, 8, 64, 8, 8, 0, 0, 6, 6, 6, 6, 0, 8, 8, 8, 2048, 512, 2, 8, 8, 0, 0, 0, 6, 6, 6, 100, 100, 100, 100, 100] : List Nat).getD a 0
def plM : Nat → Nat := fun a => ([0, 0, 0, 1, 2, 3, 4, 0, 5, 0, 0, 0, 6, 7, 8, 9, 10, 11, 0, 0, 0, 0, 0, 0, 0, 0, 0, 0, 12, 13, 14, 15, 16, 17, 18, 19, 20, 21, 0, 0, 22, 23, 24, 25, 0, 26, 27, 28, 0, 29, 30, 31, 32, 33, 34, 35, 0, 0, 0, 0, 0, 36, 37, 38, 39, 40, 41, 42, 43, 44, 45, 0, 46, 47, 48, 49, 50, 51, 52, 53, 54, 55, 56, 57, 58, 59, 0, 0, 60, 61, 62, 63, 0, 64, 65, 66, 67, 68, 69, 70, 71, 0, 0, 0, 72, 73, 74, 75, 76, 77, 78, 79] : List Nat).getD a 0
def mfs (am : Nat → Nat) (τ : CS) : List Value := [.int (τ.1 0), .int (τ.1 1), .int (τ.1 2), .ref (am 3), .ref (am 4), .ref (am 5), .ref (am 6), .int (τ.1 7), .ref (am 8), .int (τ.1 9), .int (τ.1 10), .int (τ.1 11), .ref (am 12), .ref (am 13), .ref (am 14), .ref (am 15), .ref (am 16), .ref (am 17), .int (τ.1 18), .int (τ.1 19), .int (τ.1 20), .int (τ.1 21), .int (τ.1 22), .int (τ.1 23), .int (τ.1 24), .int (τ.1 25), .int (τ.1 26), .int (τ.1 27), .ref (am 28), .ref (am 29), .ref (am 30), .ref (am 31), .ref (am 32), .ref (am 33), .ref (am 34), .ref (am 35), .ref (am 36), .ref (am 37), .int (τ.1 38), .int (τ.1 39), .ref (am 40), .ref (am 41), .ref (am 42), .ref (am 43), .int (τ.1 44), .ref (am 45), .ref (am 46), .ref (am 47), .int (τ.1 48), .ref (am 49), .ref (am 50), .ref (am 51), .ref (am 52), .ref (am 53), .ref (am 54), .ref (am 55), .int (τ.1 56), .int (τ.1 57), .int (τ.1 58), .int (τ.1 59), .int (τ.1 60), .ref (am 61), .ref (am 62), .ref (am 63), .ref (am 64), .ref (am 65), .ref (am 66), .ref (am 67), .ref (am 68), .ref (am 69), .ref (am 70), .int (τ.1 71), .ref (am 72), .ref (am 73), .ref (am 74), .ref (am 75), .ref (am 76), .ref (am 77), .ref (am 78), .ref (am 79), .ref (am 80), .ref (am 81), .ref (am 82), .ref (am 83), .ref (am 84), .ref (am 85), .int (τ.1 86), .int (τ.1 87), .ref (am 88), .ref (am 89), .ref (am 90), .ref (am 91), .int (τ.1 92), .ref (am 93), .ref (am 94), .ref (am 95), .ref (am 96), .ref (am 97), .ref (am 98), .ref (am 99), .ref (am 100), .int (τ.1 101), .int (τ.1 102), .int (τ.1 103), .ref (am 104), .ref (am 105), .ref (am 106), .ref (am 107), .ref (am 108), .ref (am 109), .ref (am 110), .ref (am 111)]
def mw (g : EG) (am : Nat → Nat) (τ : CS) : va_W := (am 112, .inr (12, mfs am τ)) :: [(am 3, .inl (gI g, 40, .inl (τ.2.1 3))), (am 4, .inl (gI g, 40, .inl (τ.2.1 4))), (am 5, .inl (gI g, 40, .inl (τ.2.1 5))), (am 6, .inl (gB g, 400, .inl (τ.2.1 6))), (am 8, .inl (gI g, 10, .inl (τ.2.1 8))), (am 12, .inl (gI g, 120, .inl (τ.2.1 12))), (am 13, .inl (gI g, 12, .inl (τ.2.1 13))), (am 14, .inl (gI g, 12, .inl (τ.2.1 14))), (am 15, .inl (gI g, 12, .inl (τ.2.1 15))), (am 16, .inl (gI g, 6, .inl (τ.2.1 16))), (am 17, .inl (gI g, 6, .inl (τ.2.1 17))), (am 28, .inl (gI g, 10, .inl (τ.2.1 28))), (am 29, .inl (gI g, 10, .inl (τ.2.1 29))), (am 30, .inl (gI g, 120, .inl (τ.2.1 30))), (am 31, .inl (gI g, 120, .inl (τ.2.1 31))), (am 32, .inl (gI g, 120, .inl (τ.2.1 32))), (am 33, .inl (gI g, 120, .inl (τ.2.1 33))), (am 34, .inl (gI g, 120, .inl (τ.2.1 34))), (am 35, .inl (gI g, 4500, .inl (τ.2.1 35))), (am 36, .inl (gI g, 4500, .inl (τ.2.1 36))), (am 37, .inl (gZ g, 10, .inl (τ.2.1 37))), (am 40, .inl (gI g, 40, .inl (τ.2.1 40))), (am 41, .inl (gI g, 40, .inl (τ.2.1 41))), (am 42, .inl (gI g, 40, .inl (τ.2.1 42))), (am 43, .inl (gI g, 40, .inl (τ.2.1 43))), (am 45, .inl (gI g, 6, .inl (τ.2.1 45))), (am 46, .inl (gI g, 6, .inl (τ.2.1 46))), (am 47, .inl (gI g, 6, .inl (τ.2.1 47))), (am 49, .inl (gI g, 60, .inl (τ.2.1 49))), (am 50, .inl (gI g, 60, .inl (τ.2.1 50))), (am 51, .inl (gI g, 60, .inl (τ.2.1 51))), (am 52, .inl (gI g, 60, .inl (τ.2.1 52))), (am 53, .inl (gI g, 60, .inl (τ.2.1 53))), (am 54, .inl (gI g, 60, .inl (τ.2.1 54))), (am 55, .inl (gI g, 450, .inl (τ.2.1 55))), (am 61, .inl (gI g, 40, .inl (τ.2.1 61))), (am 62, .inl (gI g, 40, .inl (τ.2.1 62))), (am 63, .inl (gI g, 80, .inl (τ.2.1 63))), (am 64, .inl (gI g, 40, .inl (τ.2.1 64))), (am 65, .inl (gI g, 40, .inl (τ.2.1 65))), (am 66, .inl (gI g, 40, .inl (τ.2.1 66))), (am 67, .inl (gI g, 40, .inl (τ.2.1 67))), (am 68, .inl (gI g, 40, .inl (τ.2.1 68))), (am 69, .inl (gI g, 120, .inl (τ.2.1 69))), (am 70, .inl (gI g, 40, .inl (τ.2.1 70))), (am 72, .inl (gI g, 20, .inl (τ.2.1 72))), (am 73, .inl (gI g, 20, .inl (τ.2.1 73))), (am 74, .inl (gI g, 20, .inl (τ.2.1 74))), (am 75, .inl (gI g, 20, .inl (τ.2.1 75))), (am 76, .inl (gI g, 20, .inl (τ.2.1 76))), (am 77, .inl (gI g, 1200, .inl (τ.2.1 77))), (am 78, .inl (gI g, 1200, .inl (τ.2.1 78))), (am 79, .inl (gI g, 4, .inl (τ.2.1 79))), (am 80, .inl (gI g, 32, .inl (τ.2.1 80))), (am 81, .inl (gI g, 32, .inl (τ.2.1 81))), (am 82, .inl (gI g, 8, .inl (τ.2.1 82))), (am 83, .inl (gI g, 64, .inl (τ.2.1 83))), (am 84, .inl (gI g, 8, .inl (τ.2.1 84))), (am 85, .inl (gI g, 8, .inl (τ.2.1 85))), (am 88, .inl (gZ g, 6, .inl (τ.2.1 88))), (am 89, .inl (gI g, 6, .inl (τ.2.1 89))), (am 90, .inl (gI g, 6, .inl (τ.2.1 90))), (am 91, .inl (gI g, 6, .inl (τ.2.1 91))), (am 93, .inl (gI g, 8, .inl (τ.2.1 93))), (am 94, .inl (gI g, 8, .inl (τ.2.1 94))), (am 95, .inl (gI g, 8, .inl (τ.2.1 95))), (am 96, .inl (gI g, 2048, .inl (τ.2.1 96))), (am 97, .inl (gZ g, 512, .inl (τ.2.1 97))), (am 98, .inl (gI g, 2, .inl (τ.2.1 98))), (am 99, .inl (gI g, 8, .inl (τ.2.1 99))), (am 100, .inl (gI g, 8, .inl (τ.2.1 100))), (am 104, .inl (gI g, 6, .inl (τ.2.1 104))), (am 105, .inl (gI g, 6, .inl (τ.2.1 105))), (am 106, .inl (gI g, 6, .inl (τ.2.1 106))), (am 107, .inl (gI g, 100, .inl (τ.2.1 107))), (am 108, .inl (gI g, 100, .inl (τ.2.1 108))), (am 109, .inl (gI g, 100, .inl (τ.2.1 109))), (am 110, .inl (gI g, 100, .inl (τ.2.1 110))), (am 111, .inl (gI g, 100, .inl (τ.2.1 111)))]
section MWR
variable {g : EG} {am : Nat → Nat} {τ : CS} {Rr : va_W}
theorem ml_O : (mw g am τ ++ Rr)[0]? = some (am 112, .inr (12, mfs am τ)) := rfl
theorem mf_0 : (mfs am τ)[0]? = some (.int (τ.1 0)) := rfl
theorem ms_0 {v : Int32} : (mw g am τ ++ Rr).set 0 (am 112, .inr (12, (mfs am τ).set 0 (.int v))) = mw g am (sF τ 0 v) ++ Rr := rfl
theorem mf_1 : (mfs am τ)[1]? = some (.int (τ.1 1)) := rfl
theorem ms_1 {v : Int32} : (mw g am τ ++ Rr).set 0 (am 112, .inr (12, (mfs am τ).set 1 (.int v))) = mw g am (sF τ 1 v) ++ Rr := rfl
theorem mf_2 : (mfs am τ)[2]? = some (.int (τ.1 2)) := rfl
theorem ms_2 {v : Int32} : (mw g am τ ++ Rr).set 0 (am 112, .inr (12, (mfs am τ).set 2 (.int v))) = mw g am (sF τ 2 v) ++ Rr := rfl
theorem mf_3 : (mfs am τ)[3]? = some (.ref (am 3)) := rfl
theorem ml_3 : (mw g am τ ++ Rr)[1]? = some (am 3, .inl (gI g, 40, .inl (τ.2.1 3))) := rfl
theorem ms_3 {f : Nat → Int32} : (mw g am τ ++ Rr).set 1 (am 3, .inl (gI g, 40, .inl f)) = mw g am (sA τ 3 f) ++ Rr := rfl
theorem mf_4 : (mfs am τ)[4]? = some (.ref (am 4)) := rfl
theorem ml_4 : (mw g am τ ++ Rr)[2]? = some (am 4, .inl (gI g, 40, .inl (τ.2.1 4))) := rfl
theorem ms_4 {f : Nat → Int32} : (mw g am τ ++ Rr).set 2 (am 4, .inl (gI g, 40, .inl f)) = mw g am (sA τ 4 f) ++ Rr := rfl
theorem mf_5 : (mfs am τ)[5]? = some (.ref (am 5)) := rfl
theorem ml_5 : (mw g am τ ++ Rr)[3]? = some (am 5, .inl (gI g, 40, .inl (τ.2.1 5))) := rfl
theorem ms_5 {f : Nat → Int32} : (mw g am τ ++ Rr).set 3 (am 5, .inl (gI g, 40, .inl f)) = mw g am (sA τ 5 f) ++ Rr := rfl
theorem mf_6 : (mfs am τ)[6]? = some (.ref (am 6)) := rfl
theorem ml_6 : (mw g am τ ++ Rr)[4]? = some (am 6, .inl (gB g, 400, .inl (τ.2.1 6))) := rfl
theorem ms_6 {f : Nat → Int32} : (mw g am τ ++ Rr).set 4 (am 6, .inl (gB g, 400, .inl f)) = mw g am (sA τ 6 f) ++ Rr := rfl
theorem mf_7 : (mfs am τ)[7]? = some (.int (τ.1 7)) := rfl
theorem ms_7 {v : Int32} : (mw g am τ ++ Rr).set 0 (am 112, .inr (12, (mfs am τ).set 7 (.int v))) = mw g am (sF τ 7 v) ++ Rr := rfl
theorem mf_8 : (mfs am τ)[8]? = some (.ref (am 8)) := rfl
theorem ml_8 : (mw g am τ ++ Rr)[5]? = some (am 8, .inl (gI g, 10, .inl (τ.2.1 8))) := rfl
theorem ms_8 {f : Nat → Int32} : (mw g am τ ++ Rr).set 5 (am 8, .inl (gI g, 10, .inl f)) = mw g am (sA τ 8 f) ++ Rr := rfl
theorem mf_9 : (mfs am τ)[9]? = some (.int (τ.1 9)) := rfl
theorem ms_9 {v : Int32} : (mw g am τ ++ Rr).set 0 (am 112, .inr (12, (mfs am τ).set 9 (.int v))) = mw g am (sF τ 9 v) ++ Rr := rfl
theorem mf_10 : (mfs am τ)[10]? = some (.int (τ.1 10)) := rfl
theorem ms_10 {v : Int32} : (mw g am τ ++ Rr).set 0 (am 112, .inr (12, (mfs am τ).set 10 (.int v))) = mw g am (sF τ 10 v) ++ Rr := rfl
theorem mf_11 : (mfs am τ)[11]? = some (.int (τ.1 11)) := rfl
theorem ms_11 {v : Int32} : (mw g am τ ++ Rr).set 0 (am 112, .inr (12, (mfs am τ).set 11 (.int v))) = mw g am (sF τ 11 v) ++ Rr := rfl
theorem mf_12 : (mfs am τ)[12]? = some (.ref (am 12)) := rfl
theorem ml_12 : (mw g am τ ++ Rr)[6]? = some (am 12, .inl (gI g, 120, .inl (τ.2.1 12))) := rfl
theorem ms_12 {f : Nat → Int32} : (mw g am τ ++ Rr).set 6 (am 12, .inl (gI g, 120, .inl f)) = mw g am (sA τ 12 f) ++ Rr := rfl
theorem mf_13 : (mfs am τ)[13]? = some (.ref (am 13)) := rfl
theorem ml_13 : (mw g am τ ++ Rr)[7]? = some (am 13, .inl (gI g, 12, .inl (τ.2.1 13))) := rfl
theorem ms_13 {f : Nat → Int32} : (mw g am τ ++ Rr).set 7 (am 13, .inl (gI g, 12, .inl f)) = mw g am (sA τ 13 f) ++ Rr := rfl
theorem mf_14 : (mfs am τ)[14]? = some (.ref (am 14)) := rfl
theorem ml_14 : (mw g am τ ++ Rr)[8]? = some (am 14, .inl (gI g, 12, .inl (τ.2.1 14))) := rfl
theorem ms_14 {f : Nat → Int32} : (mw g am τ ++ Rr).set 8 (am 14, .inl (gI g, 12, .inl f)) = mw g am (sA τ 14 f) ++ Rr := rfl
theorem mf_15 : (mfs am τ)[15]? = some (.ref (am 15)) := rfl
theorem ml_15 : (mw g am τ ++ Rr)[9]? = some (am 15, .inl (gI g, 12, .inl (τ.2.1 15))) := rfl
theorem ms_15 {f : Nat → Int32} : (mw g am τ ++ Rr).set 9 (am 15, .inl (gI g, 12, .inl f)) = mw g am (sA τ 15 f) ++ Rr := rfl
theorem mf_16 : (mfs am τ)[16]? = some (.ref (am 16)) := rfl
theorem ml_16 : (mw g am τ ++ Rr)[10]? = some (am 16, .inl (gI g, 6, .inl (τ.2.1 16))) := rfl
theorem ms_16 {f : Nat → Int32} : (mw g am τ ++ Rr).set 10 (am 16, .inl (gI g, 6, .inl f)) = mw g am (sA τ 16 f) ++ Rr := rfl
theorem mf_17 : (mfs am τ)[17]? = some (.ref (am 17)) := rfl
theorem ml_17 : (mw g am τ ++ Rr)[11]? = some (am 17, .inl (gI g, 6, .inl (τ.2.1 17))) := rfl
theorem ms_17 {f : Nat → Int32} : (mw g am τ ++ Rr).set 11 (am 17, .inl (gI g, 6, .inl f)) = mw g am (sA τ 17 f) ++ Rr := rfl
theorem mf_18 : (mfs am τ)[18]? = some (.int (τ.1 18)) := rfl
theorem ms_18 {v : Int32} : (mw g am τ ++ Rr).set 0 (am 112, .inr (12, (mfs am τ).set 18 (.int v))) = mw g am (sF τ 18 v) ++ Rr := rfl
theorem mf_19 : (mfs am τ)[19]? = some (.int (τ.1 19)) := rfl
theorem ms_19 {v : Int32} : (mw g am τ ++ Rr).set 0 (am 112, .inr (12, (mfs am τ).set 19 (.int v))) = mw g am (sF τ 19 v) ++ Rr := rfl
theorem mf_20 : (mfs am τ)[20]? = some (.int (τ.1 20)) := rfl
theorem ms_20 {v : Int32} : (mw g am τ ++ Rr).set 0 (am 112, .inr (12, (mfs am τ).set 20 (.int v))) = mw g am (sF τ 20 v) ++ Rr := rfl
theorem mf_21 : (mfs am τ)[21]? = some (.int (τ.1 21)) := rfl
theorem ms_21 {v : Int32} : (mw g am τ ++ Rr).set 0 (am 112, .inr (12, (mfs am τ).set 21 (.int v))) = mw g am (sF τ 21 v) ++ Rr := rfl
theorem mf_22 : (mfs am τ)[22]? = some (.int (τ.1 22)) := rfl
theorem ms_22 {v : Int32} : (mw g am τ ++ Rr).set 0 (am 112, .inr (12, (mfs am τ).set 22 (.int v))) = mw g am (sF τ 22 v) ++ Rr := rfl
theorem mf_23 : (mfs am τ)[23]? = some (.int (τ.1 23)) := rfl
theorem ms_23 {v : Int32} : (mw g am τ ++ Rr).set 0 (am 112, .inr (12, (mfs am τ).set 23 (.int v))) = mw g am (sF τ 23 v) ++ Rr := rfl
theorem mf_24 : (mfs am τ)[24]? = some (.int (τ.1 24)) := rfl
theorem ms_24 {v : Int32} : (mw g am τ ++ Rr).set 0 (am 112, .inr (12, (mfs am τ).set 24 (.int v))) = mw g am (sF τ 24 v) ++ Rr := rfl
theorem mf_25 : (mfs am τ)[25]? = some (.int (τ.1 25)) := rfl
theorem ms_25 {v : Int32} : (mw g am τ ++ Rr).set 0 (am 112, .inr (12, (mfs am τ).set 25 (.int v))) = mw g am (sF τ 25 v) ++ Rr := rfl
theorem mf_26 : (mfs am τ)[26]? = some (.int (τ.1 26)) := rfl
theorem ms_26 {v : Int32} : (mw g am τ ++ Rr).set 0 (am 112, .inr (12, (mfs am τ).set 26 (.int v))) = mw g am (sF τ 26 v) ++ Rr := rfl
theorem mf_27 : (mfs am τ)[27]? = some (.int (τ.1 27)) := rfl
theorem ms_27 {v : Int32} : (mw g am τ ++ Rr).set 0 (am 112, .inr (12, (mfs am τ).set 27 (.int v))) = mw g am (sF τ 27 v) ++ Rr := rfl
theorem mf_28 : (mfs am τ)[28]? = some (.ref (am 28)) := rfl
theorem ml_28 : (mw g am τ ++ Rr)[12]? = some (am 28, .inl (gI g, 10, .inl (τ.2.1 28))) := rfl
theorem ms_28 {f : Nat → Int32} : (mw g am τ ++ Rr).set 12 (am 28, .inl (gI g, 10, .inl f)) = mw g am (sA τ 28 f) ++ Rr := rfl
theorem mf_29 : (mfs am τ)[29]? = some (.ref (am 29)) := rfl
theorem ml_29 : (mw g am τ ++ Rr)[13]? = some (am 29, .inl (gI g, 10, .inl (τ.2.1 29))) := rfl
theorem ms_29 {f : Nat → Int32} : (mw g am τ ++ Rr).set 13 (am 29, .inl (gI g, 10, .inl f)) = mw g am (sA τ 29 f) ++ Rr := rfl
theorem mf_30 : (mfs am τ)[30]? = some (.ref (am 30)) := rfl
theorem ml_30 : (mw g am τ ++ Rr)[14]? = some (am 30, .inl (gI g, 120, .inl (τ.2.1 30))) := rfl
theorem ms_30 {f : Nat → Int32} : (mw g am τ ++ Rr).set 14 (am 30, .inl (gI g, 120, .inl f)) = mw g am (sA τ 30 f) ++ Rr := rfl
theorem mf_31 : (mfs am τ)[31]? = some (.ref (am 31)) := rfl
theorem ml_31 : (mw g am τ ++ Rr)[15]? = some (am 31, .inl (gI g, 120, .inl (τ.2.1 31))) := rfl
theorem ms_31 {f : Nat → Int32} : (mw g am τ ++ Rr).set 15 (am 31, .inl (gI g, 120, .inl f)) = mw g am (sA τ 31 f) ++ Rr := rfl
theorem mf_32 : (mfs am τ)[32]? = some (.ref (am 32)) := rfl
theorem ml_32 : (mw g am τ ++ Rr)[16]? = some (am 32, .inl (gI g, 120, .inl (τ.2.1 32))) := rfl
theorem ms_32 {f : Nat → Int32} : (mw g am τ ++ Rr).set 16 (am 32, .inl (gI g, 120, .inl f)) = mw g am (sA τ 32 f) ++ Rr := rfl
theorem mf_33 : (mfs am τ)[33]? = some (.ref (am 33)) := rfl
theorem ml_33 : (mw g am τ ++ Rr)[17]? = some (am 33, .inl (gI g, 120, .inl (τ.2.1 33))) := rfl
theorem ms_33 {f : Nat → Int32} : (mw g am τ ++ Rr).set 17 (am 33, .inl (gI g, 120, .inl f)) = mw g am (sA τ 33 f) ++ Rr := rfl
theorem mf_34 : (mfs am τ)[34]? = some (.ref (am 34)) := rfl
theorem ml_34 : (mw g am τ ++ Rr)[18]? = some (am 34, .inl (gI g, 120, .inl (τ.2.1 34))) := rfl
theorem ms_34 {f : Nat → Int32} : (mw g am τ ++ Rr).set 18 (am 34, .inl (gI g, 120, .inl f)) = mw g am (sA τ 34 f) ++ Rr := rfl
theorem mf_35 : (mfs am τ)[35]? = some (.ref (am 35)) := rfl
theorem ml_35 : (mw g am τ ++ Rr)[19]? = some (am 35, .inl (gI g, 4500, .inl (τ.2.1 35))) := rfl
theorem ms_35 {f : Nat → Int32} : (mw g am τ ++ Rr).set 19 (am 35, .inl (gI g, 4500, .inl f)) = mw g am (sA τ 35 f) ++ Rr := rfl
theorem mf_36 : (mfs am τ)[36]? = some (.ref (am 36)) := rfl
theorem ml_36 : (mw g am τ ++ Rr)[20]? = some (am 36, .inl (gI g, 4500, .inl (τ.2.1 36))) := rfl
theorem ms_36 {f : Nat → Int32} : (mw g am τ ++ Rr).set 20 (am 36, .inl (gI g, 4500, .inl f)) = mw g am (sA τ 36 f) ++ Rr := rfl
theorem mf_37 : (mfs am τ)[37]? = some (.ref (am 37)) := rfl
theorem ml_37 : (mw g am τ ++ Rr)[21]? = some (am 37, .inl (gZ g, 10, .inl (τ.2.1 37))) := rfl
theorem ms_37 {f : Nat → Int32} : (mw g am τ ++ Rr).set 21 (am 37, .inl (gZ g, 10, .inl f)) = mw g am (sA τ 37 f) ++ Rr := rfl
theorem mf_38 : (mfs am τ)[38]? = some (.int (τ.1 38)) := rfl
theorem ms_38 {v : Int32} : (mw g am τ ++ Rr).set 0 (am 112, .inr (12, (mfs am τ).set 38 (.int v))) = mw g am (sF τ 38 v) ++ Rr := rfl
theorem mf_39 : (mfs am τ)[39]? = some (.int (τ.1 39)) := rfl
theorem ms_39 {v : Int32} : (mw g am τ ++ Rr).set 0 (am 112, .inr (12, (mfs am τ).set 39 (.int v))) = mw g am (sF τ 39 v) ++ Rr := rfl
theorem mf_40 : (mfs am τ)[40]? = some (.ref (am 40)) := rfl
theorem ml_40 : (mw g am τ ++ Rr)[22]? = some (am 40, .inl (gI g, 40, .inl (τ.2.1 40))) := rfl
theorem ms_40 {f : Nat → Int32} : (mw g am τ ++ Rr).set 22 (am 40, .inl (gI g, 40, .inl f)) = mw g am (sA τ 40 f) ++ Rr := rfl
theorem mf_41 : (mfs am τ)[41]? = some (.ref (am 41)) := rfl
theorem ml_41 : (mw g am τ ++ Rr)[23]? = some (am 41, .inl (gI g, 40, .inl (τ.2.1 41))) := rfl
theorem ms_41 {f : Nat → Int32} : (mw g am τ ++ Rr).set 23 (am 41, .inl (gI g, 40, .inl f)) = mw g am (sA τ 41 f) ++ Rr := rfl
theorem mf_42 : (mfs am τ)[42]? = some (.ref (am 42)) := rfl
theorem ml_42 : (mw g am τ ++ Rr)[24]? = some (am 42, .inl (gI g, 40, .inl (τ.2.1 42))) := rfl
theorem ms_42 {f : Nat → Int32} : (mw g am τ ++ Rr).set 24 (am 42, .inl (gI g, 40, .inl f)) = mw g am (sA τ 42 f) ++ Rr := rfl
theorem mf_43 : (mfs am τ)[43]? = some (.ref (am 43)) := rfl
theorem ml_43 : (mw g am τ ++ Rr)[25]? = some (am 43, .inl (gI g, 40, .inl (τ.2.1 43))) := rfl
theorem ms_43 {f : Nat → Int32} : (mw g am τ ++ Rr).set 25 (am 43, .inl (gI g, 40, .inl f)) = mw g am (sA τ 43 f) ++ Rr := rfl
theorem mf_44 : (mfs am τ)[44]? = some (.int (τ.1 44)) := rfl
theorem ms_44 {v : Int32} : (mw g am τ ++ Rr).set 0 (am 112, .inr (12, (mfs am τ).set 44 (.int v))) = mw g am (sF τ 44 v) ++ Rr := rfl
theorem mf_45 : (mfs am τ)[45]? = some (.ref (am 45)) := rfl
theorem ml_45 : (mw g am τ ++ Rr)[26]? = some (am 45, .inl (gI g, 6, .inl (τ.2.1 45))) := rfl
theorem ms_45 {f : Nat → Int32} : (mw g am τ ++ Rr).set 26 (am 45, .inl (gI g, 6, .inl f)) = mw g am (sA τ 45 f) ++ Rr := rfl
theorem mf_46 : (mfs am τ)[46]? = some (.ref (am 46)) := rfl
theorem ml_46 : (mw g am τ ++ Rr)[27]? = some (am 46, .inl (gI g, 6, .inl (τ.2.1 46))) := rfl
theorem ms_46 {f : Nat → Int32} : (mw g am τ ++ Rr).set 27 (am 46, .inl (gI g, 6, .inl f)) = mw g am (sA τ 46 f) ++ Rr := rfl
theorem mf_47 : (mfs am τ)[47]? = some (.ref (am 47)) := rfl
theorem ml_47 : (mw g am τ ++ Rr)[28]? = some (am 47, .inl (gI g, 6, .inl (τ.2.1 47))) := rfl
theorem ms_47 {f : Nat → Int32} : (mw g am τ ++ Rr).set 28 (am 47, .inl (gI g, 6, .inl f)) = mw g am (sA τ 47 f) ++ Rr := rfl
theorem mf_48 : (mfs am τ)[48]? = some (.int (τ.1 48)) := rfl
theorem ms_48 {v : Int32} : (mw g am τ ++ Rr).set 0 (am 112, .inr (12, (mfs am τ).set 48 (.int v))) = mw g am (sF τ 48 v) ++ Rr := rfl
theorem mf_49 : (mfs am τ)[49]? = some (.ref (am 49)) := rfl
theorem ml_49 : (mw g am τ ++ Rr)[29]? = some (am 49, .inl (gI g, 60, .inl (τ.2.1 49))) := rfl
theorem ms_49 {f : Nat → Int32} : (mw g am τ ++ Rr).set 29 (am 49, .inl (gI g, 60, .inl f)) = mw g am (sA τ 49 f) ++ Rr := rfl
theorem mf_50 : (mfs am τ)[50]? = some (.ref (am 50)) := rfl
theorem ml_50 : (mw g am τ ++ Rr)[30]? = some (am 50, .inl (gI g, 60, .inl (τ.2.1 50))) := rfl
theorem ms_50 {f : Nat → Int32} : (mw g am τ ++ Rr).set 30 (am 50, .inl (gI g, 60, .inl f)) = mw g am (sA τ 50 f) ++ Rr := rfl
theorem mf_51 : (mfs am τ)[51]? = some (.ref (am 51)) := rfl
theorem ml_51 : (mw g am τ ++ Rr)[31]? = some (am 51, .inl (gI g, 60, .inl (τ.2.1 51))) := rfl
theorem ms_51 {f : Nat → Int32} : (mw g am τ ++ Rr).set 31 (am 51, .inl (gI g, 60, .inl f)) = mw g am (sA τ 51 f) ++ Rr := rfl
theorem mf_52 : (mfs am τ)[52]? = some (.ref (am 52)) := rfl
theorem ml_52 : (mw g am τ ++ Rr)[32]? = some (am 52, .inl (gI g, 60, .inl (τ.2.1 52))) := rfl
theorem ms_52 {f : Nat → Int32} : (mw g am τ ++ Rr).set 32 (am 52, .inl (gI g, 60, .inl f)) = mw g am (sA τ 52 f) ++ Rr := rfl
theorem mf_53 : (mfs am τ)[53]? = some (.ref (am 53)) := rfl
theorem ml_53 : (mw g am τ ++ Rr)[33]? = some (am 53, .inl (gI g, 60, .inl (τ.2.1 53))) := rfl
theorem ms_53 {f : Nat → Int32} : (mw g am τ ++ Rr).set 33 (am 53, .inl (gI g, 60, .inl f)) = mw g am (sA τ 53 f) ++ Rr := rfl
theorem mf_54 : (mfs am τ)[54]? = some (.ref (am 54)) := rfl
theorem ml_54 : (mw g am τ ++ Rr)[34]? = some (am 54, .inl (gI g, 60, .inl (τ.2.1 54))) := rfl
theorem ms_54 {f : Nat → Int32} : (mw g am τ ++ Rr).set 34 (am 54, .inl (gI g, 60, .inl f)) = mw g am (sA τ 54 f) ++ Rr := rfl
theorem mf_55 : (mfs am τ)[55]? = some (.ref (am 55)) := rfl
theorem ml_55 : (mw g am τ ++ Rr)[35]? = some (am 55, .inl (gI g, 450, .inl (τ.2.1 55))) := rfl
theorem ms_55 {f : Nat → Int32} : (mw g am τ ++ Rr).set 35 (am 55, .inl (gI g, 450, .inl f)) = mw g am (sA τ 55 f) ++ Rr := rfl
theorem mf_56 : (mfs am τ)[56]? = some (.int (τ.1 56)) := rfl
theorem ms_56 {v : Int32} : (mw g am τ ++ Rr).set 0 (am 112, .inr (12, (mfs am τ).set 56 (.int v))) = mw g am (sF τ 56 v) ++ Rr := rfl
theorem mf_57 : (mfs am τ)[57]? = some (.int (τ.1 57)) := rfl
theorem ms_57 {v : Int32} : (mw g am τ ++ Rr).set 0 (am 112, .inr (12, (mfs am τ).set 57 (.int v))) = mw g am (sF τ 57 v) ++ Rr := rfl
theorem mf_58 : (mfs am τ)[58]? = some (.int (τ.1 58)) := rfl
theorem ms_58 {v : Int32} : (mw g am τ ++ Rr).set 0 (am 112, .inr (12, (mfs am τ).set 58 (.int v))) = mw g am (sF τ 58 v) ++ Rr := rfl
theorem mf_59 : (mfs am τ)[59]? = some (.int (τ.1 59)) := rfl
theorem ms_59 {v : Int32} : (mw g am τ ++ Rr).set 0 (am 112, .inr (12, (mfs am τ).set 59 (.int v))) = mw g am (sF τ 59 v) ++ Rr := rfl
theorem mf_60 : (mfs am τ)[60]? = some (.int (τ.1 60)) := rfl
theorem ms_60 {v : Int32} : (mw g am τ ++ Rr).set 0 (am 112, .inr (12, (mfs am τ).set 60 (.int v))) = mw g am (sF τ 60 v) ++ Rr := rfl
theorem mf_61 : (mfs am τ)[61]? = some (.ref (am 61)) := rfl
theorem ml_61 : (mw g am τ ++ Rr)[36]? = some (am 61, .inl (gI g, 40, .inl (τ.2.1 61))) := rfl
theorem ms_61 {f : Nat → Int32} : (mw g am τ ++ Rr).set 36 (am 61, .inl (gI g, 40, .inl f)) = mw g am (sA τ 61 f) ++ Rr := rfl
theorem mf_62 : (mfs am τ)[62]? = some (.ref (am 62)) := rfl
theorem ml_62 : (mw g am τ ++ Rr)[37]? = some (am 62, .inl (gI g, 40, .inl (τ.2.1 62))) := rfl
theorem ms_62 {f : Nat → Int32} : (mw g am τ ++ Rr).set 37 (am 62, .inl (gI g, 40, .inl f)) = mw g am (sA τ 62 f) ++ Rr := rfl
theorem mf_63 : (mfs am τ)[63]? = some (.ref (am 63)) := rfl
theorem ml_63 : (mw g am τ ++ Rr)[38]? = some (am 63, .inl (gI g, 80, .inl (τ.2.1 63))) := rfl
theorem ms_63 {f : Nat → Int32} : (mw g am τ ++ Rr).set 38 (am 63, .inl (gI g, 80, .inl f)) = mw g am (sA τ 63 f) ++ Rr := rfl
theorem mf_64 : (mfs am τ)[64]? = some (.ref (am 64)) := rfl
theorem ml_64 : (mw g am τ ++ Rr)[39]? = some (am 64, .inl (gI g, 40, .inl (τ.2.1 64))) := rfl
theorem ms_64 {f : Nat → Int32} : (mw g am τ ++ Rr).set 39 (am 64, .inl (gI g, 40, .inl f)) = mw g am (sA τ 64 f) ++ Rr := rfl
theorem mf_65 : (mfs am τ)[65]? = some (.ref (am 65)) := rfl
theorem ml_65 : (mw g am τ ++ Rr)[40]? = some (am 65, .inl (gI g, 40, .inl (τ.2.1 65))) := rfl
theorem ms_65 {f : Nat → Int32} : (mw g am τ ++ Rr).set 40 (am 65, .inl (gI g, 40, .inl f)) = mw g am (sA τ 65 f) ++ Rr := rfl
theorem mf_66 : (mfs am τ)[66]? = some (.ref (am 66)) := rfl
theorem ml_66 : (mw g am τ ++ Rr)[41]? = some (am 66, .inl (gI g, 40, .inl (τ.2.1 66))) := rfl
theorem ms_66 {f : Nat → Int32} : (mw g am τ ++ Rr).set 41 (am 66, .inl (gI g, 40, .inl f)) = mw g am (sA τ 66 f) ++ Rr := rfl
theorem mf_67 : (mfs am τ)[67]? = some (.ref (am 67)) := rfl
theorem ml_67 : (mw g am τ ++ Rr)[42]? = some (am 67, .inl (gI g, 40, .inl (τ.2.1 67))) := rfl
theorem ms_67 {f : Nat → Int32} : (mw g am τ ++ Rr).set 42 (am 67, .inl (gI g, 40, .inl f)) = mw g am (sA τ 67 f) ++ Rr := rfl
theorem mf_68 : (mfs am τ)[68]? = some (.ref (am 68)) := rfl
theorem ml_68 : (mw g am τ ++ Rr)[43]? = some (am 68, .inl (gI g, 40, .inl (τ.2.1 68))) := rfl
theorem ms_68 {f : Nat → Int32} : (mw g am τ ++ Rr).set 43 (am 68, .inl (gI g, 40, .inl f)) = mw g am (sA τ 68 f) ++ Rr := rfl
theorem mf_69 : (mfs am τ)[69]? = some (.ref (am 69)) := rfl
theorem ml_69 : (mw g am τ ++ Rr)[44]? = some (am 69, .inl (gI g, 120, .inl (τ.2.1 69))) := rfl
theorem ms_69 {f : Nat → Int32} : (mw g am τ ++ Rr).set 44 (am 69, .inl (gI g, 120, .inl f)) = mw g am (sA τ 69 f) ++ Rr := rfl
theorem mf_70 : (mfs am τ)[70]? = some (.ref (am 70)) := rfl
theorem ml_70 : (mw g am τ ++ Rr)[45]? = some (am 70, .inl (gI g, 40, .inl (τ.2.1 70))) := rfl
theorem ms_70 {f : Nat → Int32} : (mw g am τ ++ Rr).set 45 (am 70, .inl (gI g, 40, .inl f)) = mw g am (sA τ 70 f) ++ Rr := rfl
theorem mf_71 : (mfs am τ)[71]? = some (.int (τ.1 71)) := rfl
theorem ms_71 {v : Int32} : (mw g am τ ++ Rr).set 0 (am 112, .inr (12, (mfs am τ).set 71 (.int v))) = mw g am (sF τ 71 v) ++ Rr := rfl
theorem mf_72 : (mfs am τ)[72]? = some (.ref (am 72)) := rfl
theorem ml_72 : (mw g am τ ++ Rr)[46]? = some (am 72, .inl (gI g, 20, .inl (τ.2.1 72))) := rfl
theorem ms_72 {f : Nat → Int32} : (mw g am τ ++ Rr).set 46 (am 72, .inl (gI g, 20, .inl f)) = mw g am (sA τ 72 f) ++ Rr := rfl
theorem mf_73 : (mfs am τ)[73]? = some (.ref (am 73)) := rfl
theorem ml_73 : (mw g am τ ++ Rr)[47]? = some (am 73, .inl (gI g, 20, .inl (τ.2.1 73))) := rfl
theorem ms_73 {f : Nat → Int32} : (mw g am τ ++ Rr).set 47 (am 73, .inl (gI g, 20, .inl f)) = mw g am (sA τ 73 f) ++ Rr := rfl
theorem mf_74 : (mfs am τ)[74]? = some (.ref (am 74)) := rfl
theorem ml_74 : (mw g am τ ++ Rr)[48]? = some (am 74, .inl (gI g, 20, .inl (τ.2.1 74))) := rfl
theorem ms_74 {f : Nat → Int32} : (mw g am τ ++ Rr).set 48 (am 74, .inl (gI g, 20, .inl f)) = mw g am (sA τ 74 f) ++ Rr := rfl
theorem mf_75 : (mfs am τ)[75]? = some (.ref (am 75)) := rfl
theorem ml_75 : (mw g am τ ++ Rr)[49]? = some (am 75, .inl (gI g, 20, .inl (τ.2.1 75))) := rfl
theorem ms_75 {f : Nat → Int32} : (mw g am τ ++ Rr).set 49 (am 75, .inl (gI g, 20, .inl f)) = mw g am (sA τ 75 f) ++ Rr := rfl
theorem mf_76 : (mfs am τ)[76]? = some (.ref (am 76)) := rfl
theorem ml_76 : (mw g am τ ++ Rr)[50]? = some (am 76, .inl (gI g, 20, .inl (τ.2.1 76))) := rfl
theorem ms_76 {f : Nat → Int32} : (mw g am τ ++ Rr).set 50 (am 76, .inl (gI g, 20, .inl f)) = mw g am (sA τ 76 f) ++ Rr := rfl
theorem mf_77 : (mfs am τ)[77]? = some (.ref (am 77)) := rfl
theorem ml_77 : (mw g am τ ++ Rr)[51]? = some (am 77, .inl (gI g, 1200, .inl (τ.2.1 77))) := rfl
theorem ms_77 {f : Nat → Int32} : (mw g am τ ++ Rr).set 51 (am 77, .inl (gI g, 1200, .inl f)) = mw g am (sA τ 77 f) ++ Rr := rfl
theorem mf_78 : (mfs am τ)[78]? = some (.ref (am 78)) := rfl
theorem ml_78 : (mw g am τ ++ Rr)[52]? = some (am 78, .inl (gI g, 1200, .inl (τ.2.1 78))) := rfl
theorem ms_78 {f : Nat → Int32} : (mw g am τ ++ Rr).set 52 (am 78, .inl (gI g, 1200, .inl f)) = mw g am (sA τ 78 f) ++ Rr := rfl
theorem mf_79 : (mfs am τ)[79]? = some (.ref (am 79)) := rfl
theorem ml_79 : (mw g am τ ++ Rr)[53]? = some (am 79, .inl (gI g, 4, .inl (τ.2.1 79))) := rfl
theorem ms_79 {f : Nat → Int32} : (mw g am τ ++ Rr).set 53 (am 79, .inl (gI g, 4, .inl f)) = mw g am (sA τ 79 f) ++ Rr := rfl
theorem mf_80 : (mfs am τ)[80]? = some (.ref (am 80)) := rfl
theorem ml_80 : (mw g am τ ++ Rr)[54]? = some (am 80, .inl (gI g, 32, .inl (τ.2.1 80))) := rfl
theorem ms_80 {f : Nat → Int32} : (mw g am τ ++ Rr).set 54 (am 80, .inl (gI g, 32, .inl f)) = mw g am (sA τ 80 f) ++ Rr := rfl
theorem mf_81 : (mfs am τ)[81]? = some (.ref (am 81)) := rfl
theorem ml_81 : (mw g am τ ++ Rr)[55]? = some (am 81, .inl (gI g, 32, .inl (τ.2.1 81))) := rfl
theorem ms_81 {f : Nat → Int32} : (mw g am τ ++ Rr).set 55 (am 81, .inl (gI g, 32, .inl f)) = mw g am (sA τ 81 f) ++ Rr := rfl
theorem mf_82 : (mfs am τ)[82]? = some (.ref (am 82)) := rfl
theorem ml_82 : (mw g am τ ++ Rr)[56]? = some (am 82, .inl (gI g, 8, .inl (τ.2.1 82))) := rfl
theorem ms_82 {f : Nat → Int32} : (mw g am τ ++ Rr).set 56 (am 82, .inl (gI g, 8, .inl f)) = mw g am (sA τ 82 f) ++ Rr := rfl
theorem mf_83 : (mfs am τ)[83]? = some (.ref (am 83)) := rfl
theorem ml_83 : (mw g am τ ++ Rr)[57]? = some (am 83, .inl (gI g, 64, .inl (τ.2.1 83))) := rfl
theorem ms_83 {f : Nat → Int32} : (mw g am τ ++ Rr).set 57 (am 83, .inl (gI g, 64, .inl f)) = mw g am (sA τ 83 f) ++ Rr := rfl
theorem mf_84 : (mfs am τ)[84]? = some (.ref (am 84)) := rfl
theorem ml_84 : (mw g am τ ++ Rr)[58]? = some (am 84, .inl (gI g, 8, .inl (τ.2.1 84))) := rfl
theorem ms_84 {f : Nat → Int32} : (mw g am τ ++ Rr).set 58 (am 84, .inl (gI g, 8, .inl f)) = mw g am (sA τ 84 f) ++ Rr := rfl
theorem mf_85 : (mfs am τ)[85]? = some (.ref (am 85)) := rfl
theorem ml_85 : (mw g am τ ++ Rr)[59]? = some (am 85, .inl (gI g, 8, .inl (τ.2.1 85))) := rfl
theorem ms_85 {f : Nat → Int32} : (mw g am τ ++ Rr).set 59 (am 85, .inl (gI g, 8, .inl f)) = mw g am (sA τ 85 f) ++ Rr := rfl
theorem mf_86 : (mfs am τ)[86]? = some (.int (τ.1 86)) := rfl
theorem ms_86 {v : Int32} : (mw g am τ ++ Rr).set 0 (am 112, .inr (12, (mfs am τ).set 86 (.int v))) = mw g am (sF τ 86 v) ++ Rr := rfl
theorem mf_87 : (mfs am τ)[87]? = some (.int (τ.1 87)) := rfl
theorem ms_87 {v : Int32} : (mw g am τ ++ Rr).set 0 (am 112, .inr (12, (mfs am τ).set 87 (.int v))) = mw g am (sF τ 87 v) ++ Rr := rfl
theorem mf_88 : (mfs am τ)[88]? = some (.ref (am 88)) := rfl
theorem ml_88 : (mw g am τ ++ Rr)[60]? = some (am 88, .inl (gZ g, 6, .inl (τ.2.1 88))) := rfl
theorem ms_88 {f : Nat → Int32} : (mw g am τ ++ Rr).set 60 (am 88, .inl (gZ g, 6, .inl f)) = mw g am (sA τ 88 f) ++ Rr := rfl
theorem mf_89 : (mfs am τ)[89]? = some (.ref (am 89)) := rfl
theorem ml_89 : (mw g am τ ++ Rr)[61]? = some (am 89, .inl (gI g, 6, .inl (τ.2.1 89))) := rfl
theorem ms_89 {f : Nat → Int32} : (mw g am τ ++ Rr).set 61 (am 89, .inl (gI g, 6, .inl f)) = mw g am (sA τ 89 f) ++ Rr := rfl
theorem mf_90 : (mfs am τ)[90]? = some (.ref (am 90)) := rfl
theorem ml_90 : (mw g am τ ++ Rr)[62]? = some (am 90, .inl (gI g, 6, .inl (τ.2.1 90))) := rfl
theorem ms_90 {f : Nat → Int32} : (mw g am τ ++ Rr).set 62 (am 90, .inl (gI g, 6, .inl f)) = mw g am (sA τ 90 f) ++ Rr := rfl
theorem mf_91 : (mfs am τ)[91]? = some (.ref (am 91)) := rfl
theorem ml_91 : (mw g am τ ++ Rr)[63]? = some (am 91, .inl (gI g, 6, .inl (τ.2.1 91))) := rfl
theorem ms_91 {f : Nat → Int32} : (mw g am τ ++ Rr).set 63 (am 91, .inl (gI g, 6, .inl f)) = mw g am (sA τ 91 f) ++ Rr := rfl
theorem mf_92 : (mfs am τ)[92]? = some (.int (τ.1 92)) := rfl
theorem ms_92 {v : Int32} : (mw g am τ ++ Rr).set 0 (am 112, .inr (12, (mfs am τ).set 92 (.int v))) = mw g am (sF τ 92 v) ++ Rr := rfl
theorem mf_93 : (mfs am τ)[93]? = some (.ref (am 93)) := rfl
theorem ml_93 : (mw g am τ ++ Rr)[64]? = some (am 93, .inl (gI g, 8, .inl (τ.2.1 93))) := rfl
theorem ms_93 {f : Nat → Int32} : (mw g am τ ++ Rr).set 64 (am 93, .inl (gI g, 8, .inl f)) = mw g am (sA τ 93 f) ++ Rr := rfl
theorem mf_94 : (mfs am τ)[94]? = some (.ref (am 94)) := rfl
theorem ml_94 : (mw g am τ ++ Rr)[65]? = some (am 94, .inl (gI g, 8, .inl (τ.2.1 94))) := rfl
theorem ms_94 {f : Nat → Int32} : (mw g am τ ++ Rr).set 65 (am 94, .inl (gI g, 8, .inl f)) = mw g am (sA τ 94 f) ++ Rr := rfl
theorem mf_95 : (mfs am τ)[95]? = some (.ref (am 95)) := rfl
theorem ml_95 : (mw g am τ ++ Rr)[66]? = some (am 95, .inl (gI g, 8, .inl (τ.2.1 95))) := rfl
theorem ms_95 {f : Nat → Int32} : (mw g am τ ++ Rr).set 66 (am 95, .inl (gI g, 8, .inl f)) = mw g am (sA τ 95 f) ++ Rr := rfl
theorem mf_96 : (mfs am τ)[96]? = some (.ref (am 96)) := rfl
theorem ml_96 : (mw g am τ ++ Rr)[67]? = some (am 96, .inl (gI g, 2048, .inl (τ.2.1 96))) := rfl
theorem ms_96 {f : Nat → Int32} : (mw g am τ ++ Rr).set 67 (am 96, .inl (gI g, 2048, .inl f)) = mw g am (sA τ 96 f) ++ Rr := rfl
theorem mf_97 : (mfs am τ)[97]? = some (.ref (am 97)) := rfl
theorem ml_97 : (mw g am τ ++ Rr)[68]? = some (am 97, .inl (gZ g, 512, .inl (τ.2.1 97))) := rfl
theorem ms_97 {f : Nat → Int32} : (mw g am τ ++ Rr).set 68 (am 97, .inl (gZ g, 512, .inl f)) = mw g am (sA τ 97 f) ++ Rr := rfl
theorem mf_98 : (mfs am τ)[98]? = some (.ref (am 98)) := rfl
theorem ml_98 : (mw g am τ ++ Rr)[69]? = some (am 98, .inl (gI g, 2, .inl (τ.2.1 98))) := rfl
theorem ms_98 {f : Nat → Int32} : (mw g am τ ++ Rr).set 69 (am 98, .inl (gI g, 2, .inl f)) = mw g am (sA τ 98 f) ++ Rr := rfl
theorem mf_99 : (mfs am τ)[99]? = some (.ref (am 99)) := rfl
theorem ml_99 : (mw g am τ ++ Rr)[70]? = some (am 99, .inl (gI g, 8, .inl (τ.2.1 99))) := rfl
theorem ms_99 {f : Nat → Int32} : (mw g am τ ++ Rr).set 70 (am 99, .inl (gI g, 8, .inl f)) = mw g am (sA τ 99 f) ++ Rr := rfl
theorem mf_100 : (mfs am τ)[100]? = some (.ref (am 100)) := rfl
theorem ml_100 : (mw g am τ ++ Rr)[71]? = some (am 100, .inl (gI g, 8, .inl (τ.2.1 100))) := rfl
theorem ms_100 {f : Nat → Int32} : (mw g am τ ++ Rr).set 71 (am 100, .inl (gI g, 8, .inl f)) = mw g am (sA τ 100 f) ++ Rr := rfl
theorem mf_101 : (mfs am τ)[101]? = some (.int (τ.1 101)) := rfl
theorem ms_101 {v : Int32} : (mw g am τ ++ Rr).set 0 (am 112, .inr (12, (mfs am τ).set 101 (.int v))) = mw g am (sF τ 101 v) ++ Rr := rfl
theorem mf_102 : (mfs am τ)[102]? = some (.int (τ.1 102)) := rfl
theorem ms_102 {v : Int32} : (mw g am τ ++ Rr).set 0 (am 112, .inr (12, (mfs am τ).set 102 (.int v))) = mw g am (sF τ 102 v) ++ Rr := rfl
theorem mf_103 : (mfs am τ)[103]? = some (.int (τ.1 103)) := rfl
theorem ms_103 {v : Int32} : (mw g am τ ++ Rr).set 0 (am 112, .inr (12, (mfs am τ).set 103 (.int v))) = mw g am (sF τ 103 v) ++ Rr := rfl
theorem mf_104 : (mfs am τ)[104]? = some (.ref (am 104)) := rfl
theorem ml_104 : (mw g am τ ++ Rr)[72]? = some (am 104, .inl (gI g, 6, .inl (τ.2.1 104))) := rfl
theorem ms_104 {f : Nat → Int32} : (mw g am τ ++ Rr).set 72 (am 104, .inl (gI g, 6, .inl f)) = mw g am (sA τ 104 f) ++ Rr := rfl
theorem mf_105 : (mfs am τ)[105]? = some (.ref (am 105)) := rfl
theorem ml_105 : (mw g am τ ++ Rr)[73]? = some (am 105, .inl (gI g, 6, .inl (τ.2.1 105))) := rfl
theorem ms_105 {f : Nat → Int32} : (mw g am τ ++ Rr).set 73 (am 105, .inl (gI g, 6, .inl f)) = mw g am (sA τ 105 f) ++ Rr := rfl
theorem mf_106 : (mfs am τ)[106]? = some (.ref (am 106)) := rfl
theorem ml_106 : (mw g am τ ++ Rr)[74]? = some (am 106, .inl (gI g, 6, .inl (τ.2.1 106))) := rfl
theorem ms_106 {f : Nat → Int32} : (mw g am τ ++ Rr).set 74 (am 106, .inl (gI g, 6, .inl f)) = mw g am (sA τ 106 f) ++ Rr := rfl
theorem mf_107 : (mfs am τ)[107]? = some (.ref (am 107)) := rfl
theorem ml_107 : (mw g am τ ++ Rr)[75]? = some (am 107, .inl (gI g, 100, .inl (τ.2.1 107))) := rfl
theorem ms_107 {f : Nat → Int32} : (mw g am τ ++ Rr).set 75 (am 107, .inl (gI g, 100, .inl f)) = mw g am (sA τ 107 f) ++ Rr := rfl
theorem mf_108 : (mfs am τ)[108]? = some (.ref (am 108)) := rfl
theorem ml_108 : (mw g am τ ++ Rr)[76]? = some (am 108, .inl (gI g, 100, .inl (τ.2.1 108))) := rfl
theorem ms_108 {f : Nat → Int32} : (mw g am τ ++ Rr).set 76 (am 108, .inl (gI g, 100, .inl f)) = mw g am (sA τ 108 f) ++ Rr := rfl
theorem mf_109 : (mfs am τ)[109]? = some (.ref (am 109)) := rfl
theorem ml_109 : (mw g am τ ++ Rr)[77]? = some (am 109, .inl (gI g, 100, .inl (τ.2.1 109))) := rfl
theorem ms_109 {f : Nat → Int32} : (mw g am τ ++ Rr).set 77 (am 109, .inl (gI g, 100, .inl f)) = mw g am (sA τ 109 f) ++ Rr := rfl
theorem mf_110 : (mfs am τ)[110]? = some (.ref (am 110)) := rfl
theorem ml_110 : (mw g am τ ++ Rr)[78]? = some (am 110, .inl (gI g, 100, .inl (τ.2.1 110))) := rfl
theorem ms_110 {f : Nat → Int32} : (mw g am τ ++ Rr).set 78 (am 110, .inl (gI g, 100, .inl f)) = mw g am (sA τ 110 f) ++ Rr := rfl
theorem mf_111 : (mfs am τ)[111]? = some (.ref (am 111)) := rfl
theorem ml_111 : (mw g am τ ++ Rr)[79]? = some (am 111, .inl (gI g, 100, .inl (τ.2.1 111))) := rfl
theorem ms_111 {f : Nat → Int32} : (mw g am τ ++ Rr).set 79 (am 111, .inl (gI g, 100, .inl f)) = mw g am (sA τ 111 f) ++ Rr := rfl
end MWR
