section
variable {g : EG} {p : Program} {l : Launch} {e : Env} {s : State} {m : MethodId} {args : Array Value} {below : List Frame} {meth : Method} {c : Code} {A : Nat → Prop} {ad am ta : Nat → Nat} {Rr : va_W} {φ0 : Nat}
theorem dX11_wood_0 : decode cX11_wood 0 = .ok (.iload_n 1, 1) := by decide +kernel
theorem dX11_wood_1 : decode cX11_wood 1 = .ok (.invokestatic 289, 3) := by decide +kernel
theorem dX11_wood_4 : decode cX11_wood 4 = .ok (.ifCond .eq 27, 3) := by decide +kernel
theorem dX11_wood_7 : decode cX11_wood 7 = .ok (.iload_n 2, 1) := by decide +kernel
theorem dX11_wood_8 : decode cX11_wood 8 = .ok (.iconst 0, 1) := by decide +kernel
theorem dX11_wood_9 : decode cX11_wood 9 = .ok (.ldc 104, 2) := by decide +kernel
theorem dX11_wood_11 : decode cX11_wood 11 = .ok (.invokestatic 92, 3) := by decide +kernel
theorem dX11_wood_14 : decode cX11_wood 14 = .ok (.ifCond .eq 17, 3) := by decide +kernel
theorem dX11_wood_17 : decode cX11_wood 17 = .ok (.iload_n 3, 1) := by decide +kernel
theorem dX11_wood_18 : decode cX11_wood 18 = .ok (.iconst 0, 1) := by decide +kernel
theorem dX11_wood_19 : decode cX11_wood 19 = .ok (.ldc 104, 2) := by decide +kernel
theorem dX11_wood_21 : decode cX11_wood 21 = .ok (.invokestatic 92, 3) := by decide +kernel
theorem dX11_wood_24 : decode cX11_wood 24 = .ok (.ifCond .eq 7, 3) := by decide +kernel
theorem dX11_wood_27 : decode cX11_wood 27 = .ok (.iconst 1, 1) := by decide +kernel
theorem dX11_wood_28 : decode cX11_wood 28 = .ok (.goto 4, 3) := by decide +kernel
theorem dX11_wood_31 : decode cX11_wood 31 = .ok (.iconst 0, 1) := by decide +kernel
theorem dX11_wood_32 : decode cX11_wood 32 = .ok (.invokestatic 96, 3) := by decide +kernel
theorem dX11_wood_35 : decode cX11_wood 35 = .ok (.aload_n 0, 1) := by decide +kernel
theorem dX11_wood_36 : decode cX11_wood 36 = .ok (.getfield 88, 3) := by decide +kernel
theorem dX11_wood_39 : decode cX11_wood 39 = .ok (.iload_n 1, 1) := by decide +kernel
theorem dX11_wood_40 : decode cX11_wood 40 = .ok (.iload_n 2, 1) := by decide +kernel
theorem dX11_wood_41 : decode cX11_wood 41 = .ok (.iload_n 3, 1) := by decide +kernel
theorem dX11_wood_42 : decode cX11_wood 42 = .ok (.invokevirtual 292, 3) := by decide +kernel
theorem dX11_wood_45 : decode cX11_wood 45 = .ok (.ireturn, 1) := by decide +kernel
def B_FC_wood_32   (x1 : Int32) (x2 : Int32) (x3 : Int32) (z0 : Int32) (σ : CS) : Option ((Int32 × Int32) × CS) := if z0 = 0 then some ((1, 0), σ) else (bnd (f_Woods_addWood x1 x2 x3 σ) (fun r42 σ42 => some ((0, r42), σ42)))
set_option maxHeartbeats 4000000 in
set_option maxRecDepth 100000 in
theorem w_FC_wood_32 (C : Cx g p s m args meth c A 4 cX11_wood yX11_wood.cls) (hr : meth.sig.returnType = (some .int)) (hl : l.stackTraces = false) (hex : ∀ x ∈ c.exceptionTable.toList, False) {res : (Int32 × Int32) × CS}   (x1 : Int32) (x2 : Int32) (x3 : Int32) (z0 : Int32)  (σ : CS) (ta : Nat → Nat) (hφ : φ0 ≤ ph σ.2.2) (hφ2 : ph σ.2.2 ≤ BB) (h : B_FC_wood_32 x1 x2 x3 z0 σ = some res) : NX g p l e s m args below meth c A 13 304 4 ad Rr φ0 res ta σ [(0, .ref (ad 0)), (1, .int x1), (2, .int x2), (3, .int x3)] 32 [.int z0] := by
  unfold B_FC_wood_32 at h
  refine nx_check C hex (by decide) (fun _ => ct_checkArgument hl) (fun _ hb => cr_checkArgument hb) tw_678 ks_X11_checkArgument ⟨Nat.le_of_ble_eq_true rfl, Nat.le_of_ble_eq_true rfl⟩ dX11_wood_32 (Nat.le_of_ble_eq_true rfl) hφ hφ2 h (fun _ h => ?_)
  refine nw_aload_n C dX11_wood_35 rfl 0 rfl ?_
  refine nw_get (v := .ref (ad 10)) C in_X11 0 cl_FC rfl 9 (by decide) tw_519 rfl rfl dX11_wood_36 ?_
  refine nw_iload_n C dX11_wood_39 rfl 1 rfl ?_
  refine nw_iload_n C dX11_wood_40 rfl 2 rfl ?_
  refine nw_iload_n C dX11_wood_41 rfl 3 rfl ?_
  refine nx_callVI (q0 := 10) (As := [.int x1, .int x2, .int x3]) (rest := []) C h (fun _ _ e => c_Woods_addWood e hφ2) tw_1525 kv_X10_addWood cl_Woods rfl ⟨Nat.le_of_ble_eq_true rfl, Nat.le_of_ble_eq_true rfl⟩ rfl dX11_wood_42 rfl (Nat.le_of_ble_eq_true rfl) hφ hφ2 (fun r42 σ42 ta h hφ hφ2 => ?_)
  exact nx_iret C hr dX11_wood_45 hφ hφ2 h
def B_FC_wood_31   (x1 : Int32) (x2 : Int32) (x3 : Int32) (σ : CS) : Option ((Int32 × Int32) × CS) := B_FC_wood_32 x1 x2 x3 0 σ
set_option maxHeartbeats 4000000 in
set_option maxRecDepth 100000 in
theorem w_FC_wood_31 (C : Cx g p s m args meth c A 4 cX11_wood yX11_wood.cls) (hr : meth.sig.returnType = (some .int)) (hl : l.stackTraces = false) (hex : ∀ x ∈ c.exceptionTable.toList, False) {res : (Int32 × Int32) × CS}   (x1 : Int32) (x2 : Int32) (x3 : Int32)  (σ : CS) (ta : Nat → Nat) (hφ : φ0 ≤ ph σ.2.2) (hφ2 : ph σ.2.2 ≤ BB) (h : B_FC_wood_31 x1 x2 x3 σ = some res) : NX g p l e s m args below meth c A 13 304 4 ad Rr φ0 res ta σ [(0, .ref (ad 0)), (1, .int x1), (2, .int x2), (3, .int x3)] 31 [] := by
  unfold B_FC_wood_31 at h
  refine nw_iconst (v := 0) C dX11_wood_31 (by decide) ?_
  exact nw_lv (lv' := [(0, .ref (ad 0)), (1, .int x1), (2, .int x2), (3, .int x3)]) [0, 1, 2, 3] rfl (w_FC_wood_32 C hr hl hex x1 x2 x3 0 _ _ hφ hφ2 h)
def f_FC_wood (p0 : Int32) (p1 : Int32) (p2 : Int32) (σ : CS) : Option ((Int32 × Int32) × CS) := bnd (f_FC_isYear p0 σ) (fun r1 σ1 => if r1 = 0 then B_FC_wood_31 p0 p1 p2 σ1 else bnd (f_FC_within p1 0 100000 σ1) (fun r11 σ11 => if r11 = 0 then B_FC_wood_31 p0 p1 p2 σ11 else bnd (f_FC_within p2 0 100000 σ11) (fun r21 σ21 => if r21 = 0 then B_FC_wood_31 p0 p1 p2 σ21 else B_FC_wood_32 p0 p1 p2 1 σ21)))
set_option maxHeartbeats 4000000 in
set_option maxRecDepth 100000 in
theorem c_FC_wood {l : Launch} {g : EG} {ad ta : Nat → Nat} {Rr : va_W} {σ : CS} {res : (Int32 × Int32) × CS} {p0 : Int32} {p1 : Int32} {p2 : Int32} (hl : l.stackTraces = false) (h : f_FC_wood p0 p1 p2 σ = some res) (hφ2 : ph σ.2.2 ≤ BB) : CxI l g yX11_wood (.code yX11_wood cX11_wood 4 (some .int)) 13 304 ad ta Rr σ [.ref (ad 0), .int p0, .int p1, .int p2] res := by
  refine CtX.of rfl (by decide) (Nat.le_of_ble_eq_true rfl) ?_
  intro p e s m args below meth c A C hr hex
  have hφ : ph σ.2.2 ≤ ph σ.2.2 := Nat.le_refl _
  refine nw_zero (ph σ.2.2) ?_
  show NX g p l e s m args below meth c A 13 304 4 ad Rr (ph σ.2.2) res ta σ [(0, .ref (ad 0)), (1, .int p0), (2, .int p1), (3, .int p2)] 0 []
  unfold f_FC_wood at h
  refine nw_iload_n C dX11_wood_0 rfl 1 rfl ?_
  refine nx_callSI  (As := [.int p0]) (rest := []) C h (fun _ _ e => c_FC_isYear e hφ2) tw_1522 ks_X11_isYear ⟨Nat.le_of_ble_eq_true rfl, Nat.le_of_ble_eq_true rfl⟩ rfl dX11_wood_1 rfl (Nat.le_of_ble_eq_true rfl) hφ hφ2 (fun r1 σ1 ta h hφ hφ2 => ?_)
  refine nw_if_eq (tgt := 31) C dX11_wood_4 (by decide) h (fun _ h => ?_) (fun _ h => ?_)
  · exact nw_lv (lv' := [(0, .ref (ad 0)), (1, .int p0), (2, .int p1), (3, .int p2)]) [0, 1, 2, 3] rfl (w_FC_wood_31 C hr hl hex p0 p1 p2 _ _ hφ hφ2 h)
  · refine nw_iload_n C dX11_wood_7 rfl 2 rfl ?_
    refine nw_iconst (v := 0) C dX11_wood_8 (by decide) ?_
    refine nw_ldc (v := 100000) C tw_749 dX11_wood_9 ?_
    refine nx_callSI  (As := [.int p1, .int 0, .int 100000]) (rest := []) C h (fun _ _ e => c_FC_within e hφ2) tw_675 ks_X11_within ⟨Nat.le_of_ble_eq_true rfl, Nat.le_of_ble_eq_true rfl⟩ rfl dX11_wood_11 rfl (Nat.le_of_ble_eq_true rfl) hφ hφ2 (fun r11 σ11 ta h hφ hφ2 => ?_)
    refine nw_if_eq (tgt := 31) C dX11_wood_14 (by decide) h (fun _ h => ?_) (fun _ h => ?_)
    · exact nw_lv (lv' := [(0, .ref (ad 0)), (1, .int p0), (2, .int p1), (3, .int p2)]) [0, 1, 2, 3] rfl (w_FC_wood_31 C hr hl hex p0 p1 p2 _ _ hφ hφ2 h)
    · refine nw_iload_n C dX11_wood_17 rfl 3 rfl ?_
      refine nw_iconst (v := 0) C dX11_wood_18 (by decide) ?_
      refine nw_ldc (v := 100000) C tw_749 dX11_wood_19 ?_
      refine nx_callSI  (As := [.int p2, .int 0, .int 100000]) (rest := []) C h (fun _ _ e => c_FC_within e hφ2) tw_675 ks_X11_within ⟨Nat.le_of_ble_eq_true rfl, Nat.le_of_ble_eq_true rfl⟩ rfl dX11_wood_21 rfl (Nat.le_of_ble_eq_true rfl) hφ hφ2 (fun r21 σ21 ta h hφ hφ2 => ?_)
      refine nw_if_eq (tgt := 31) C dX11_wood_24 (by decide) h (fun _ h => ?_) (fun _ h => ?_)
      · exact nw_lv (lv' := [(0, .ref (ad 0)), (1, .int p0), (2, .int p1), (3, .int p2)]) [0, 1, 2, 3] rfl (w_FC_wood_31 C hr hl hex p0 p1 p2 _ _ hφ hφ2 h)
      · refine nw_iconst (v := 1) C dX11_wood_27 (by decide) ?_
        refine nw_goto (tgt := 32) C dX11_wood_28 (by decide) ?_
        exact nw_lv (lv' := [(0, .ref (ad 0)), (1, .int p0), (2, .int p1), (3, .int p2)]) [0, 1, 2, 3] rfl (w_FC_wood_32 C hr hl hex p0 p1 p2 1 _ _ hφ hφ2 h)
theorem dX11_take_0 : decode cX11_take 0 = .ok (.aload_n 0, 1) := by decide +kernel
theorem dX11_take_1 : decode cX11_take 1 = .ok (.getfield 88, 3) := by decide +kernel
theorem dX11_take_4 : decode cX11_take 4 = .ok (.getfield 295, 3) := by decide +kernel
theorem dX11_take_7 : decode cX11_take 7 = .ok (.iload_n 1, 1) := by decide +kernel
theorem dX11_take_8 : decode cX11_take 8 = .ok (.invokevirtual 148, 3) := by decide +kernel
theorem dX11_take_11 : decode cX11_take 11 = .ok (.invokestatic 151, 3) := by decide +kernel
theorem dX11_take_14 : decode cX11_take 14 = .ok (.iload_n 2, 1) := by decide +kernel
theorem dX11_take_15 : decode cX11_take 15 = .ok (.iconst 0, 1) := by decide +kernel
theorem dX11_take_16 : decode cX11_take 16 = .ok (.iconst 1, 1) := by decide +kernel
theorem dX11_take_17 : decode cX11_take 17 = .ok (.invokestatic 92, 3) := by decide +kernel
theorem dX11_take_20 : decode cX11_take 20 = .ok (.ifCond .eq 36, 3) := by decide +kernel
theorem dX11_take_23 : decode cX11_take 23 = .ok (.iload_n 3, 1) := by decide +kernel
theorem dX11_take_24 : decode cX11_take 24 = .ok (.aload_n 0, 1) := by decide +kernel
theorem dX11_take_25 : decode cX11_take 25 = .ok (.getfield 88, 3) := by decide +kernel
theorem dX11_take_28 : decode cX11_take 28 = .ok (.iload_n 1, 1) := by decide +kernel
theorem dX11_take_29 : decode cX11_take 29 = .ok (.invokevirtual 296, 3) := by decide +kernel
theorem dX11_take_32 : decode cX11_take 32 = .ok (.sipush 277, 3) := by decide +kernel
theorem dX11_take_35 : decode cX11_take 35 = .ok (.invokestatic 92, 3) := by decide +kernel
theorem dX11_take_38 : decode cX11_take 38 = .ok (.ifCond .eq 18, 3) := by decide +kernel
theorem dX11_take_41 : decode cX11_take 41 = .ok (.iload 4, 2) := by decide +kernel
theorem dX11_take_43 : decode cX11_take 43 = .ok (.iconst 1, 1) := by decide +kernel
theorem dX11_take_44 : decode cX11_take 44 = .ok (.ldc 104, 2) := by decide +kernel
theorem dX11_take_46 : decode cX11_take 46 = .ok (.invokestatic 92, 3) := by decide +kernel
theorem dX11_take_49 : decode cX11_take 49 = .ok (.ifCond .eq 7, 3) := by decide +kernel
theorem dX11_take_52 : decode cX11_take 52 = .ok (.iconst 1, 1) := by decide +kernel
theorem dX11_take_53 : decode cX11_take 53 = .ok (.goto 4, 3) := by decide +kernel
theorem dX11_take_56 : decode cX11_take 56 = .ok (.iconst 0, 1) := by decide +kernel
theorem dX11_take_57 : decode cX11_take 57 = .ok (.invokestatic 96, 3) := by decide +kernel
theorem dX11_take_60 : decode cX11_take 60 = .ok (.aload_n 0, 1) := by decide +kernel
theorem dX11_take_61 : decode cX11_take 61 = .ok (.getfield 88, 3) := by decide +kernel
theorem dX11_take_64 : decode cX11_take 64 = .ok (.iload_n 1, 1) := by decide +kernel
theorem dX11_take_65 : decode cX11_take 65 = .ok (.iload_n 2, 1) := by decide +kernel
theorem dX11_take_66 : decode cX11_take 66 = .ok (.iload_n 3, 1) := by decide +kernel
theorem dX11_take_67 : decode cX11_take 67 = .ok (.iload 4, 2) := by decide +kernel
theorem dX11_take_69 : decode cX11_take 69 = .ok (.aload_n 0, 1) := by decide +kernel
theorem dX11_take_70 : decode cX11_take 70 = .ok (.getfield 64, 3) := by decide +kernel
theorem dX11_take_73 : decode cX11_take 73 = .ok (.getfield 100, 3) := by decide +kernel
theorem dX11_take_76 : decode cX11_take 76 = .ok (.invokevirtual 299, 3) := by decide +kernel
theorem dX11_take_79 : decode cX11_take 79 = .ok (.ireturn, 1) := by decide +kernel
def B_FC_take_57   (x1 : Int32) (x2 : Int32) (x3 : Int32) (x4 : Int32) (z0 : Int32) (σ : CS) : Option ((Int32 × Int32) × CS) := if z0 = 0 then some ((1, 0), σ) else (bnd (f_Woods_addTaking x1 x2 x3 x4 (σ.1 62) σ) (fun r76 σ76 => some ((0, r76), σ76)))
set_option maxHeartbeats 4000000 in
set_option maxRecDepth 100000 in
theorem w_FC_take_57 (C : Cx g p s m args meth c A 5 cX11_take yX11_take.cls) (hr : meth.sig.returnType = (some .int)) (hl : l.stackTraces = false) (hex : ∀ x ∈ c.exceptionTable.toList, False) {res : (Int32 × Int32) × CS}   (x1 : Int32) (x2 : Int32) (x3 : Int32) (x4 : Int32) (z0 : Int32)  (σ : CS) (ta : Nat → Nat) (hφ : φ0 ≤ ph σ.2.2) (hφ2 : ph σ.2.2 ≤ BB) (h : B_FC_take_57 x1 x2 x3 x4 z0 σ = some res) : NX g p l e s m args below meth c A 13 304 5 ad Rr φ0 res ta σ [(0, .ref (ad 0)), (1, .int x1), (2, .int x2), (3, .int x3), (4, .int x4)] 57 [.int z0] := by
  unfold B_FC_take_57 at h
  refine nx_check C hex (by decide) (fun _ => ct_checkArgument hl) (fun _ hb => cr_checkArgument hb) tw_678 ks_X11_checkArgument ⟨Nat.le_of_ble_eq_true rfl, Nat.le_of_ble_eq_true rfl⟩ dX11_take_57 (Nat.le_of_ble_eq_true rfl) hφ hφ2 h (fun _ h => ?_)
  refine nw_aload_n C dX11_take_60 rfl 0 rfl ?_
  refine nw_get (v := .ref (ad 10)) C in_X11 0 cl_FC rfl 9 (by decide) tw_519 rfl rfl dX11_take_61 ?_
  refine nw_iload_n C dX11_take_64 rfl 1 rfl ?_
  refine nw_iload_n C dX11_take_65 rfl 2 rfl ?_
  refine nw_iload_n C dX11_take_66 rfl 3 rfl ?_
  refine nw_iload C dX11_take_67 4 rfl ?_
  refine nw_aload_n C dX11_take_69 rfl 0 rfl ?_
  refine nw_get (v := .ref (ad 7)) C in_X11 0 cl_FC rfl 6 (by decide) tw_516 rfl rfl dX11_take_70 ?_
  refine nw_getN (v := .int (σ.1 62)) C in_X1 7 cl_Courts rfl 11 (by decide) tw_390 rfl rfl dX11_take_73 ?_
  refine nx_callVI (q0 := 10) (As := [.int x1, .int x2, .int x3, .int x4, .int (σ.1 62)]) (rest := []) C h (fun _ _ e => c_Woods_addTaking e hφ2) tw_1543 kv_X10_addTaking cl_Woods rfl ⟨Nat.le_of_ble_eq_true rfl, Nat.le_of_ble_eq_true rfl⟩ rfl dX11_take_76 rfl (Nat.le_of_ble_eq_true rfl) hφ hφ2 (fun r76 σ76 ta h hφ hφ2 => ?_)
  exact nx_iret C hr dX11_take_79 hφ hφ2 h
def B_FC_take_56   (x1 : Int32) (x2 : Int32) (x3 : Int32) (x4 : Int32) (σ : CS) : Option ((Int32 × Int32) × CS) := B_FC_take_57 x1 x2 x3 x4 0 σ
set_option maxHeartbeats 4000000 in
set_option maxRecDepth 100000 in
theorem w_FC_take_56 (C : Cx g p s m args meth c A 5 cX11_take yX11_take.cls) (hr : meth.sig.returnType = (some .int)) (hl : l.stackTraces = false) (hex : ∀ x ∈ c.exceptionTable.toList, False) {res : (Int32 × Int32) × CS}   (x1 : Int32) (x2 : Int32) (x3 : Int32) (x4 : Int32)  (σ : CS) (ta : Nat → Nat) (hφ : φ0 ≤ ph σ.2.2) (hφ2 : ph σ.2.2 ≤ BB) (h : B_FC_take_56 x1 x2 x3 x4 σ = some res) : NX g p l e s m args below meth c A 13 304 5 ad Rr φ0 res ta σ [(0, .ref (ad 0)), (1, .int x1), (2, .int x2), (3, .int x3), (4, .int x4)] 56 [] := by
  unfold B_FC_take_56 at h
  refine nw_iconst (v := 0) C dX11_take_56 (by decide) ?_
  exact nw_lv (lv' := [(0, .ref (ad 0)), (1, .int x1), (2, .int x2), (3, .int x3), (4, .int x4)]) [0, 1, 2, 3, 4] rfl (w_FC_take_57 C hr hl hex x1 x2 x3 x4 0 _ _ hφ hφ2 h)
def f_FC_take (p0 : Int32) (p1 : Int32) (p2 : Int32) (p3 : Int32) (σ : CS) : Option ((Int32 × Int32) × CS) := bnd (f_Table_has 14 p0 σ) (fun r8 σ8 => if r8 = 0 then some ((3, 0), σ8) else (bnd (f_FC_within p1 0 1 σ8) (fun r17 σ17 => if r17 = 0 then B_FC_take_56 p0 p1 p2 p3 σ17 else bnd (f_Woods_firstYear p0 σ17) (fun r29 σ29 => bnd (f_FC_within p2 r29 277 σ29) (fun r35 σ35 => if r35 = 0 then B_FC_take_56 p0 p1 p2 p3 σ35 else bnd (f_FC_within p3 1 100000 σ35) (fun r46 σ46 => if r46 = 0 then B_FC_take_56 p0 p1 p2 p3 σ46 else B_FC_take_57 p0 p1 p2 p3 1 σ46))))))
set_option maxHeartbeats 4000000 in
set_option maxRecDepth 100000 in
theorem c_FC_take {l : Launch} {g : EG} {ad ta : Nat → Nat} {Rr : va_W} {σ : CS} {res : (Int32 × Int32) × CS} {p0 : Int32} {p1 : Int32} {p2 : Int32} {p3 : Int32} (hl : l.stackTraces = false) (h : f_FC_take p0 p1 p2 p3 σ = some res) (hφ2 : ph σ.2.2 ≤ BB) : CxI l g yX11_take (.code yX11_take cX11_take 5 (some .int)) 13 304 ad ta Rr σ [.ref (ad 0), .int p0, .int p1, .int p2, .int p3] res := by
  refine CtX.of rfl (by decide) (Nat.le_of_ble_eq_true rfl) ?_
  intro p e s m args below meth c A C hr hex
  have hφ : ph σ.2.2 ≤ ph σ.2.2 := Nat.le_refl _
  refine nw_zero (ph σ.2.2) ?_
  show NX g p l e s m args below meth c A 13 304 5 ad Rr (ph σ.2.2) res ta σ [(0, .ref (ad 0)), (1, .int p0), (2, .int p1), (3, .int p2), (4, .int p3)] 0 []
  unfold f_FC_take at h
  refine nw_aload_n C dX11_take_0 rfl 0 rfl ?_
  refine nw_get (v := .ref (ad 10)) C in_X11 0 cl_FC rfl 9 (by decide) tw_519 rfl rfl dX11_take_1 ?_
  refine nw_get (v := .ref (ad 25)) C in_X10 10 cl_Woods rfl 0 (by decide) tw_502 rfl rfl dX11_take_4 ?_
  refine nw_iload_n C dX11_take_7 rfl 1 rfl ?_
  refine nx_callVI (q0 := 25) (As := [.int p0]) (rest := []) C h (fun _ _ e => c_Table_has 14 (by decide) e hφ2) tw_990 kv_X9_has (cl_T 14 (by decide)) rfl ⟨Nat.le_of_ble_eq_true rfl, Nat.le_of_ble_eq_true rfl⟩ rfl dX11_take_8 rfl (Nat.le_of_ble_eq_true rfl) hφ hφ2 (fun r8 σ8 ta h hφ hφ2 => ?_)
  refine nx_check C hex (by decide) (fun _ => ct_checkIndex hl) (fun _ hb => cr_checkIndex hb) tw_991 ks_X11_checkIndex ⟨Nat.le_of_ble_eq_true rfl, Nat.le_of_ble_eq_true rfl⟩ dX11_take_11 (Nat.le_of_ble_eq_true rfl) hφ hφ2 h (fun _ h => ?_)
  refine nw_iload_n C dX11_take_14 rfl 2 rfl ?_
  refine nw_iconst (v := 0) C dX11_take_15 (by decide) ?_
  refine nw_iconst (v := 1) C dX11_take_16 (by decide) ?_
  refine nx_callSI  (As := [.int p1, .int 0, .int 1]) (rest := []) C h (fun _ _ e => c_FC_within e hφ2) tw_675 ks_X11_within ⟨Nat.le_of_ble_eq_true rfl, Nat.le_of_ble_eq_true rfl⟩ rfl dX11_take_17 rfl (Nat.le_of_ble_eq_true rfl) hφ hφ2 (fun r17 σ17 ta h hφ hφ2 => ?_)
  refine nw_if_eq (tgt := 56) C dX11_take_20 (by decide) h (fun _ h => ?_) (fun _ h => ?_)
  · exact nw_lv (lv' := [(0, .ref (ad 0)), (1, .int p0), (2, .int p1), (3, .int p2), (4, .int p3)]) [0, 1, 2, 3, 4] rfl (w_FC_take_56 C hr hl hex p0 p1 p2 p3 _ _ hφ hφ2 h)
  · refine nw_iload_n C dX11_take_23 rfl 3 rfl ?_
    refine nw_aload_n C dX11_take_24 rfl 0 rfl ?_
    refine nw_get (v := .ref (ad 10)) C in_X11 0 cl_FC rfl 9 (by decide) tw_519 rfl rfl dX11_take_25 ?_
    refine nw_iload_n C dX11_take_28 rfl 1 rfl ?_
    refine nx_callVI (q0 := 10) (As := [.int p0]) (rest := [.int p2]) C h (fun _ _ e => c_Woods_firstYear e hφ2) tw_1538 kv_X10_firstYear cl_Woods rfl ⟨Nat.le_of_ble_eq_true rfl, Nat.le_of_ble_eq_true rfl⟩ rfl dX11_take_29 rfl (Nat.le_of_ble_eq_true rfl) hφ hφ2 (fun r29 σ29 ta h hφ hφ2 => ?_)
    refine nw_sipush (v := 277) C dX11_take_32 (by decide) ?_
    refine nx_callSI  (As := [.int p2, .int r29, .int 277]) (rest := []) C h (fun _ _ e => c_FC_within e hφ2) tw_675 ks_X11_within ⟨Nat.le_of_ble_eq_true rfl, Nat.le_of_ble_eq_true rfl⟩ rfl dX11_take_35 rfl (Nat.le_of_ble_eq_true rfl) hφ hφ2 (fun r35 σ35 ta h hφ hφ2 => ?_)
    refine nw_if_eq (tgt := 56) C dX11_take_38 (by decide) h (fun _ h => ?_) (fun _ h => ?_)
    · exact nw_lv (lv' := [(0, .ref (ad 0)), (1, .int p0), (2, .int p1), (3, .int p2), (4, .int p3)]) [0, 1, 2, 3, 4] rfl (w_FC_take_56 C hr hl hex p0 p1 p2 p3 _ _ hφ hφ2 h)
    · refine nw_iload C dX11_take_41 4 rfl ?_
      refine nw_iconst (v := 1) C dX11_take_43 (by decide) ?_
      refine nw_ldc (v := 100000) C tw_749 dX11_take_44 ?_
      refine nx_callSI  (As := [.int p3, .int 1, .int 100000]) (rest := []) C h (fun _ _ e => c_FC_within e hφ2) tw_675 ks_X11_within ⟨Nat.le_of_ble_eq_true rfl, Nat.le_of_ble_eq_true rfl⟩ rfl dX11_take_46 rfl (Nat.le_of_ble_eq_true rfl) hφ hφ2 (fun r46 σ46 ta h hφ hφ2 => ?_)
      refine nw_if_eq (tgt := 56) C dX11_take_49 (by decide) h (fun _ h => ?_) (fun _ h => ?_)
      · exact nw_lv (lv' := [(0, .ref (ad 0)), (1, .int p0), (2, .int p1), (3, .int p2), (4, .int p3)]) [0, 1, 2, 3, 4] rfl (w_FC_take_56 C hr hl hex p0 p1 p2 p3 _ _ hφ hφ2 h)
      · refine nw_iconst (v := 1) C dX11_take_52 (by decide) ?_
        refine nw_goto (tgt := 57) C dX11_take_53 (by decide) ?_
        exact nw_lv (lv' := [(0, .ref (ad 0)), (1, .int p0), (2, .int p1), (3, .int p2), (4, .int p3)]) [0, 1, 2, 3, 4] rfl (w_FC_take_57 C hr hl hex p0 p1 p2 p3 1 _ _ hφ hφ2 h)
theorem dX11_stock_0 : decode cX11_stock 0 = .ok (.aload_n 0, 1) := by decide +kernel
theorem dX11_stock_1 : decode cX11_stock 1 = .ok (.getfield 88, 3) := by decide +kernel
theorem dX11_stock_4 : decode cX11_stock 4 = .ok (.getfield 295, 3) := by decide +kernel
theorem dX11_stock_7 : decode cX11_stock 7 = .ok (.iload_n 1, 1) := by decide +kernel
theorem dX11_stock_8 : decode cX11_stock 8 = .ok (.invokevirtual 148, 3) := by decide +kernel
theorem dX11_stock_11 : decode cX11_stock 11 = .ok (.invokestatic 151, 3) := by decide +kernel
theorem dX11_stock_14 : decode cX11_stock 14 = .ok (.iload_n 2, 1) := by decide +kernel
theorem dX11_stock_15 : decode cX11_stock 15 = .ok (.iconst 0, 1) := by decide +kernel
theorem dX11_stock_16 : decode cX11_stock 16 = .ok (.iconst 1, 1) := by decide +kernel
theorem dX11_stock_17 : decode cX11_stock 17 = .ok (.invokestatic 92, 3) := by decide +kernel
theorem dX11_stock_20 : decode cX11_stock 20 = .ok (.ifCond .eq 22, 3) := by decide +kernel
theorem dX11_stock_23 : decode cX11_stock 23 = .ok (.iload_n 3, 1) := by decide +kernel
theorem dX11_stock_24 : decode cX11_stock 24 = .ok (.invokestatic 289, 3) := by decide +kernel
theorem dX11_stock_27 : decode cX11_stock 27 = .ok (.ifCond .eq 15, 3) := by decide +kernel
theorem dX11_stock_30 : decode cX11_stock 30 = .ok (.iload 4, 2) := by decide +kernel
theorem dX11_stock_32 : decode cX11_stock 32 = .ok (.invokestatic 134, 3) := by decide +kernel
theorem dX11_stock_35 : decode cX11_stock 35 = .ok (.ifCond .eq 7, 3) := by decide +kernel
theorem dX11_stock_38 : decode cX11_stock 38 = .ok (.iconst 1, 1) := by decide +kernel
theorem dX11_stock_39 : decode cX11_stock 39 = .ok (.goto 4, 3) := by decide +kernel
theorem dX11_stock_42 : decode cX11_stock 42 = .ok (.iconst 0, 1) := by decide +kernel
theorem dX11_stock_43 : decode cX11_stock 43 = .ok (.invokestatic 96, 3) := by decide +kernel
theorem dX11_stock_46 : decode cX11_stock 46 = .ok (.aload_n 0, 1) := by decide +kernel
theorem dX11_stock_47 : decode cX11_stock 47 = .ok (.getfield 88, 3) := by decide +kernel
theorem dX11_stock_50 : decode cX11_stock 50 = .ok (.iload_n 1, 1) := by decide +kernel
theorem dX11_stock_51 : decode cX11_stock 51 = .ok (.iload_n 2, 1) := by decide +kernel
theorem dX11_stock_52 : decode cX11_stock 52 = .ok (.iload_n 3, 1) := by decide +kernel
theorem dX11_stock_53 : decode cX11_stock 53 = .ok (.iload 4, 2) := by decide +kernel
theorem dX11_stock_55 : decode cX11_stock 55 = .ok (.invokevirtual 303, 3) := by decide +kernel
theorem dX11_stock_58 : decode cX11_stock 58 = .ok (.ireturn, 1) := by decide +kernel
def B_FC_stock_43   (x1 : Int32) (x2 : Int32) (x3 : Int32) (x4 : Int32) (z0 : Int32) (σ : CS) : Option ((Int32 × Int32) × CS) := if z0 = 0 then some ((1, 0), σ) else (bnd (f_Woods_stockOf x1 x2 x3 x4 σ) (fun r55 σ55 => some ((0, r55), σ55)))
set_option maxHeartbeats 4000000 in
set_option maxRecDepth 100000 in
theorem w_FC_stock_43 (C : Cx g p s m args meth c A 5 cX11_stock yX11_stock.cls) (hr : meth.sig.returnType = (some .int)) (hl : l.stackTraces = false) (hex : ∀ x ∈ c.exceptionTable.toList, False) {res : (Int32 × Int32) × CS}   (x1 : Int32) (x2 : Int32) (x3 : Int32) (x4 : Int32) (z0 : Int32)  (σ : CS) (ta : Nat → Nat) (hφ : φ0 ≤ ph σ.2.2) (hφ2 : ph σ.2.2 ≤ BB) (h : B_FC_stock_43 x1 x2 x3 x4 z0 σ = some res) : NX g p l e s m args below meth c A 13 304 5 ad Rr φ0 res ta σ [(0, .ref (ad 0)), (1, .int x1), (2, .int x2), (3, .int x3), (4, .int x4)] 43 [.int z0] := by
  unfold B_FC_stock_43 at h
  refine nx_check C hex (by decide) (fun _ => ct_checkArgument hl) (fun _ hb => cr_checkArgument hb) tw_678 ks_X11_checkArgument ⟨Nat.le_of_ble_eq_true rfl, Nat.le_of_ble_eq_true rfl⟩ dX11_stock_43 (Nat.le_of_ble_eq_true rfl) hφ hφ2 h (fun _ h => ?_)
  refine nw_aload_n C dX11_stock_46 rfl 0 rfl ?_
  refine nw_get (v := .ref (ad 10)) C in_X11 0 cl_FC rfl 9 (by decide) tw_519 rfl rfl dX11_stock_47 ?_
  refine nw_iload_n C dX11_stock_50 rfl 1 rfl ?_
  refine nw_iload_n C dX11_stock_51 rfl 2 rfl ?_
  refine nw_iload_n C dX11_stock_52 rfl 3 rfl ?_
  refine nw_iload C dX11_stock_53 4 rfl ?_
  refine nx_callVI (q0 := 10) (As := [.int x1, .int x2, .int x3, .int x4]) (rest := []) C h (fun _ _ e => c_Woods_stockOf e hφ2) tw_1555 kv_X10_stockOf cl_Woods rfl ⟨Nat.le_of_ble_eq_true rfl, Nat.le_of_ble_eq_true rfl⟩ rfl dX11_stock_55 rfl (Nat.le_of_ble_eq_true rfl) hφ hφ2 (fun r55 σ55 ta h hφ hφ2 => ?_)
  exact nx_iret C hr dX11_stock_58 hφ hφ2 h
def B_FC_stock_42   (x1 : Int32) (x2 : Int32) (x3 : Int32) (x4 : Int32) (σ : CS) : Option ((Int32 × Int32) × CS) := B_FC_stock_43 x1 x2 x3 x4 0 σ
set_option maxHeartbeats 4000000 in
set_option maxRecDepth 100000 in
theorem w_FC_stock_42 (C : Cx g p s m args meth c A 5 cX11_stock yX11_stock.cls) (hr : meth.sig.returnType = (some .int)) (hl : l.stackTraces = false) (hex : ∀ x ∈ c.exceptionTable.toList, False) {res : (Int32 × Int32) × CS}   (x1 : Int32) (x2 : Int32) (x3 : Int32) (x4 : Int32)  (σ : CS) (ta : Nat → Nat) (hφ : φ0 ≤ ph σ.2.2) (hφ2 : ph σ.2.2 ≤ BB) (h : B_FC_stock_42 x1 x2 x3 x4 σ = some res) : NX g p l e s m args below meth c A 13 304 5 ad Rr φ0 res ta σ [(0, .ref (ad 0)), (1, .int x1), (2, .int x2), (3, .int x3), (4, .int x4)] 42 [] := by
  unfold B_FC_stock_42 at h
  refine nw_iconst (v := 0) C dX11_stock_42 (by decide) ?_
  exact nw_lv (lv' := [(0, .ref (ad 0)), (1, .int x1), (2, .int x2), (3, .int x3), (4, .int x4)]) [0, 1, 2, 3, 4] rfl (w_FC_stock_43 C hr hl hex x1 x2 x3 x4 0 _ _ hφ hφ2 h)
def f_FC_stock (p0 : Int32) (p1 : Int32) (p2 : Int32) (p3 : Int32) (σ : CS) : Option ((Int32 × Int32) × CS) := bnd (f_Table_has 14 p0 σ) (fun r8 σ8 => if r8 = 0 then some ((3, 0), σ8) else (bnd (f_FC_within p1 0 1 σ8) (fun r17 σ17 => if r17 = 0 then B_FC_stock_42 p0 p1 p2 p3 σ17 else bnd (f_FC_isYear p2 σ17) (fun r24 σ24 => if r24 = 0 then B_FC_stock_42 p0 p1 p2 p3 σ24 else bnd (f_FC_isDay p3 σ24) (fun r32 σ32 => if r32 = 0 then B_FC_stock_42 p0 p1 p2 p3 σ32 else B_FC_stock_43 p0 p1 p2 p3 1 σ32)))))
set_option maxHeartbeats 4000000 in
set_option maxRecDepth 100000 in
theorem c_FC_stock {l : Launch} {g : EG} {ad ta : Nat → Nat} {Rr : va_W} {σ : CS} {res : (Int32 × Int32) × CS} {p0 : Int32} {p1 : Int32} {p2 : Int32} {p3 : Int32} (hl : l.stackTraces = false) (h : f_FC_stock p0 p1 p2 p3 σ = some res) (hφ2 : ph σ.2.2 ≤ BB) : CxI l g yX11_stock (.code yX11_stock cX11_stock 5 (some .int)) 13 304 ad ta Rr σ [.ref (ad 0), .int p0, .int p1, .int p2, .int p3] res := by
  refine CtX.of rfl (by decide) (Nat.le_of_ble_eq_true rfl) ?_
  intro p e s m args below meth c A C hr hex
  have hφ : ph σ.2.2 ≤ ph σ.2.2 := Nat.le_refl _
  refine nw_zero (ph σ.2.2) ?_
  show NX g p l e s m args below meth c A 13 304 5 ad Rr (ph σ.2.2) res ta σ [(0, .ref (ad 0)), (1, .int p0), (2, .int p1), (3, .int p2), (4, .int p3)] 0 []
  unfold f_FC_stock at h
  refine nw_aload_n C dX11_stock_0 rfl 0 rfl ?_
  refine nw_get (v := .ref (ad 10)) C in_X11 0 cl_FC rfl 9 (by decide) tw_519 rfl rfl dX11_stock_1 ?_
  refine nw_get (v := .ref (ad 25)) C in_X10 10 cl_Woods rfl 0 (by decide) tw_502 rfl rfl dX11_stock_4 ?_
  refine nw_iload_n C dX11_stock_7 rfl 1 rfl ?_
  refine nx_callVI (q0 := 25) (As := [.int p0]) (rest := []) C h (fun _ _ e => c_Table_has 14 (by decide) e hφ2) tw_990 kv_X9_has (cl_T 14 (by decide)) rfl ⟨Nat.le_of_ble_eq_true rfl, Nat.le_of_ble_eq_true rfl⟩ rfl dX11_stock_8 rfl (Nat.le_of_ble_eq_true rfl) hφ hφ2 (fun r8 σ8 ta h hφ hφ2 => ?_)
  refine nx_check C hex (by decide) (fun _ => ct_checkIndex hl) (fun _ hb => cr_checkIndex hb) tw_991 ks_X11_checkIndex ⟨Nat.le_of_ble_eq_true rfl, Nat.le_of_ble_eq_true rfl⟩ dX11_stock_11 (Nat.le_of_ble_eq_true rfl) hφ hφ2 h (fun _ h => ?_)
  refine nw_iload_n C dX11_stock_14 rfl 2 rfl ?_
  refine nw_iconst (v := 0) C dX11_stock_15 (by decide) ?_
  refine nw_iconst (v := 1) C dX11_stock_16 (by decide) ?_
  refine nx_callSI  (As := [.int p1, .int 0, .int 1]) (rest := []) C h (fun _ _ e => c_FC_within e hφ2) tw_675 ks_X11_within ⟨Nat.le_of_ble_eq_true rfl, Nat.le_of_ble_eq_true rfl⟩ rfl dX11_stock_17 rfl (Nat.le_of_ble_eq_true rfl) hφ hφ2 (fun r17 σ17 ta h hφ hφ2 => ?_)
  refine nw_if_eq (tgt := 42) C dX11_stock_20 (by decide) h (fun _ h => ?_) (fun _ h => ?_)
  · exact nw_lv (lv' := [(0, .ref (ad 0)), (1, .int p0), (2, .int p1), (3, .int p2), (4, .int p3)]) [0, 1, 2, 3, 4] rfl (w_FC_stock_42 C hr hl hex p0 p1 p2 p3 _ _ hφ hφ2 h)
  · refine nw_iload_n C dX11_stock_23 rfl 3 rfl ?_
    refine nx_callSI  (As := [.int p2]) (rest := []) C h (fun _ _ e => c_FC_isYear e hφ2) tw_1522 ks_X11_isYear ⟨Nat.le_of_ble_eq_true rfl, Nat.le_of_ble_eq_true rfl⟩ rfl dX11_stock_24 rfl (Nat.le_of_ble_eq_true rfl) hφ hφ2 (fun r24 σ24 ta h hφ hφ2 => ?_)
    refine nw_if_eq (tgt := 42) C dX11_stock_27 (by decide) h (fun _ h => ?_) (fun _ h => ?_)
    · exact nw_lv (lv' := [(0, .ref (ad 0)), (1, .int p0), (2, .int p1), (3, .int p2), (4, .int p3)]) [0, 1, 2, 3, 4] rfl (w_FC_stock_42 C hr hl hex p0 p1 p2 p3 _ _ hφ hφ2 h)
    · refine nw_iload C dX11_stock_30 4 rfl ?_
      refine nx_callSI  (As := [.int p3]) (rest := []) C h (fun _ _ e => c_FC_isDay e hφ2) tw_936 ks_X11_isDay ⟨Nat.le_of_ble_eq_true rfl, Nat.le_of_ble_eq_true rfl⟩ rfl dX11_stock_32 rfl (Nat.le_of_ble_eq_true rfl) hφ hφ2 (fun r32 σ32 ta h hφ hφ2 => ?_)
      refine nw_if_eq (tgt := 42) C dX11_stock_35 (by decide) h (fun _ h => ?_) (fun _ h => ?_)
      · exact nw_lv (lv' := [(0, .ref (ad 0)), (1, .int p0), (2, .int p1), (3, .int p2), (4, .int p3)]) [0, 1, 2, 3, 4] rfl (w_FC_stock_42 C hr hl hex p0 p1 p2 p3 _ _ hφ hφ2 h)
      · refine nw_iconst (v := 1) C dX11_stock_38 (by decide) ?_
        refine nw_goto (tgt := 43) C dX11_stock_39 (by decide) ?_
        exact nw_lv (lv' := [(0, .ref (ad 0)), (1, .int p0), (2, .int p1), (3, .int p2), (4, .int p3)]) [0, 1, 2, 3, 4] rfl (w_FC_stock_43 C hr hl hex p0 p1 p2 p3 1 _ _ hφ hφ2 h)
end
