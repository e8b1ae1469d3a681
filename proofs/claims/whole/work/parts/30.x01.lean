section
variable {g : EG} {p : Program} {l : Launch} {e : Env} {s : State} {m : MethodId} {args : Array Value} {below : List Frame} {meth : Method} {c : Code} {A : Nat → Prop} {ad am ta : Nat → Nat} {Rr : va_W} {φ0 : Nat}
theorem dX11_wait_0 : decode cX11_wait 0 = .ok (.iload_n 1, 1) := by decide +kernel
theorem dX11_wait_1 : decode cX11_wait 1 = .ok (.iconst 0, 1) := by decide +kernel
theorem dX11_wait_2 : decode cX11_wait 2 = .ok (.sipush 4000, 3) := by decide +kernel
theorem dX11_wait_5 : decode cX11_wait 5 = .ok (.invokestatic 92, 3) := by decide +kernel
theorem dX11_wait_8 : decode cX11_wait 8 = .ok (.invokestatic 96, 3) := by decide +kernel
theorem dX11_wait_11 : decode cX11_wait 11 = .ok (.aload_n 0, 1) := by decide +kernel
theorem dX11_wait_12 : decode cX11_wait 12 = .ok (.getfield 64, 3) := by decide +kernel
theorem dX11_wait_15 : decode cX11_wait 15 = .ok (.getfield 100, 3) := by decide +kernel
theorem dX11_wait_18 : decode cX11_wait 18 = .ok (.iload_n 1, 1) := by decide +kernel
theorem dX11_wait_19 : decode cX11_wait 19 = .ok (.iadd, 1) := by decide +kernel
theorem dX11_wait_20 : decode cX11_wait 20 = .ok (.ldc 104, 2) := by decide +kernel
theorem dX11_wait_22 : decode cX11_wait 22 = .ok (.if_icmp .gt 7, 3) := by decide +kernel
theorem dX11_wait_25 : decode cX11_wait 25 = .ok (.iconst 1, 1) := by decide +kernel
theorem dX11_wait_26 : decode cX11_wait 26 = .ok (.goto 4, 3) := by decide +kernel
theorem dX11_wait_29 : decode cX11_wait 29 = .ok (.iconst 0, 1) := by decide +kernel
theorem dX11_wait_30 : decode cX11_wait 30 = .ok (.invokestatic 105, 3) := by decide +kernel
theorem dX11_wait_33 : decode cX11_wait 33 = .ok (.iconst 0, 1) := by decide +kernel
theorem dX11_wait_34 : decode cX11_wait 34 = .ok (.istore_n 2, 1) := by decide +kernel
theorem dX11_wait_35 : decode cX11_wait 35 = .ok (.iload_n 2, 1) := by decide +kernel
theorem dX11_wait_36 : decode cX11_wait 36 = .ok (.iload_n 1, 1) := by decide +kernel
theorem dX11_wait_37 : decode cX11_wait 37 = .ok (.if_icmp .ge 16, 3) := by decide +kernel
theorem dX11_wait_40 : decode cX11_wait 40 = .ok (.aload_n 0, 1) := by decide +kernel
theorem dX11_wait_41 : decode cX11_wait 41 = .ok (.getfield 64, 3) := by decide +kernel
theorem dX11_wait_44 : decode cX11_wait 44 = .ok (.invokevirtual 108, 3) := by decide +kernel
theorem dX11_wait_47 : decode cX11_wait 47 = .ok (.iinc 2 1, 3) := by decide +kernel
theorem dX11_wait_50 : decode cX11_wait 50 = .ok (.goto (-15), 3) := by decide +kernel
theorem dX11_wait_53 : decode cX11_wait 53 = .ok (.aload_n 0, 1) := by decide +kernel
theorem dX11_wait_54 : decode cX11_wait 54 = .ok (.getfield 64, 3) := by decide +kernel
theorem dX11_wait_57 : decode cX11_wait 57 = .ok (.getfield 100, 3) := by decide +kernel
theorem dX11_wait_60 : decode cX11_wait 60 = .ok (.ireturn, 1) := by decide +kernel
def L_FC_wait_35  (x1 : Int32) : Nat → Int32 → CS → Option ((Int32 × Int32) × CS)
  | 0, _, _ => none
  | n + 1, x2, σ => if x1 ≤ x2 then some ((0, (σ.1 62)), σ) else bnd (f_Courts_beginDay σ) (fun _ σ44 => (L_FC_wait_35 x1 n) (x2 + 1) σ44)
set_option maxHeartbeats 4000000 in
set_option maxRecDepth 100000 in
theorem w_FC_wait_35 (C : Cx g p s m args meth c A 3 cX11_wait yX11_wait.cls) (hr : meth.sig.returnType = (some .int)) (hl : l.stackTraces = false) (hex : ∀ x ∈ c.exceptionTable.toList, False) {res : (Int32 × Int32) × CS}  (x1 : Int32)  : ∀ (n : Nat) (x2 : Int32) (σ : CS) (ta : Nat → Nat), φ0 ≤ ph σ.2.2 → ph σ.2.2 ≤ BB → L_FC_wait_35 x1 n x2 σ = some res → NX g p l e s m args below meth c A 13 304 3 ad Rr φ0 res ta σ [(0, .ref (ad 0)), (1, .int x1), (2, .int x2)] 35 [] := by
  intro n
  induction n with
  | zero =>
    intro x2 σ ta hφ hφ2 h
    exact absurd (show (none : Option ((Int32 × Int32) × CS)) = some res from h) (by intro h9; cases h9)
  | succ n ih =>
    intro x2 σ ta hφ hφ2 h
    rw [L_FC_wait_35] at h
    refine nw_iload_n C dX11_wait_35 rfl 2 rfl ?_
    refine nw_iload_n C dX11_wait_36 rfl 1 rfl ?_
    refine nw_icmp_ge (tgt := 53) C dX11_wait_37 (by decide) h (fun _ h => ?_) (fun _ h => ?_)
    · refine nw_aload_n C dX11_wait_53 rfl 0 rfl ?_
      refine nw_get (v := .ref (ad 7)) C in_X11 0 cl_FC rfl 6 (by decide) tw_516 rfl rfl dX11_wait_54 ?_
      refine nw_getN (v := .int (σ.1 62)) C in_X1 7 cl_Courts rfl 11 (by decide) tw_390 rfl rfl dX11_wait_57 ?_
      exact nx_iret C hr dX11_wait_60 hφ hφ2 h
    · refine nw_aload_n C dX11_wait_40 rfl 0 rfl ?_
      refine nw_get (v := .ref (ad 7)) C in_X11 0 cl_FC rfl 6 (by decide) tw_516 rfl rfl dX11_wait_41 ?_
      refine nx_callVV (q0 := 7) (As := []) (rest := []) C h (fun _ _ e => c_Courts_beginDay e hφ2) tw_769 kv_X1_beginDay cl_Courts rfl ⟨Nat.le_of_ble_eq_true rfl, Nat.le_of_ble_eq_true rfl⟩ rfl dX11_wait_44 rfl (Nat.le_of_ble_eq_true rfl) hφ hφ2 (fun r44 σ44 ta h hφ hφ2 => ?_)
      refine nw_iinc (lv' := [(2, .int (x2 + 1)), (0, .ref (ad 0)), (1, .int x1)]) C (x2 + 1) dX11_wait_47 2 rfl rfl (by decide) rfl ?_
      refine nw_goto (tgt := 35) C dX11_wait_50 (by decide) ?_
      exact nw_lv (lv' := [(0, .ref (ad 0)), (1, .int x1), (2, .int (x2 + 1))]) [1, 2, 0] rfl (ih (x2 + 1) _ _ hφ hφ2 h)
def B_FC_wait_30   (x1 : Int32) (z0 : Int32) (σ : CS) : Option ((Int32 × Int32) × CS) := if z0 = 0 then some ((2, 0), σ) else (L_FC_wait_35 x1 FU 0 σ)
set_option maxHeartbeats 4000000 in
set_option maxRecDepth 100000 in
theorem w_FC_wait_30 (C : Cx g p s m args meth c A 3 cX11_wait yX11_wait.cls) (hr : meth.sig.returnType = (some .int)) (hl : l.stackTraces = false) (hex : ∀ x ∈ c.exceptionTable.toList, False) {res : (Int32 × Int32) × CS}   (x1 : Int32) (z0 : Int32)  (σ : CS) (ta : Nat → Nat) (hφ : φ0 ≤ ph σ.2.2) (hφ2 : ph σ.2.2 ≤ BB) (h : B_FC_wait_30 x1 z0 σ = some res) : NX g p l e s m args below meth c A 13 304 3 ad Rr φ0 res ta σ [(0, .ref (ad 0)), (1, .int x1)] 30 [.int z0] := by
  unfold B_FC_wait_30 at h
  refine nx_check C hex (by decide) (fun _ => ct_checkState hl) (fun _ hb => cr_checkState hb) tw_750 ks_X11_checkState ⟨Nat.le_of_ble_eq_true rfl, Nat.le_of_ble_eq_true rfl⟩ dX11_wait_30 (Nat.le_of_ble_eq_true rfl) hφ hφ2 h (fun _ h => ?_)
  refine nw_iconst (v := 0) C dX11_wait_33 (by decide) ?_
  refine nw_istore_n (lv' := [(2, .int 0), (0, .ref (ad 0)), (1, .int x1)]) C dX11_wait_34 rfl (by decide) rfl ?_
  exact nw_lv (lv' := [(0, .ref (ad 0)), (1, .int x1), (2, .int 0)]) [1, 2, 0] rfl (w_FC_wait_35 C hr hl hex x1 FU 0 _ _ hφ hφ2 h)
def f_FC_wait (p0 : Int32) (σ : CS) : Option ((Int32 × Int32) × CS) := bnd (f_FC_within p0 0 4000 σ) (fun r5 σ5 => if r5 = 0 then some ((1, 0), σ5) else (if 100000 < ((σ5.1 62) + p0) then B_FC_wait_30 p0 0 σ5 else B_FC_wait_30 p0 1 σ5))
set_option maxHeartbeats 4000000 in
set_option maxRecDepth 100000 in
theorem c_FC_wait {l : Launch} {g : EG} {ad ta : Nat → Nat} {Rr : va_W} {σ : CS} {res : (Int32 × Int32) × CS} {p0 : Int32} (hl : l.stackTraces = false) (h : f_FC_wait p0 σ = some res) (hφ2 : ph σ.2.2 ≤ BB) : CxI l g yX11_wait (.code yX11_wait cX11_wait 3 (some .int)) 13 304 ad ta Rr σ [.ref (ad 0), .int p0] res := by
  refine CtX.of rfl (by decide) (Nat.le_of_ble_eq_true rfl) ?_
  intro p e s m args below meth c A C hr hex
  have hφ : ph σ.2.2 ≤ ph σ.2.2 := Nat.le_refl _
  refine nw_zero (ph σ.2.2) ?_
  show NX g p l e s m args below meth c A 13 304 3 ad Rr (ph σ.2.2) res ta σ [(0, .ref (ad 0)), (1, .int p0)] 0 []
  unfold f_FC_wait at h
  refine nw_iload_n C dX11_wait_0 rfl 1 rfl ?_
  refine nw_iconst (v := 0) C dX11_wait_1 (by decide) ?_
  refine nw_sipush (v := 4000) C dX11_wait_2 (by decide) ?_
  refine nx_callSI  (As := [.int p0, .int 0, .int 4000]) (rest := []) C h (fun _ _ e => c_FC_within e hφ2) tw_675 ks_X11_within ⟨Nat.le_of_ble_eq_true rfl, Nat.le_of_ble_eq_true rfl⟩ rfl dX11_wait_5 rfl (Nat.le_of_ble_eq_true rfl) hφ hφ2 (fun r5 σ5 ta h hφ hφ2 => ?_)
  refine nx_check C hex (by decide) (fun _ => ct_checkArgument hl) (fun _ hb => cr_checkArgument hb) tw_678 ks_X11_checkArgument ⟨Nat.le_of_ble_eq_true rfl, Nat.le_of_ble_eq_true rfl⟩ dX11_wait_8 (Nat.le_of_ble_eq_true rfl) hφ hφ2 h (fun _ h => ?_)
  refine nw_aload_n C dX11_wait_11 rfl 0 rfl ?_
  refine nw_get (v := .ref (ad 7)) C in_X11 0 cl_FC rfl 6 (by decide) tw_516 rfl rfl dX11_wait_12 ?_
  refine nw_getN (v := .int (σ5.1 62)) C in_X1 7 cl_Courts rfl 11 (by decide) tw_390 rfl rfl dX11_wait_15 ?_
  refine nw_iload_n C dX11_wait_18 rfl 1 rfl ?_
  refine nw_iadd C dX11_wait_19 ?_
  refine nw_ldc (v := 100000) C tw_749 dX11_wait_20 ?_
  refine nw_icmp_gt (tgt := 29) C dX11_wait_22 (by decide) h (fun _ h => ?_) (fun _ h => ?_)
  · refine nw_iconst (v := 0) C dX11_wait_29 (by decide) ?_
    exact nw_lv (lv' := [(0, .ref (ad 0)), (1, .int p0)]) [0, 1] rfl (w_FC_wait_30 C hr hl hex p0 0 _ _ hφ hφ2 h)
  · refine nw_iconst (v := 1) C dX11_wait_25 (by decide) ?_
    refine nw_goto (tgt := 30) C dX11_wait_26 (by decide) ?_
    exact nw_lv (lv' := [(0, .ref (ad 0)), (1, .int p0)]) [0, 1] rfl (w_FC_wait_30 C hr hl hex p0 1 _ _ hφ hφ2 h)
theorem dX11_mark_0 : decode cX11_mark 0 = .ok (.iload_n 1, 1) := by decide +kernel
theorem dX11_mark_1 : decode cX11_mark 1 = .ok (.iconst 0, 1) := by decide +kernel
theorem dX11_mark_2 : decode cX11_mark 2 = .ok (.bipush 19, 2) := by decide +kernel
theorem dX11_mark_4 : decode cX11_mark 4 = .ok (.invokestatic 92, 3) := by decide +kernel
theorem dX11_mark_7 : decode cX11_mark 7 = .ok (.ifCond .eq 15, 3) := by decide +kernel
theorem dX11_mark_10 : decode cX11_mark 10 = .ok (.iload_n 2, 1) := by decide +kernel
theorem dX11_mark_11 : decode cX11_mark 11 = .ok (.iload_n 3, 1) := by decide +kernel
theorem dX11_mark_12 : decode cX11_mark 12 = .ok (.invokestatic 119, 3) := by decide +kernel
theorem dX11_mark_15 : decode cX11_mark 15 = .ok (.ifCond .eq 7, 3) := by decide +kernel
theorem dX11_mark_18 : decode cX11_mark 18 = .ok (.iconst 1, 1) := by decide +kernel
theorem dX11_mark_19 : decode cX11_mark 19 = .ok (.goto 4, 3) := by decide +kernel
theorem dX11_mark_22 : decode cX11_mark 22 = .ok (.iconst 0, 1) := by decide +kernel
theorem dX11_mark_23 : decode cX11_mark 23 = .ok (.invokestatic 96, 3) := by decide +kernel
theorem dX11_mark_26 : decode cX11_mark 26 = .ok (.aload_n 0, 1) := by decide +kernel
theorem dX11_mark_27 : decode cX11_mark 27 = .ok (.getfield 21, 3) := by decide +kernel
theorem dX11_mark_30 : decode cX11_mark 30 = .ok (.getfield 123, 3) := by decide +kernel
theorem dX11_mark_33 : decode cX11_mark 33 = .ok (.invokevirtual 126, 3) := by decide +kernel
theorem dX11_mark_36 : decode cX11_mark 36 = .ok (.ifCond .ne 7, 3) := by decide +kernel
theorem dX11_mark_39 : decode cX11_mark 39 = .ok (.iconst 1, 1) := by decide +kernel
theorem dX11_mark_40 : decode cX11_mark 40 = .ok (.goto 4, 3) := by decide +kernel
theorem dX11_mark_43 : decode cX11_mark 43 = .ok (.iconst 0, 1) := by decide +kernel
theorem dX11_mark_44 : decode cX11_mark 44 = .ok (.invokestatic 105, 3) := by decide +kernel
theorem dX11_mark_47 : decode cX11_mark 47 = .ok (.aload_n 0, 1) := by decide +kernel
theorem dX11_mark_48 : decode cX11_mark 48 = .ok (.getfield 21, 3) := by decide +kernel
theorem dX11_mark_51 : decode cX11_mark 51 = .ok (.iload_n 1, 1) := by decide +kernel
theorem dX11_mark_52 : decode cX11_mark 52 = .ok (.iload_n 2, 1) := by decide +kernel
theorem dX11_mark_53 : decode cX11_mark 53 = .ok (.iload_n 3, 1) := by decide +kernel
theorem dX11_mark_54 : decode cX11_mark 54 = .ok (.invokevirtual 130, 3) := by decide +kernel
theorem dX11_mark_57 : decode cX11_mark 57 = .ok (.ireturn, 1) := by decide +kernel
def B_FC_mark_44   (x1 : Int32) (x2 : Int32) (x3 : Int32) (z0 : Int32) (σ : CS) : Option ((Int32 × Int32) × CS) := if z0 = 0 then some ((2, 0), σ) else (bnd (f_Ground_addMark x1 x2 x3 σ) (fun r54 σ54 => some ((0, r54), σ54)))
set_option maxHeartbeats 4000000 in
set_option maxRecDepth 100000 in
theorem w_FC_mark_44 (C : Cx g p s m args meth c A 4 cX11_mark yX11_mark.cls) (hr : meth.sig.returnType = (some .int)) (hl : l.stackTraces = false) (hex : ∀ x ∈ c.exceptionTable.toList, False) {res : (Int32 × Int32) × CS}   (x1 : Int32) (x2 : Int32) (x3 : Int32) (z0 : Int32)  (σ : CS) (ta : Nat → Nat) (hφ : φ0 ≤ ph σ.2.2) (hφ2 : ph σ.2.2 ≤ BB) (h : B_FC_mark_44 x1 x2 x3 z0 σ = some res) : NX g p l e s m args below meth c A 13 304 4 ad Rr φ0 res ta σ [(0, .ref (ad 0)), (1, .int x1), (2, .int x2), (3, .int x3)] 44 [.int z0] := by
  unfold B_FC_mark_44 at h
  refine nx_check C hex (by decide) (fun _ => ct_checkState hl) (fun _ hb => cr_checkState hb) tw_750 ks_X11_checkState ⟨Nat.le_of_ble_eq_true rfl, Nat.le_of_ble_eq_true rfl⟩ dX11_mark_44 (Nat.le_of_ble_eq_true rfl) hφ hφ2 h (fun _ h => ?_)
  refine nw_aload_n C dX11_mark_47 rfl 0 rfl ?_
  refine nw_get (v := .ref (ad 1)) C in_X11 0 cl_FC rfl 1 (by decide) tw_511 rfl rfl dX11_mark_48 ?_
  refine nw_iload_n C dX11_mark_51 rfl 1 rfl ?_
  refine nw_iload_n C dX11_mark_52 rfl 2 rfl ?_
  refine nw_iload_n C dX11_mark_53 rfl 3 rfl ?_
  refine nx_callVI (q0 := 1) (As := [.int x1, .int x2, .int x3]) (rest := []) C h (fun _ _ e => c_Ground_addMark e hφ2) tw_923 kv_X2_addMark cl_Ground rfl ⟨Nat.le_of_ble_eq_true rfl, Nat.le_of_ble_eq_true rfl⟩ rfl dX11_mark_54 rfl (Nat.le_of_ble_eq_true rfl) hφ hφ2 (fun r54 σ54 ta h hφ hφ2 => ?_)
  exact nx_iret C hr dX11_mark_57 hφ hφ2 h
def B_FC_mark_23   (x1 : Int32) (x2 : Int32) (x3 : Int32) (z0 : Int32) (σ : CS) : Option ((Int32 × Int32) × CS) := if z0 = 0 then some ((1, 0), σ) else (bnd (f_Table_isFull 1 σ) (fun r33 σ33 => if r33 = 0 then B_FC_mark_44 x1 x2 x3 1 σ33 else B_FC_mark_44 x1 x2 x3 0 σ33))
set_option maxHeartbeats 4000000 in
set_option maxRecDepth 100000 in
theorem w_FC_mark_23 (C : Cx g p s m args meth c A 4 cX11_mark yX11_mark.cls) (hr : meth.sig.returnType = (some .int)) (hl : l.stackTraces = false) (hex : ∀ x ∈ c.exceptionTable.toList, False) {res : (Int32 × Int32) × CS}   (x1 : Int32) (x2 : Int32) (x3 : Int32) (z0 : Int32)  (σ : CS) (ta : Nat → Nat) (hφ : φ0 ≤ ph σ.2.2) (hφ2 : ph σ.2.2 ≤ BB) (h : B_FC_mark_23 x1 x2 x3 z0 σ = some res) : NX g p l e s m args below meth c A 13 304 4 ad Rr φ0 res ta σ [(0, .ref (ad 0)), (1, .int x1), (2, .int x2), (3, .int x3)] 23 [.int z0] := by
  unfold B_FC_mark_23 at h
  refine nx_check C hex (by decide) (fun _ => ct_checkArgument hl) (fun _ hb => cr_checkArgument hb) tw_678 ks_X11_checkArgument ⟨Nat.le_of_ble_eq_true rfl, Nat.le_of_ble_eq_true rfl⟩ dX11_mark_23 (Nat.le_of_ble_eq_true rfl) hφ hφ2 h (fun _ h => ?_)
  refine nw_aload_n C dX11_mark_26 rfl 0 rfl ?_
  refine nw_get (v := .ref (ad 1)) C in_X11 0 cl_FC rfl 1 (by decide) tw_511 rfl rfl dX11_mark_27 ?_
  refine nw_get (v := .ref (ad 12)) C in_X2 1 cl_Ground rfl 0 (by decide) tw_190 rfl rfl dX11_mark_30 ?_
  refine nx_callVI (q0 := 12) (As := []) (rest := []) C h (fun _ _ e => c_Table_isFull 1 (by decide) e hφ2) tw_922 kv_X9_isFull (cl_T 1 (by decide)) rfl ⟨Nat.le_of_ble_eq_true rfl, Nat.le_of_ble_eq_true rfl⟩ rfl dX11_mark_33 rfl (Nat.le_of_ble_eq_true rfl) hφ hφ2 (fun r33 σ33 ta h hφ hφ2 => ?_)
  refine nw_if_ne (tgt := 43) C dX11_mark_36 (by decide) h (fun _ h => ?_) (fun _ h => ?_)
  · refine nw_iconst (v := 1) C dX11_mark_39 (by decide) ?_
    refine nw_goto (tgt := 44) C dX11_mark_40 (by decide) ?_
    exact nw_lv (lv' := [(0, .ref (ad 0)), (1, .int x1), (2, .int x2), (3, .int x3)]) [0, 1, 2, 3] rfl (w_FC_mark_44 C hr hl hex x1 x2 x3 1 _ _ hφ hφ2 h)
  · refine nw_iconst (v := 0) C dX11_mark_43 (by decide) ?_
    exact nw_lv (lv' := [(0, .ref (ad 0)), (1, .int x1), (2, .int x2), (3, .int x3)]) [0, 1, 2, 3] rfl (w_FC_mark_44 C hr hl hex x1 x2 x3 0 _ _ hφ hφ2 h)
def B_FC_mark_22   (x1 : Int32) (x2 : Int32) (x3 : Int32) (σ : CS) : Option ((Int32 × Int32) × CS) := B_FC_mark_23 x1 x2 x3 0 σ
set_option maxHeartbeats 4000000 in
set_option maxRecDepth 100000 in
theorem w_FC_mark_22 (C : Cx g p s m args meth c A 4 cX11_mark yX11_mark.cls) (hr : meth.sig.returnType = (some .int)) (hl : l.stackTraces = false) (hex : ∀ x ∈ c.exceptionTable.toList, False) {res : (Int32 × Int32) × CS}   (x1 : Int32) (x2 : Int32) (x3 : Int32)  (σ : CS) (ta : Nat → Nat) (hφ : φ0 ≤ ph σ.2.2) (hφ2 : ph σ.2.2 ≤ BB) (h : B_FC_mark_22 x1 x2 x3 σ = some res) : NX g p l e s m args below meth c A 13 304 4 ad Rr φ0 res ta σ [(0, .ref (ad 0)), (1, .int x1), (2, .int x2), (3, .int x3)] 22 [] := by
  unfold B_FC_mark_22 at h
  refine nw_iconst (v := 0) C dX11_mark_22 (by decide) ?_
  exact nw_lv (lv' := [(0, .ref (ad 0)), (1, .int x1), (2, .int x2), (3, .int x3)]) [0, 1, 2, 3] rfl (w_FC_mark_23 C hr hl hex x1 x2 x3 0 _ _ hφ hφ2 h)
def f_FC_mark (p0 : Int32) (p1 : Int32) (p2 : Int32) (σ : CS) : Option ((Int32 × Int32) × CS) := bnd (f_FC_within p0 0 19 σ) (fun r4 σ4 => if r4 = 0 then B_FC_mark_22 p0 p1 p2 σ4 else bnd (f_FC_isPlace p1 p2 σ4) (fun r12 σ12 => if r12 = 0 then B_FC_mark_22 p0 p1 p2 σ12 else B_FC_mark_23 p0 p1 p2 1 σ12))
set_option maxHeartbeats 4000000 in
set_option maxRecDepth 100000 in
theorem c_FC_mark {l : Launch} {g : EG} {ad ta : Nat → Nat} {Rr : va_W} {σ : CS} {res : (Int32 × Int32) × CS} {p0 : Int32} {p1 : Int32} {p2 : Int32} (hl : l.stackTraces = false) (h : f_FC_mark p0 p1 p2 σ = some res) (hφ2 : ph σ.2.2 ≤ BB) : CxI l g yX11_mark (.code yX11_mark cX11_mark 4 (some .int)) 13 304 ad ta Rr σ [.ref (ad 0), .int p0, .int p1, .int p2] res := by
  refine CtX.of rfl (by decide) (Nat.le_of_ble_eq_true rfl) ?_
  intro p e s m args below meth c A C hr hex
  have hφ : ph σ.2.2 ≤ ph σ.2.2 := Nat.le_refl _
  refine nw_zero (ph σ.2.2) ?_
  show NX g p l e s m args below meth c A 13 304 4 ad Rr (ph σ.2.2) res ta σ [(0, .ref (ad 0)), (1, .int p0), (2, .int p1), (3, .int p2)] 0 []
  unfold f_FC_mark at h
  refine nw_iload_n C dX11_mark_0 rfl 1 rfl ?_
  refine nw_iconst (v := 0) C dX11_mark_1 (by decide) ?_
  refine nw_bipush (v := 19) C dX11_mark_2 (by decide) ?_
  refine nx_callSI  (As := [.int p0, .int 0, .int 19]) (rest := []) C h (fun _ _ e => c_FC_within e hφ2) tw_675 ks_X11_within ⟨Nat.le_of_ble_eq_true rfl, Nat.le_of_ble_eq_true rfl⟩ rfl dX11_mark_4 rfl (Nat.le_of_ble_eq_true rfl) hφ hφ2 (fun r4 σ4 ta h hφ hφ2 => ?_)
  refine nw_if_eq (tgt := 22) C dX11_mark_7 (by decide) h (fun _ h => ?_) (fun _ h => ?_)
  · exact nw_lv (lv' := [(0, .ref (ad 0)), (1, .int p0), (2, .int p1), (3, .int p2)]) [0, 1, 2, 3] rfl (w_FC_mark_22 C hr hl hex p0 p1 p2 _ _ hφ hφ2 h)
  · refine nw_iload_n C dX11_mark_10 rfl 2 rfl ?_
    refine nw_iload_n C dX11_mark_11 rfl 3 rfl ?_
    refine nx_callSI  (As := [.int p1, .int p2]) (rest := []) C h (fun _ _ e => c_FC_isPlace e hφ2) tw_919 ks_X11_isPlace ⟨Nat.le_of_ble_eq_true rfl, Nat.le_of_ble_eq_true rfl⟩ rfl dX11_mark_12 rfl (Nat.le_of_ble_eq_true rfl) hφ hφ2 (fun r12 σ12 ta h hφ hφ2 => ?_)
    refine nw_if_eq (tgt := 22) C dX11_mark_15 (by decide) h (fun _ h => ?_) (fun _ h => ?_)
    · exact nw_lv (lv' := [(0, .ref (ad 0)), (1, .int p0), (2, .int p1), (3, .int p2)]) [0, 1, 2, 3] rfl (w_FC_mark_22 C hr hl hex p0 p1 p2 _ _ hφ hφ2 h)
    · refine nw_iconst (v := 1) C dX11_mark_18 (by decide) ?_
      refine nw_goto (tgt := 23) C dX11_mark_19 (by decide) ?_
      exact nw_lv (lv' := [(0, .ref (ad 0)), (1, .int p0), (2, .int p1), (3, .int p2)]) [0, 1, 2, 3] rfl (w_FC_mark_23 C hr hl hex p0 p1 p2 1 _ _ hφ hφ2 h)
theorem dX11_ring_0 : decode cX11_ring 0 = .ok (.iload_n 1, 1) := by decide +kernel
theorem dX11_ring_1 : decode cX11_ring 1 = .ok (.invokestatic 134, 3) := by decide +kernel
theorem dX11_ring_4 : decode cX11_ring 4 = .ok (.ifCond .eq 22, 3) := by decide +kernel
theorem dX11_ring_7 : decode cX11_ring 7 = .ok (.iload_n 2, 1) := by decide +kernel
theorem dX11_ring_8 : decode cX11_ring 8 = .ok (.iconst 0, 1) := by decide +kernel
theorem dX11_ring_9 : decode cX11_ring 9 = .ok (.aload_n 0, 1) := by decide +kernel
theorem dX11_ring_10 : decode cX11_ring 10 = .ok (.getfield 14, 3) := by decide +kernel
theorem dX11_ring_13 : decode cX11_ring 13 = .ok (.invokevirtual 111, 3) := by decide +kernel
theorem dX11_ring_16 : decode cX11_ring 16 = .ok (.invokestatic 92, 3) := by decide +kernel
theorem dX11_ring_19 : decode cX11_ring 19 = .ok (.ifCond .eq 7, 3) := by decide +kernel
theorem dX11_ring_22 : decode cX11_ring 22 = .ok (.iconst 1, 1) := by decide +kernel
theorem dX11_ring_23 : decode cX11_ring 23 = .ok (.goto 4, 3) := by decide +kernel
theorem dX11_ring_26 : decode cX11_ring 26 = .ok (.iconst 0, 1) := by decide +kernel
theorem dX11_ring_27 : decode cX11_ring 27 = .ok (.invokestatic 96, 3) := by decide +kernel
theorem dX11_ring_30 : decode cX11_ring 30 = .ok (.aload_n 0, 1) := by decide +kernel
theorem dX11_ring_31 : decode cX11_ring 31 = .ok (.getfield 14, 3) := by decide +kernel
theorem dX11_ring_34 : decode cX11_ring 34 = .ok (.iload_n 2, 1) := by decide +kernel
theorem dX11_ring_35 : decode cX11_ring 35 = .ok (.invokevirtual 138, 3) := by decide +kernel
theorem dX11_ring_38 : decode cX11_ring 38 = .ok (.aload_n 0, 1) := by decide +kernel
theorem dX11_ring_39 : decode cX11_ring 39 = .ok (.getfield 21, 3) := by decide +kernel
theorem dX11_ring_42 : decode cX11_ring 42 = .ok (.iload_n 1, 1) := by decide +kernel
theorem dX11_ring_43 : decode cX11_ring 43 = .ok (.aload_n 0, 1) := by decide +kernel
theorem dX11_ring_44 : decode cX11_ring 44 = .ok (.getfield 14, 3) := by decide +kernel
theorem dX11_ring_47 : decode cX11_ring 47 = .ok (.invokevirtual 141, 3) := by decide +kernel
theorem dX11_ring_50 : decode cX11_ring 50 = .ok (.istore_n 3, 1) := by decide +kernel
theorem dX11_ring_51 : decode cX11_ring 51 = .ok (.aload_n 0, 1) := by decide +kernel
theorem dX11_ring_52 : decode cX11_ring 52 = .ok (.getfield 14, 3) := by decide +kernel
theorem dX11_ring_55 : decode cX11_ring 55 = .ok (.iconst 0, 1) := by decide +kernel
theorem dX11_ring_56 : decode cX11_ring 56 = .ok (.invokevirtual 138, 3) := by decide +kernel
theorem dX11_ring_59 : decode cX11_ring 59 = .ok (.iload_n 3, 1) := by decide +kernel
theorem dX11_ring_60 : decode cX11_ring 60 = .ok (.ireturn, 1) := by decide +kernel
def B_FC_ring_27   (x1 : Int32) (x2 : Int32) (z0 : Int32) (σ : CS) : Option ((Int32 × Int32) × CS) := if z0 = 0 then some ((1, 0), σ) else (bnd (f_Table_cut 0 x2 σ) (fun _ σ35 => bnd (f_Ground_addRing x1 σ35) (fun r47 σ47 => bnd (f_Table_cut 0 0 σ47) (fun _ σ56 => some ((0, r47), σ56)))))
set_option maxHeartbeats 4000000 in
set_option maxRecDepth 100000 in
theorem w_FC_ring_27 (C : Cx g p s m args meth c A 4 cX11_ring yX11_ring.cls) (hr : meth.sig.returnType = (some .int)) (hl : l.stackTraces = false) (hex : ∀ x ∈ c.exceptionTable.toList, False) {res : (Int32 × Int32) × CS}   (x1 : Int32) (x2 : Int32) (z0 : Int32)  (σ : CS) (ta : Nat → Nat) (hφ : φ0 ≤ ph σ.2.2) (hφ2 : ph σ.2.2 ≤ BB) (h : B_FC_ring_27 x1 x2 z0 σ = some res) : NX g p l e s m args below meth c A 13 304 4 ad Rr φ0 res ta σ [(0, .ref (ad 0)), (1, .int x1), (2, .int x2)] 27 [.int z0] := by
  unfold B_FC_ring_27 at h
  refine nx_check C hex (by decide) (fun _ => ct_checkArgument hl) (fun _ hb => cr_checkArgument hb) tw_678 ks_X11_checkArgument ⟨Nat.le_of_ble_eq_true rfl, Nat.le_of_ble_eq_true rfl⟩ dX11_ring_27 (Nat.le_of_ble_eq_true rfl) hφ hφ2 h (fun _ h => ?_)
  refine nw_aload_n C dX11_ring_30 rfl 0 rfl ?_
  refine nw_get (v := .ref (ad 11)) C in_X11 0 cl_FC rfl 0 (by decide) tw_510 rfl rfl dX11_ring_31 ?_
  refine nw_iload_n C dX11_ring_34 rfl 2 rfl ?_
  refine nx_callVV (q0 := 11) (As := [.int x2]) (rest := []) C h (fun _ _ e => c_Table_cut 0 (by decide) e hφ2) tw_939 kv_X9_cut (cl_T 0 (by decide)) rfl ⟨Nat.le_of_ble_eq_true rfl, Nat.le_of_ble_eq_true rfl⟩ rfl dX11_ring_35 rfl (Nat.le_of_ble_eq_true rfl) hφ hφ2 (fun r35 σ35 ta h hφ hφ2 => ?_)
  refine nw_aload_n C dX11_ring_38 rfl 0 rfl ?_
  refine nw_get (v := .ref (ad 1)) C in_X11 0 cl_FC rfl 1 (by decide) tw_511 rfl rfl dX11_ring_39 ?_
  refine nw_iload_n C dX11_ring_42 rfl 1 rfl ?_
  refine nw_aload_n C dX11_ring_43 rfl 0 rfl ?_
  refine nw_get (v := .ref (ad 11)) C in_X11 0 cl_FC rfl 0 (by decide) tw_510 rfl rfl dX11_ring_44 ?_
  refine nx_callVI (q0 := 1) (As := [.int x1, .ref (ad 11)]) (rest := []) C h (fun _ _ e => c_Ground_addRing e hφ2) tw_943 kv_X2_addRing cl_Ground rfl ⟨Nat.le_of_ble_eq_true rfl, Nat.le_of_ble_eq_true rfl⟩ rfl dX11_ring_47 rfl (Nat.le_of_ble_eq_true rfl) hφ hφ2 (fun r47 σ47 ta h hφ hφ2 => ?_)
  refine nw_istore_n (lv' := [(3, .int r47), (0, .ref (ad 0)), (1, .int x1), (2, .int x2)]) C dX11_ring_50 rfl (by decide) rfl ?_
  refine nw_aload_n C dX11_ring_51 rfl 1 rfl ?_
  refine nw_get (v := .ref (ad 11)) C in_X11 0 cl_FC rfl 0 (by decide) tw_510 rfl rfl dX11_ring_52 ?_
  refine nw_iconst (v := 0) C dX11_ring_55 (by decide) ?_
  refine nx_callVV (q0 := 11) (As := [.int 0]) (rest := []) C h (fun _ _ e => c_Table_cut 0 (by decide) e hφ2) tw_939 kv_X9_cut (cl_T 0 (by decide)) rfl ⟨Nat.le_of_ble_eq_true rfl, Nat.le_of_ble_eq_true rfl⟩ rfl dX11_ring_56 rfl (Nat.le_of_ble_eq_true rfl) hφ hφ2 (fun r56 σ56 ta h hφ hφ2 => ?_)
  refine nw_iload_n C dX11_ring_59 rfl 0 rfl ?_
  exact nx_iret C hr dX11_ring_60 hφ hφ2 h
def B_FC_ring_26   (x1 : Int32) (x2 : Int32) (σ : CS) : Option ((Int32 × Int32) × CS) := B_FC_ring_27 x1 x2 0 σ
set_option maxHeartbeats 4000000 in
set_option maxRecDepth 100000 in
theorem w_FC_ring_26 (C : Cx g p s m args meth c A 4 cX11_ring yX11_ring.cls) (hr : meth.sig.returnType = (some .int)) (hl : l.stackTraces = false) (hex : ∀ x ∈ c.exceptionTable.toList, False) {res : (Int32 × Int32) × CS}   (x1 : Int32) (x2 : Int32)  (σ : CS) (ta : Nat → Nat) (hφ : φ0 ≤ ph σ.2.2) (hφ2 : ph σ.2.2 ≤ BB) (h : B_FC_ring_26 x1 x2 σ = some res) : NX g p l e s m args below meth c A 13 304 4 ad Rr φ0 res ta σ [(0, .ref (ad 0)), (1, .int x1), (2, .int x2)] 26 [] := by
  unfold B_FC_ring_26 at h
  refine nw_iconst (v := 0) C dX11_ring_26 (by decide) ?_
  exact nw_lv (lv' := [(0, .ref (ad 0)), (1, .int x1), (2, .int x2)]) [0, 1, 2] rfl (w_FC_ring_27 C hr hl hex x1 x2 0 _ _ hφ hφ2 h)
def f_FC_ring (p0 : Int32) (p1 : Int32) (σ : CS) : Option ((Int32 × Int32) × CS) := bnd (f_FC_isDay p0 σ) (fun r1 σ1 => if r1 = 0 then B_FC_ring_26 p0 p1 σ1 else bnd (f_Table_size 0 σ1) (fun r13 σ13 => bnd (f_FC_within p1 0 r13 σ13) (fun r16 σ16 => if r16 = 0 then B_FC_ring_26 p0 p1 σ16 else B_FC_ring_27 p0 p1 1 σ16)))
set_option maxHeartbeats 4000000 in
set_option maxRecDepth 100000 in
theorem c_FC_ring {l : Launch} {g : EG} {ad ta : Nat → Nat} {Rr : va_W} {σ : CS} {res : (Int32 × Int32) × CS} {p0 : Int32} {p1 : Int32} (hl : l.stackTraces = false) (h : f_FC_ring p0 p1 σ = some res) (hφ2 : ph σ.2.2 ≤ BB) : CxI l g yX11_ring (.code yX11_ring cX11_ring 4 (some .int)) 13 304 ad ta Rr σ [.ref (ad 0), .int p0, .int p1] res := by
  refine CtX.of rfl (by decide) (Nat.le_of_ble_eq_true rfl) ?_
  intro p e s m args below meth c A C hr hex
  have hφ : ph σ.2.2 ≤ ph σ.2.2 := Nat.le_refl _
  refine nw_zero (ph σ.2.2) ?_
  show NX g p l e s m args below meth c A 13 304 4 ad Rr (ph σ.2.2) res ta σ [(0, .ref (ad 0)), (1, .int p0), (2, .int p1)] 0 []
  unfold f_FC_ring at h
  refine nw_iload_n C dX11_ring_0 rfl 1 rfl ?_
  refine nx_callSI  (As := [.int p0]) (rest := []) C h (fun _ _ e => c_FC_isDay e hφ2) tw_936 ks_X11_isDay ⟨Nat.le_of_ble_eq_true rfl, Nat.le_of_ble_eq_true rfl⟩ rfl dX11_ring_1 rfl (Nat.le_of_ble_eq_true rfl) hφ hφ2 (fun r1 σ1 ta h hφ hφ2 => ?_)
  refine nw_if_eq (tgt := 26) C dX11_ring_4 (by decide) h (fun _ h => ?_) (fun _ h => ?_)
  · exact nw_lv (lv' := [(0, .ref (ad 0)), (1, .int p0), (2, .int p1)]) [0, 1, 2] rfl (w_FC_ring_26 C hr hl hex p0 p1 _ _ hφ hφ2 h)
  · refine nw_iload_n C dX11_ring_7 rfl 2 rfl ?_
    refine nw_iconst (v := 0) C dX11_ring_8 (by decide) ?_
    refine nw_aload_n C dX11_ring_9 rfl 0 rfl ?_
    refine nw_get (v := .ref (ad 11)) C in_X11 0 cl_FC rfl 0 (by decide) tw_510 rfl rfl dX11_ring_10 ?_
    refine nx_callVI (q0 := 11) (As := []) (rest := [.int 0, .int p1]) C h (fun _ _ e => c_Table_size 0 (by decide) e hφ2) tw_545 kv_X9_size (cl_T 0 (by decide)) rfl ⟨Nat.le_of_ble_eq_true rfl, Nat.le_of_ble_eq_true rfl⟩ rfl dX11_ring_13 rfl (Nat.le_of_ble_eq_true rfl) hφ hφ2 (fun r13 σ13 ta h hφ hφ2 => ?_)
    refine nx_callSI  (As := [.int p1, .int 0, .int r13]) (rest := []) C h (fun _ _ e => c_FC_within e hφ2) tw_675 ks_X11_within ⟨Nat.le_of_ble_eq_true rfl, Nat.le_of_ble_eq_true rfl⟩ rfl dX11_ring_16 rfl (Nat.le_of_ble_eq_true rfl) hφ hφ2 (fun r16 σ16 ta h hφ hφ2 => ?_)
    refine nw_if_eq (tgt := 26) C dX11_ring_19 (by decide) h (fun _ h => ?_) (fun _ h => ?_)
    · exact nw_lv (lv' := [(0, .ref (ad 0)), (1, .int p0), (2, .int p1)]) [0, 1, 2] rfl (w_FC_ring_26 C hr hl hex p0 p1 _ _ hφ hφ2 h)
    · refine nw_iconst (v := 1) C dX11_ring_22 (by decide) ?_
      refine nw_goto (tgt := 27) C dX11_ring_23 (by decide) ?_
      exact nw_lv (lv' := [(0, .ref (ad 0)), (1, .int p0), (2, .int p1)]) [0, 1, 2] rfl (w_FC_ring_27 C hr hl hex p0 p1 1 _ _ hφ hφ2 h)
theorem dX11_unring_0 : decode cX11_unring 0 = .ok (.aload_n 0, 1) := by decide +kernel
theorem dX11_unring_1 : decode cX11_unring 1 = .ok (.getfield 21, 3) := by decide +kernel
theorem dX11_unring_4 : decode cX11_unring 4 = .ok (.getfield 145, 3) := by decide +kernel
theorem dX11_unring_7 : decode cX11_unring 7 = .ok (.iload_n 1, 1) := by decide +kernel
theorem dX11_unring_8 : decode cX11_unring 8 = .ok (.invokevirtual 148, 3) := by decide +kernel
theorem dX11_unring_11 : decode cX11_unring 11 = .ok (.invokestatic 151, 3) := by decide +kernel
theorem dX11_unring_14 : decode cX11_unring 14 = .ok (.iload_n 2, 1) := by decide +kernel
theorem dX11_unring_15 : decode cX11_unring 15 = .ok (.iconst (-1), 1) := by decide +kernel
theorem dX11_unring_16 : decode cX11_unring 16 = .ok (.if_icmp .eq 10, 3) := by decide +kernel
theorem dX11_unring_19 : decode cX11_unring 19 = .ok (.iload_n 2, 1) := by decide +kernel
theorem dX11_unring_20 : decode cX11_unring 20 = .ok (.invokestatic 134, 3) := by decide +kernel
theorem dX11_unring_23 : decode cX11_unring 23 = .ok (.ifCond .eq 7, 3) := by decide +kernel
theorem dX11_unring_26 : decode cX11_unring 26 = .ok (.iconst 1, 1) := by decide +kernel
theorem dX11_unring_27 : decode cX11_unring 27 = .ok (.goto 4, 3) := by decide +kernel
theorem dX11_unring_30 : decode cX11_unring 30 = .ok (.iconst 0, 1) := by decide +kernel
theorem dX11_unring_31 : decode cX11_unring 31 = .ok (.invokestatic 96, 3) := by decide +kernel
theorem dX11_unring_34 : decode cX11_unring 34 = .ok (.aload_n 0, 1) := by decide +kernel
theorem dX11_unring_35 : decode cX11_unring 35 = .ok (.getfield 21, 3) := by decide +kernel
theorem dX11_unring_38 : decode cX11_unring 38 = .ok (.getfield 145, 3) := by decide +kernel
theorem dX11_unring_41 : decode cX11_unring 41 = .ok (.iload_n 1, 1) := by decide +kernel
theorem dX11_unring_42 : decode cX11_unring 42 = .ok (.iconst 1, 1) := by decide +kernel
theorem dX11_unring_43 : decode cX11_unring 43 = .ok (.iload_n 2, 1) := by decide +kernel
theorem dX11_unring_44 : decode cX11_unring 44 = .ok (.invokevirtual 154, 3) := by decide +kernel
theorem dX11_unring_47 : decode cX11_unring 47 = .ok (.ireturn, 1) := by decide +kernel
def B_FC_unring_31   (x1 : Int32) (x2 : Int32) (z0 : Int32) (σ : CS) : Option ((Int32 × Int32) × CS) := if z0 = 0 then some ((1, 0), σ) else (bnd (f_Table_swap 2 x1 1 x2 σ) (fun r44 σ44 => some ((0, r44), σ44)))
set_option maxHeartbeats 4000000 in
set_option maxRecDepth 100000 in
theorem w_FC_unring_31 (C : Cx g p s m args meth c A 3 cX11_unring yX11_unring.cls) (hr : meth.sig.returnType = (some .int)) (hl : l.stackTraces = false) (hex : ∀ x ∈ c.exceptionTable.toList, False) {res : (Int32 × Int32) × CS}   (x1 : Int32) (x2 : Int32) (z0 : Int32)  (σ : CS) (ta : Nat → Nat) (hφ : φ0 ≤ ph σ.2.2) (hφ2 : ph σ.2.2 ≤ BB) (h : B_FC_unring_31 x1 x2 z0 σ = some res) : NX g p l e s m args below meth c A 13 304 3 ad Rr φ0 res ta σ [(0, .ref (ad 0)), (1, .int x1), (2, .int x2)] 31 [.int z0] := by
  unfold B_FC_unring_31 at h
  refine nx_check C hex (by decide) (fun _ => ct_checkArgument hl) (fun _ hb => cr_checkArgument hb) tw_678 ks_X11_checkArgument ⟨Nat.le_of_ble_eq_true rfl, Nat.le_of_ble_eq_true rfl⟩ dX11_unring_31 (Nat.le_of_ble_eq_true rfl) hφ hφ2 h (fun _ h => ?_)
  refine nw_aload_n C dX11_unring_34 rfl 0 rfl ?_
  refine nw_get (v := .ref (ad 1)) C in_X11 0 cl_FC rfl 1 (by decide) tw_511 rfl rfl dX11_unring_35 ?_
  refine nw_get (v := .ref (ad 13)) C in_X2 1 cl_Ground rfl 1 (by decide) tw_193 rfl rfl dX11_unring_38 ?_
  refine nw_iload_n C dX11_unring_41 rfl 1 rfl ?_
  refine nw_iconst (v := 1) C dX11_unring_42 (by decide) ?_
  refine nw_iload_n C dX11_unring_43 rfl 2 rfl ?_
  refine nx_callVI (q0 := 13) (As := [.int x1, .int 1, .int x2]) (rest := []) C h (fun _ _ e => c_Table_swap 2 (by decide) e hφ2) tw_1010 kv_X9_swap (cl_T 2 (by decide)) rfl ⟨Nat.le_of_ble_eq_true rfl, Nat.le_of_ble_eq_true rfl⟩ rfl dX11_unring_44 rfl (Nat.le_of_ble_eq_true rfl) hφ hφ2 (fun r44 σ44 ta h hφ hφ2 => ?_)
  exact nx_iret C hr dX11_unring_47 hφ hφ2 h
def f_FC_unring (p0 : Int32) (p1 : Int32) (σ : CS) : Option ((Int32 × Int32) × CS) := bnd (f_Table_has 2 p0 σ) (fun r8 σ8 => if r8 = 0 then some ((3, 0), σ8) else (if p1 = (-1) then B_FC_unring_31 p0 p1 1 σ8 else bnd (f_FC_isDay p1 σ8) (fun r20 σ20 => if r20 = 0 then B_FC_unring_31 p0 p1 0 σ20 else B_FC_unring_31 p0 p1 1 σ20)))
set_option maxHeartbeats 4000000 in
set_option maxRecDepth 100000 in
theorem c_FC_unring {l : Launch} {g : EG} {ad ta : Nat → Nat} {Rr : va_W} {σ : CS} {res : (Int32 × Int32) × CS} {p0 : Int32} {p1 : Int32} (hl : l.stackTraces = false) (h : f_FC_unring p0 p1 σ = some res) (hφ2 : ph σ.2.2 ≤ BB) : CxI l g yX11_unring (.code yX11_unring cX11_unring 3 (some .int)) 13 304 ad ta Rr σ [.ref (ad 0), .int p0, .int p1] res := by
  refine CtX.of rfl (by decide) (Nat.le_of_ble_eq_true rfl) ?_
  intro p e s m args below meth c A C hr hex
  have hφ : ph σ.2.2 ≤ ph σ.2.2 := Nat.le_refl _
  refine nw_zero (ph σ.2.2) ?_
  show NX g p l e s m args below meth c A 13 304 3 ad Rr (ph σ.2.2) res ta σ [(0, .ref (ad 0)), (1, .int p0), (2, .int p1)] 0 []
  unfold f_FC_unring at h
  refine nw_aload_n C dX11_unring_0 rfl 0 rfl ?_
  refine nw_get (v := .ref (ad 1)) C in_X11 0 cl_FC rfl 1 (by decide) tw_511 rfl rfl dX11_unring_1 ?_
  refine nw_get (v := .ref (ad 13)) C in_X2 1 cl_Ground rfl 1 (by decide) tw_193 rfl rfl dX11_unring_4 ?_
  refine nw_iload_n C dX11_unring_7 rfl 1 rfl ?_
  refine nx_callVI (q0 := 13) (As := [.int p0]) (rest := []) C h (fun _ _ e => c_Table_has 2 (by decide) e hφ2) tw_990 kv_X9_has (cl_T 2 (by decide)) rfl ⟨Nat.le_of_ble_eq_true rfl, Nat.le_of_ble_eq_true rfl⟩ rfl dX11_unring_8 rfl (Nat.le_of_ble_eq_true rfl) hφ hφ2 (fun r8 σ8 ta h hφ hφ2 => ?_)
  refine nx_check C hex (by decide) (fun _ => ct_checkIndex hl) (fun _ hb => cr_checkIndex hb) tw_991 ks_X11_checkIndex ⟨Nat.le_of_ble_eq_true rfl, Nat.le_of_ble_eq_true rfl⟩ dX11_unring_11 (Nat.le_of_ble_eq_true rfl) hφ hφ2 h (fun _ h => ?_)
  refine nw_iload_n C dX11_unring_14 rfl 2 rfl ?_
  refine nw_iconst (v := (-1)) C dX11_unring_15 (by decide) ?_
  refine nw_icmp_eq (tgt := 26) C dX11_unring_16 (by decide) h (fun _ h => ?_) (fun _ h => ?_)
  · refine nw_iconst (v := 1) C dX11_unring_26 (by decide) ?_
    refine nw_goto (tgt := 31) C dX11_unring_27 (by decide) ?_
    exact nw_lv (lv' := [(0, .ref (ad 0)), (1, .int p0), (2, .int p1)]) [0, 1, 2] rfl (w_FC_unring_31 C hr hl hex p0 p1 1 _ _ hφ hφ2 h)
  · refine nw_iload_n C dX11_unring_19 rfl 2 rfl ?_
    refine nx_callSI  (As := [.int p1]) (rest := []) C h (fun _ _ e => c_FC_isDay e hφ2) tw_936 ks_X11_isDay ⟨Nat.le_of_ble_eq_true rfl, Nat.le_of_ble_eq_true rfl⟩ rfl dX11_unring_20 rfl (Nat.le_of_ble_eq_true rfl) hφ hφ2 (fun r20 σ20 ta h hφ hφ2 => ?_)
    refine nw_if_eq (tgt := 30) C dX11_unring_23 (by decide) h (fun _ h => ?_) (fun _ h => ?_)
    · refine nw_iconst (v := 0) C dX11_unring_30 (by decide) ?_
      exact nw_lv (lv' := [(0, .ref (ad 0)), (1, .int p0), (2, .int p1)]) [0, 1, 2] rfl (w_FC_unring_31 C hr hl hex p0 p1 0 _ _ hφ hφ2 h)
    · refine nw_iconst (v := 1) C dX11_unring_26 (by decide) ?_
      refine nw_goto (tgt := 31) C dX11_unring_27 (by decide) ?_
      exact nw_lv (lv' := [(0, .ref (ad 0)), (1, .int p0), (2, .int p1)]) [0, 1, 2] rfl (w_FC_unring_31 C hr hl hex p0 p1 1 _ _ hφ hφ2 h)
theorem dX11_strip_0 : decode cX11_strip 0 = .ok (.iload_n 1, 1) := by decide +kernel
theorem dX11_strip_1 : decode cX11_strip 1 = .ok (.iconst 0, 1) := by decide +kernel
theorem dX11_strip_2 : decode cX11_strip 2 = .ok (.bipush 100, 2) := by decide +kernel
theorem dX11_strip_4 : decode cX11_strip 4 = .ok (.invokestatic 92, 3) := by decide +kernel
theorem dX11_strip_7 : decode cX11_strip 7 = .ok (.invokestatic 96, 3) := by decide +kernel
theorem dX11_strip_10 : decode cX11_strip 10 = .ok (.aload_n 0, 1) := by decide +kernel
theorem dX11_strip_11 : decode cX11_strip 11 = .ok (.getfield 21, 3) := by decide +kernel
theorem dX11_strip_14 : decode cX11_strip 14 = .ok (.getfield 157, 3) := by decide +kernel
theorem dX11_strip_17 : decode cX11_strip 17 = .ok (.istore_n 2, 1) := by decide +kernel
theorem dX11_strip_18 : decode cX11_strip 18 = .ok (.aload_n 0, 1) := by decide +kernel
theorem dX11_strip_19 : decode cX11_strip 19 = .ok (.getfield 21, 3) := by decide +kernel
theorem dX11_strip_22 : decode cX11_strip 22 = .ok (.iload_n 1, 1) := by decide +kernel
theorem dX11_strip_23 : decode cX11_strip 23 = .ok (.putfield 157, 3) := by decide +kernel
theorem dX11_strip_26 : decode cX11_strip 26 = .ok (.iload_n 2, 1) := by decide +kernel
theorem dX11_strip_27 : decode cX11_strip 27 = .ok (.ireturn, 1) := by decide +kernel
def f_FC_strip (p0 : Int32) (σ : CS) : Option ((Int32 × Int32) × CS) := bnd (f_FC_within p0 0 100 σ) (fun r4 σ4 => if r4 = 0 then some ((1, 0), σ4) else (some ((0, (σ4.1 48)), (sF σ4 48 p0))))
set_option maxHeartbeats 4000000 in
set_option maxRecDepth 100000 in
theorem c_FC_strip {l : Launch} {g : EG} {ad ta : Nat → Nat} {Rr : va_W} {σ : CS} {res : (Int32 × Int32) × CS} {p0 : Int32} (hl : l.stackTraces = false) (h : f_FC_strip p0 σ = some res) (hφ2 : ph σ.2.2 ≤ BB) : CxI l g yX11_strip (.code yX11_strip cX11_strip 3 (some .int)) 13 304 ad ta Rr σ [.ref (ad 0), .int p0] res := by
  refine CtX.of rfl (by decide) (Nat.le_of_ble_eq_true rfl) ?_
  intro p e s m args below meth c A C hr hex
  have hφ : ph σ.2.2 ≤ ph σ.2.2 := Nat.le_refl _
  refine nw_zero (ph σ.2.2) ?_
  show NX g p l e s m args below meth c A 13 304 3 ad Rr (ph σ.2.2) res ta σ [(0, .ref (ad 0)), (1, .int p0)] 0 []
  unfold f_FC_strip at h
  refine nw_iload_n C dX11_strip_0 rfl 1 rfl ?_
  refine nw_iconst (v := 0) C dX11_strip_1 (by decide) ?_
  refine nw_bipush (v := 100) C dX11_strip_2 (by decide) ?_
  refine nx_callSI  (As := [.int p0, .int 0, .int 100]) (rest := []) C h (fun _ _ e => c_FC_within e hφ2) tw_675 ks_X11_within ⟨Nat.le_of_ble_eq_true rfl, Nat.le_of_ble_eq_true rfl⟩ rfl dX11_strip_4 rfl (Nat.le_of_ble_eq_true rfl) hφ hφ2 (fun r4 σ4 ta h hφ hφ2 => ?_)
  refine nx_check C hex (by decide) (fun _ => ct_checkArgument hl) (fun _ hb => cr_checkArgument hb) tw_678 ks_X11_checkArgument ⟨Nat.le_of_ble_eq_true rfl, Nat.le_of_ble_eq_true rfl⟩ dX11_strip_7 (Nat.le_of_ble_eq_true rfl) hφ hφ2 h (fun _ h => ?_)
  refine nw_aload_n C dX11_strip_10 rfl 0 rfl ?_
  refine nw_get (v := .ref (ad 1)) C in_X11 0 cl_FC rfl 1 (by decide) tw_511 rfl rfl dX11_strip_11 ?_
  refine nw_getN (v := .int (σ4.1 48)) C in_X2 1 cl_Ground rfl 3 (by decide) tw_195 rfl rfl dX11_strip_14 ?_
  refine nw_istore_n (lv' := [(2, .int (σ4.1 48)), (0, .ref (ad 0)), (1, .int p0)]) C dX11_strip_17 rfl (by decide) rfl ?_
  refine nw_aload_n C dX11_strip_18 rfl 1 rfl ?_
  refine nw_get (v := .ref (ad 1)) C in_X11 0 cl_FC rfl 1 (by decide) tw_511 rfl rfl dX11_strip_19 ?_
  refine nw_iload_n C dX11_strip_22 rfl 2 rfl ?_
  refine nw_putN (ty := .int) C in_X2 1 cl_Ground rfl 3 (by decide) tyX2 tyX2_ok nmX2 tw_195 rfl rfl (by decide +kernel) rfl rfl (Nat.le_of_ble_eq_true rfl) dX11_strip_23 cs_Ground_strip ?_
  refine nw_iload_n C dX11_strip_26 rfl 0 rfl ?_
  exact nx_iret C hr dX11_strip_27 hφ hφ2 h
theorem dX11_bounds_0 : decode cX11_bounds 0 = .ok (.iload_n 1, 1) := by decide +kernel
theorem dX11_bounds_1 : decode cX11_bounds 1 = .ok (.invokestatic 134, 3) := by decide +kernel
theorem dX11_bounds_4 : decode cX11_bounds 4 = .ok (.invokestatic 96, 3) := by decide +kernel
theorem dX11_bounds_7 : decode cX11_bounds 7 = .ok (.aload_n 0, 1) := by decide +kernel
theorem dX11_bounds_8 : decode cX11_bounds 8 = .ok (.getfield 21, 3) := by decide +kernel
theorem dX11_bounds_11 : decode cX11_bounds 11 = .ok (.iload_n 1, 1) := by decide +kernel
theorem dX11_bounds_12 : decode cX11_bounds 12 = .ok (.invokevirtual 160, 3) := by decide +kernel
theorem dX11_bounds_15 : decode cX11_bounds 15 = .ok (.ireturn, 1) := by decide +kernel
def f_FC_bounds (p0 : Int32) (σ : CS) : Option ((Int32 × Int32) × CS) := bnd (f_FC_isDay p0 σ) (fun r1 σ1 => if r1 = 0 then some ((1, 0), σ1) else (bnd (f_Ground_boundsOn p0 σ1) (fun r12 σ12 => some ((0, r12), σ12))))
set_option maxHeartbeats 4000000 in
set_option maxRecDepth 100000 in
theorem c_FC_bounds {l : Launch} {g : EG} {ad ta : Nat → Nat} {Rr : va_W} {σ : CS} {res : (Int32 × Int32) × CS} {p0 : Int32} (hl : l.stackTraces = false) (h : f_FC_bounds p0 σ = some res) (hφ2 : ph σ.2.2 ≤ BB) : CxI l g yX11_bounds (.code yX11_bounds cX11_bounds 2 (some .int)) 13 304 ad ta Rr σ [.ref (ad 0), .int p0] res := by
  refine CtX.of rfl (by decide) (Nat.le_of_ble_eq_true rfl) ?_
  intro p e s m args below meth c A C hr hex
  have hφ : ph σ.2.2 ≤ ph σ.2.2 := Nat.le_refl _
  refine nw_zero (ph σ.2.2) ?_
  show NX g p l e s m args below meth c A 13 304 2 ad Rr (ph σ.2.2) res ta σ [(0, .ref (ad 0)), (1, .int p0)] 0 []
  unfold f_FC_bounds at h
  refine nw_iload_n C dX11_bounds_0 rfl 1 rfl ?_
  refine nx_callSI  (As := [.int p0]) (rest := []) C h (fun _ _ e => c_FC_isDay e hφ2) tw_936 ks_X11_isDay ⟨Nat.le_of_ble_eq_true rfl, Nat.le_of_ble_eq_true rfl⟩ rfl dX11_bounds_1 rfl (Nat.le_of_ble_eq_true rfl) hφ hφ2 (fun r1 σ1 ta h hφ hφ2 => ?_)
  refine nx_check C hex (by decide) (fun _ => ct_checkArgument hl) (fun _ hb => cr_checkArgument hb) tw_678 ks_X11_checkArgument ⟨Nat.le_of_ble_eq_true rfl, Nat.le_of_ble_eq_true rfl⟩ dX11_bounds_4 (Nat.le_of_ble_eq_true rfl) hφ hφ2 h (fun _ h => ?_)
  refine nw_aload_n C dX11_bounds_7 rfl 0 rfl ?_
  refine nw_get (v := .ref (ad 1)) C in_X11 0 cl_FC rfl 1 (by decide) tw_511 rfl rfl dX11_bounds_8 ?_
  refine nw_iload_n C dX11_bounds_11 rfl 1 rfl ?_
  refine nx_callVI (q0 := 1) (As := [.int p0]) (rest := []) C h (fun _ _ e => c_Ground_boundsOn e hφ2) tw_1028 kv_X2_boundsOn cl_Ground rfl ⟨Nat.le_of_ble_eq_true rfl, Nat.le_of_ble_eq_true rfl⟩ rfl dX11_bounds_12 rfl (Nat.le_of_ble_eq_true rfl) hφ hφ2 (fun r12 σ12 ta h hφ hφ2 => ?_)
  exact nx_iret C hr dX11_bounds_15 hφ hφ2 h
theorem dX11_where_0 : decode cX11_where 0 = .ok (.iload_n 1, 1) := by decide +kernel
theorem dX11_where_1 : decode cX11_where 1 = .ok (.invokestatic 134, 3) := by decide +kernel
theorem dX11_where_4 : decode cX11_where 4 = .ok (.ifCond .eq 15, 3) := by decide +kernel
theorem dX11_where_7 : decode cX11_where 7 = .ok (.iload_n 2, 1) := by decide +kernel
theorem dX11_where_8 : decode cX11_where 8 = .ok (.iload_n 3, 1) := by decide +kernel
theorem dX11_where_9 : decode cX11_where 9 = .ok (.invokestatic 119, 3) := by decide +kernel
theorem dX11_where_12 : decode cX11_where 12 = .ok (.ifCond .eq 7, 3) := by decide +kernel
theorem dX11_where_15 : decode cX11_where 15 = .ok (.iconst 1, 1) := by decide +kernel
theorem dX11_where_16 : decode cX11_where 16 = .ok (.goto 4, 3) := by decide +kernel
theorem dX11_where_19 : decode cX11_where 19 = .ok (.iconst 0, 1) := by decide +kernel
theorem dX11_where_20 : decode cX11_where 20 = .ok (.invokestatic 96, 3) := by decide +kernel
theorem dX11_where_23 : decode cX11_where 23 = .ok (.aload_n 0, 1) := by decide +kernel
theorem dX11_where_24 : decode cX11_where 24 = .ok (.getfield 21, 3) := by decide +kernel
theorem dX11_where_27 : decode cX11_where 27 = .ok (.iload_n 1, 1) := by decide +kernel
theorem dX11_where_28 : decode cX11_where 28 = .ok (.iload_n 2, 1) := by decide +kernel
theorem dX11_where_29 : decode cX11_where 29 = .ok (.iload_n 3, 1) := by decide +kernel
theorem dX11_where_30 : decode cX11_where 30 = .ok (.invokevirtual 164, 3) := by decide +kernel
theorem dX11_where_33 : decode cX11_where 33 = .ok (.ireturn, 1) := by decide +kernel
def B_FC_where_20   (x1 : Int32) (x2 : Int32) (x3 : Int32) (z0 : Int32) (σ : CS) : Option ((Int32 × Int32) × CS) := if z0 = 0 then some ((1, 0), σ) else (bnd (f_Ground_placeOn x1 x2 x3 σ) (fun r30 σ30 => some ((0, r30), σ30)))
set_option maxHeartbeats 4000000 in
set_option maxRecDepth 100000 in
theorem w_FC_where_20 (C : Cx g p s m args meth c A 4 cX11_where yX11_where.cls) (hr : meth.sig.returnType = (some .int)) (hl : l.stackTraces = false) (hex : ∀ x ∈ c.exceptionTable.toList, False) {res : (Int32 × Int32) × CS}   (x1 : Int32) (x2 : Int32) (x3 : Int32) (z0 : Int32)  (σ : CS) (ta : Nat → Nat) (hφ : φ0 ≤ ph σ.2.2) (hφ2 : ph σ.2.2 ≤ BB) (h : B_FC_where_20 x1 x2 x3 z0 σ = some res) : NX g p l e s m args below meth c A 13 304 4 ad Rr φ0 res ta σ [(0, .ref (ad 0)), (1, .int x1), (2, .int x2), (3, .int x3)] 20 [.int z0] := by
  unfold B_FC_where_20 at h
  refine nx_check C hex (by decide) (fun _ => ct_checkArgument hl) (fun _ hb => cr_checkArgument hb) tw_678 ks_X11_checkArgument ⟨Nat.le_of_ble_eq_true rfl, Nat.le_of_ble_eq_true rfl⟩ dX11_where_20 (Nat.le_of_ble_eq_true rfl) hφ hφ2 h (fun _ h => ?_)
  refine nw_aload_n C dX11_where_23 rfl 0 rfl ?_
  refine nw_get (v := .ref (ad 1)) C in_X11 0 cl_FC rfl 1 (by decide) tw_511 rfl rfl dX11_where_24 ?_
  refine nw_iload_n C dX11_where_27 rfl 1 rfl ?_
  refine nw_iload_n C dX11_where_28 rfl 2 rfl ?_
  refine nw_iload_n C dX11_where_29 rfl 3 rfl ?_
  refine nx_callVI (q0 := 1) (As := [.int x1, .int x2, .int x3]) (rest := []) C h (fun _ _ e => c_Ground_placeOn e hφ2) tw_1036 kv_X2_placeOn cl_Ground rfl ⟨Nat.le_of_ble_eq_true rfl, Nat.le_of_ble_eq_true rfl⟩ rfl dX11_where_30 rfl (Nat.le_of_ble_eq_true rfl) hφ hφ2 (fun r30 σ30 ta h hφ hφ2 => ?_)
  exact nx_iret C hr dX11_where_33 hφ hφ2 h
def B_FC_where_19   (x1 : Int32) (x2 : Int32) (x3 : Int32) (σ : CS) : Option ((Int32 × Int32) × CS) := B_FC_where_20 x1 x2 x3 0 σ
set_option maxHeartbeats 4000000 in
set_option maxRecDepth 100000 in
theorem w_FC_where_19 (C : Cx g p s m args meth c A 4 cX11_where yX11_where.cls) (hr : meth.sig.returnType = (some .int)) (hl : l.stackTraces = false) (hex : ∀ x ∈ c.exceptionTable.toList, False) {res : (Int32 × Int32) × CS}   (x1 : Int32) (x2 : Int32) (x3 : Int32)  (σ : CS) (ta : Nat → Nat) (hφ : φ0 ≤ ph σ.2.2) (hφ2 : ph σ.2.2 ≤ BB) (h : B_FC_where_19 x1 x2 x3 σ = some res) : NX g p l e s m args below meth c A 13 304 4 ad Rr φ0 res ta σ [(0, .ref (ad 0)), (1, .int x1), (2, .int x2), (3, .int x3)] 19 [] := by
  unfold B_FC_where_19 at h
  refine nw_iconst (v := 0) C dX11_where_19 (by decide) ?_
  exact nw_lv (lv' := [(0, .ref (ad 0)), (1, .int x1), (2, .int x2), (3, .int x3)]) [0, 1, 2, 3] rfl (w_FC_where_20 C hr hl hex x1 x2 x3 0 _ _ hφ hφ2 h)
def f_FC_where (p0 : Int32) (p1 : Int32) (p2 : Int32) (σ : CS) : Option ((Int32 × Int32) × CS) := bnd (f_FC_isDay p0 σ) (fun r1 σ1 => if r1 = 0 then B_FC_where_19 p0 p1 p2 σ1 else bnd (f_FC_isPlace p1 p2 σ1) (fun r9 σ9 => if r9 = 0 then B_FC_where_19 p0 p1 p2 σ9 else B_FC_where_20 p0 p1 p2 1 σ9))
set_option maxHeartbeats 4000000 in
set_option maxRecDepth 100000 in
theorem c_FC_where {l : Launch} {g : EG} {ad ta : Nat → Nat} {Rr : va_W} {σ : CS} {res : (Int32 × Int32) × CS} {p0 : Int32} {p1 : Int32} {p2 : Int32} (hl : l.stackTraces = false) (h : f_FC_where p0 p1 p2 σ = some res) (hφ2 : ph σ.2.2 ≤ BB) : CxI l g yX11_where (.code yX11_where cX11_where 4 (some .int)) 13 304 ad ta Rr σ [.ref (ad 0), .int p0, .int p1, .int p2] res := by
  refine CtX.of rfl (by decide) (Nat.le_of_ble_eq_true rfl) ?_
  intro p e s m args below meth c A C hr hex
  have hφ : ph σ.2.2 ≤ ph σ.2.2 := Nat.le_refl _
  refine nw_zero (ph σ.2.2) ?_
  show NX g p l e s m args below meth c A 13 304 4 ad Rr (ph σ.2.2) res ta σ [(0, .ref (ad 0)), (1, .int p0), (2, .int p1), (3, .int p2)] 0 []
  unfold f_FC_where at h
  refine nw_iload_n C dX11_where_0 rfl 1 rfl ?_
  refine nx_callSI  (As := [.int p0]) (rest := []) C h (fun _ _ e => c_FC_isDay e hφ2) tw_936 ks_X11_isDay ⟨Nat.le_of_ble_eq_true rfl, Nat.le_of_ble_eq_true rfl⟩ rfl dX11_where_1 rfl (Nat.le_of_ble_eq_true rfl) hφ hφ2 (fun r1 σ1 ta h hφ hφ2 => ?_)
  refine nw_if_eq (tgt := 19) C dX11_where_4 (by decide) h (fun _ h => ?_) (fun _ h => ?_)
  · exact nw_lv (lv' := [(0, .ref (ad 0)), (1, .int p0), (2, .int p1), (3, .int p2)]) [0, 1, 2, 3] rfl (w_FC_where_19 C hr hl hex p0 p1 p2 _ _ hφ hφ2 h)
  · refine nw_iload_n C dX11_where_7 rfl 2 rfl ?_
    refine nw_iload_n C dX11_where_8 rfl 3 rfl ?_
    refine nx_callSI  (As := [.int p1, .int p2]) (rest := []) C h (fun _ _ e => c_FC_isPlace e hφ2) tw_919 ks_X11_isPlace ⟨Nat.le_of_ble_eq_true rfl, Nat.le_of_ble_eq_true rfl⟩ rfl dX11_where_9 rfl (Nat.le_of_ble_eq_true rfl) hφ hφ2 (fun r9 σ9 ta h hφ hφ2 => ?_)
    refine nw_if_eq (tgt := 19) C dX11_where_12 (by decide) h (fun _ h => ?_) (fun _ h => ?_)
    · exact nw_lv (lv' := [(0, .ref (ad 0)), (1, .int p0), (2, .int p1), (3, .int p2)]) [0, 1, 2, 3] rfl (w_FC_where_19 C hr hl hex p0 p1 p2 _ _ hφ hφ2 h)
    · refine nw_iconst (v := 1) C dX11_where_15 (by decide) ?_
      refine nw_goto (tgt := 20) C dX11_where_16 (by decide) ?_
      exact nw_lv (lv' := [(0, .ref (ad 0)), (1, .int p0), (2, .int p1), (3, .int p2)]) [0, 1, 2, 3] rfl (w_FC_where_20 C hr hl hex p0 p1 p2 1 _ _ hφ hφ2 h)
theorem dX11_walk_0 : decode cX11_walk 0 = .ok (.iload_n 1, 1) := by decide +kernel
theorem dX11_walk_1 : decode cX11_walk 1 = .ok (.iconst 0, 1) := by decide +kernel
theorem dX11_walk_2 : decode cX11_walk 2 = .ok (.aload_n 0, 1) := by decide +kernel
theorem dX11_walk_3 : decode cX11_walk 3 = .ok (.getfield 14, 3) := by decide +kernel
theorem dX11_walk_6 : decode cX11_walk 6 = .ok (.invokevirtual 111, 3) := by decide +kernel
theorem dX11_walk_9 : decode cX11_walk 9 = .ok (.invokestatic 92, 3) := by decide +kernel
theorem dX11_walk_12 : decode cX11_walk 12 = .ok (.invokestatic 96, 3) := by decide +kernel
theorem dX11_walk_15 : decode cX11_walk 15 = .ok (.aload_n 0, 1) := by decide +kernel
theorem dX11_walk_16 : decode cX11_walk 16 = .ok (.getfield 14, 3) := by decide +kernel
theorem dX11_walk_19 : decode cX11_walk 19 = .ok (.iload_n 1, 1) := by decide +kernel
theorem dX11_walk_20 : decode cX11_walk 20 = .ok (.invokevirtual 138, 3) := by decide +kernel
theorem dX11_walk_23 : decode cX11_walk 23 = .ok (.aload_n 0, 1) := by decide +kernel
theorem dX11_walk_24 : decode cX11_walk 24 = .ok (.getfield 30, 3) := by decide +kernel
theorem dX11_walk_27 : decode cX11_walk 27 = .ok (.aload_n 0, 1) := by decide +kernel
theorem dX11_walk_28 : decode cX11_walk 28 = .ok (.getfield 14, 3) := by decide +kernel
theorem dX11_walk_31 : decode cX11_walk 31 = .ok (.invokevirtual 167, 3) := by decide +kernel
theorem dX11_walk_34 : decode cX11_walk 34 = .ok (.istore_n 2, 1) := by decide +kernel
theorem dX11_walk_35 : decode cX11_walk 35 = .ok (.aload_n 0, 1) := by decide +kernel
theorem dX11_walk_36 : decode cX11_walk 36 = .ok (.getfield 14, 3) := by decide +kernel
theorem dX11_walk_39 : decode cX11_walk 39 = .ok (.iconst 0, 1) := by decide +kernel
theorem dX11_walk_40 : decode cX11_walk 40 = .ok (.invokevirtual 138, 3) := by decide +kernel
theorem dX11_walk_43 : decode cX11_walk 43 = .ok (.iload_n 2, 1) := by decide +kernel
theorem dX11_walk_44 : decode cX11_walk 44 = .ok (.ireturn, 1) := by decide +kernel
def f_FC_walk (p0 : Int32) (σ : CS) : Option ((Int32 × Int32) × CS) := bnd (f_Table_size 0 σ) (fun r6 σ6 => bnd (f_FC_within p0 0 r6 σ6) (fun r9 σ9 => if r9 = 0 then some ((1, 0), σ9) else (bnd (f_Table_cut 0 p0 σ9) (fun _ σ20 => bnd (f_Search_go σ20) (fun r31 σ31 => bnd (f_Table_cut 0 0 σ31) (fun _ σ40 => some ((0, r31), σ40)))))))
set_option maxHeartbeats 4000000 in
set_option maxRecDepth 100000 in
theorem c_FC_walk {l : Launch} {g : EG} {ad ta : Nat → Nat} {Rr : va_W} {σ : CS} {res : (Int32 × Int32) × CS} {p0 : Int32} (hl : l.stackTraces = false) (h : f_FC_walk p0 σ = some res) (hφ2 : ph σ.2.2 ≤ BB) : CxI l g yX11_walk (.code yX11_walk cX11_walk 3 (some .int)) 162 6446 ad ta Rr σ [.ref (ad 0), .int p0] res := by
  refine CtX.of rfl (by decide) (Nat.le_of_ble_eq_true rfl) ?_
  intro p e s m args below meth c A C hr hex
  have hφ : ph σ.2.2 ≤ ph σ.2.2 := Nat.le_refl _
  refine nw_zero (ph σ.2.2) ?_
  show NX g p l e s m args below meth c A 162 6446 3 ad Rr (ph σ.2.2) res ta σ [(0, .ref (ad 0)), (1, .int p0)] 0 []
  unfold f_FC_walk at h
  refine nw_iload_n C dX11_walk_0 rfl 1 rfl ?_
  refine nw_iconst (v := 0) C dX11_walk_1 (by decide) ?_
  refine nw_aload_n C dX11_walk_2 rfl 0 rfl ?_
  refine nw_get (v := .ref (ad 11)) C in_X11 0 cl_FC rfl 0 (by decide) tw_510 rfl rfl dX11_walk_3 ?_
  refine nx_callVI (q0 := 11) (As := []) (rest := [.int 0, .int p0]) C h (fun _ _ e => c_Table_size 0 (by decide) e hφ2) tw_545 kv_X9_size (cl_T 0 (by decide)) rfl ⟨Nat.le_of_ble_eq_true rfl, Nat.le_of_ble_eq_true rfl⟩ rfl dX11_walk_6 rfl (Nat.le_of_ble_eq_true rfl) hφ hφ2 (fun r6 σ6 ta h hφ hφ2 => ?_)
  refine nx_callSI  (As := [.int p0, .int 0, .int r6]) (rest := []) C h (fun _ _ e => c_FC_within e hφ2) tw_675 ks_X11_within ⟨Nat.le_of_ble_eq_true rfl, Nat.le_of_ble_eq_true rfl⟩ rfl dX11_walk_9 rfl (Nat.le_of_ble_eq_true rfl) hφ hφ2 (fun r9 σ9 ta h hφ hφ2 => ?_)
  refine nx_check C hex (by decide) (fun _ => ct_checkArgument hl) (fun _ hb => cr_checkArgument hb) tw_678 ks_X11_checkArgument ⟨Nat.le_of_ble_eq_true rfl, Nat.le_of_ble_eq_true rfl⟩ dX11_walk_12 (Nat.le_of_ble_eq_true rfl) hφ hφ2 h (fun _ h => ?_)
  refine nw_aload_n C dX11_walk_15 rfl 0 rfl ?_
  refine nw_get (v := .ref (ad 11)) C in_X11 0 cl_FC rfl 0 (by decide) tw_510 rfl rfl dX11_walk_16 ?_
  refine nw_iload_n C dX11_walk_19 rfl 1 rfl ?_
  refine nx_callVV (q0 := 11) (As := [.int p0]) (rest := []) C h (fun _ _ e => c_Table_cut 0 (by decide) e hφ2) tw_939 kv_X9_cut (cl_T 0 (by decide)) rfl ⟨Nat.le_of_ble_eq_true rfl, Nat.le_of_ble_eq_true rfl⟩ rfl dX11_walk_20 rfl (Nat.le_of_ble_eq_true rfl) hφ hφ2 (fun r20 σ20 ta h hφ hφ2 => ?_)
  refine nw_aload_n C dX11_walk_23 rfl 0 rfl ?_
  refine nw_get (v := .ref (ad 2)) C in_X11 0 cl_FC rfl 2 (by decide) tw_512 rfl rfl dX11_walk_24 ?_
  refine nw_aload_n C dX11_walk_27 rfl 0 rfl ?_
  refine nw_get (v := .ref (ad 11)) C in_X11 0 cl_FC rfl 0 (by decide) tw_510 rfl rfl dX11_walk_28 ?_
  refine nx_callVI (q0 := 2) (As := [.ref (ad 11)]) (rest := []) C h (fun _ _ e => c_Search_go e hφ2) tw_1044 kv_X8_go cl_Search rfl ⟨Nat.le_of_ble_eq_true rfl, Nat.le_of_ble_eq_true rfl⟩ rfl dX11_walk_31 rfl (Nat.le_of_ble_eq_true rfl) hφ hφ2 (fun r31 σ31 ta h hφ hφ2 => ?_)
  refine nw_istore_n (lv' := [(2, .int r31), (0, .ref (ad 0)), (1, .int p0)]) C dX11_walk_34 rfl (by decide) rfl ?_
  refine nw_aload_n C dX11_walk_35 rfl 1 rfl ?_
  refine nw_get (v := .ref (ad 11)) C in_X11 0 cl_FC rfl 0 (by decide) tw_510 rfl rfl dX11_walk_36 ?_
  refine nw_iconst (v := 0) C dX11_walk_39 (by decide) ?_
  refine nx_callVV (q0 := 11) (As := [.int 0]) (rest := []) C h (fun _ _ e => c_Table_cut 0 (by decide) e hφ2) tw_939 kv_X9_cut (cl_T 0 (by decide)) rfl ⟨Nat.le_of_ble_eq_true rfl, Nat.le_of_ble_eq_true rfl⟩ rfl dX11_walk_40 rfl (Nat.le_of_ble_eq_true rfl) hφ hφ2 (fun r40 σ40 ta h hφ hφ2 => ?_)
  refine nw_iload_n C dX11_walk_43 rfl 0 rfl ?_
  exact nx_iret C hr dX11_walk_44 hφ hφ2 h
theorem dX11_text_0 : decode cX11_text 0 = .ok (.iload_n 1, 1) := by decide +kernel
theorem dX11_text_1 : decode cX11_text 1 = .ok (.invokestatic 134, 3) := by decide +kernel
theorem dX11_text_4 : decode cX11_text 4 = .ok (.ifCond .eq 22, 3) := by decide +kernel
theorem dX11_text_7 : decode cX11_text 7 = .ok (.iload_n 2, 1) := by decide +kernel
theorem dX11_text_8 : decode cX11_text 8 = .ok (.iconst 0, 1) := by decide +kernel
theorem dX11_text_9 : decode cX11_text 9 = .ok (.aload_n 0, 1) := by decide +kernel
theorem dX11_text_10 : decode cX11_text 10 = .ok (.getfield 14, 3) := by decide +kernel
theorem dX11_text_13 : decode cX11_text 13 = .ok (.invokevirtual 111, 3) := by decide +kernel
theorem dX11_text_16 : decode cX11_text 16 = .ok (.invokestatic 92, 3) := by decide +kernel
theorem dX11_text_19 : decode cX11_text 19 = .ok (.ifCond .eq 7, 3) := by decide +kernel
theorem dX11_text_22 : decode cX11_text 22 = .ok (.iconst 1, 1) := by decide +kernel
theorem dX11_text_23 : decode cX11_text 23 = .ok (.goto 4, 3) := by decide +kernel
theorem dX11_text_26 : decode cX11_text 26 = .ok (.iconst 0, 1) := by decide +kernel
theorem dX11_text_27 : decode cX11_text 27 = .ok (.invokestatic 96, 3) := by decide +kernel
theorem dX11_text_30 : decode cX11_text 30 = .ok (.aload_n 0, 1) := by decide +kernel
theorem dX11_text_31 : decode cX11_text 31 = .ok (.getfield 14, 3) := by decide +kernel
theorem dX11_text_34 : decode cX11_text 34 = .ok (.iload_n 2, 1) := by decide +kernel
theorem dX11_text_35 : decode cX11_text 35 = .ok (.invokevirtual 138, 3) := by decide +kernel
theorem dX11_text_38 : decode cX11_text 38 = .ok (.aload_n 0, 1) := by decide +kernel
theorem dX11_text_39 : decode cX11_text 39 = .ok (.getfield 39, 3) := by decide +kernel
theorem dX11_text_42 : decode cX11_text 42 = .ok (.iload_n 1, 1) := by decide +kernel
theorem dX11_text_43 : decode cX11_text 43 = .ok (.invokevirtual 177, 3) := by decide +kernel
theorem dX11_text_46 : decode cX11_text 46 = .ok (.istore_n 3, 1) := by decide +kernel
theorem dX11_text_47 : decode cX11_text 47 = .ok (.aload_n 0, 1) := by decide +kernel
theorem dX11_text_48 : decode cX11_text 48 = .ok (.getfield 14, 3) := by decide +kernel
theorem dX11_text_51 : decode cX11_text 51 = .ok (.iconst 0, 1) := by decide +kernel
theorem dX11_text_52 : decode cX11_text 52 = .ok (.invokevirtual 138, 3) := by decide +kernel
theorem dX11_text_55 : decode cX11_text 55 = .ok (.iload_n 3, 1) := by decide +kernel
theorem dX11_text_56 : decode cX11_text 56 = .ok (.ireturn, 1) := by decide +kernel
def B_FC_text_27   (x1 : Int32) (x2 : Int32) (z0 : Int32) (σ : CS) : Option ((Int32 × Int32) × CS) := if z0 = 0 then some ((1, 0), σ) else (bnd (f_Table_cut 0 x2 σ) (fun _ σ35 => bnd (f_Laws_addText x1 σ35) (fun r43 σ43 => bnd (f_Table_cut 0 0 σ43) (fun _ σ52 => some ((0, r43), σ52)))))
set_option maxHeartbeats 4000000 in
set_option maxRecDepth 100000 in
theorem w_FC_text_27 (C : Cx g p s m args meth c A 4 cX11_text yX11_text.cls) (hr : meth.sig.returnType = (some .int)) (hl : l.stackTraces = false) (hex : ∀ x ∈ c.exceptionTable.toList, False) {res : (Int32 × Int32) × CS}   (x1 : Int32) (x2 : Int32) (z0 : Int32)  (σ : CS) (ta : Nat → Nat) (hφ : φ0 ≤ ph σ.2.2) (hφ2 : ph σ.2.2 ≤ BB) (h : B_FC_text_27 x1 x2 z0 σ = some res) : NX g p l e s m args below meth c A 1003 40073 4 ad Rr φ0 res ta σ [(0, .ref (ad 0)), (1, .int x1), (2, .int x2)] 27 [.int z0] := by
  unfold B_FC_text_27 at h
  refine nx_check C hex (by decide) (fun _ => ct_checkArgument hl) (fun _ hb => cr_checkArgument hb) tw_678 ks_X11_checkArgument ⟨Nat.le_of_ble_eq_true rfl, Nat.le_of_ble_eq_true rfl⟩ dX11_text_27 (Nat.le_of_ble_eq_true rfl) hφ hφ2 h (fun _ h => ?_)
  refine nw_aload_n C dX11_text_30 rfl 0 rfl ?_
  refine nw_get (v := .ref (ad 11)) C in_X11 0 cl_FC rfl 0 (by decide) tw_510 rfl rfl dX11_text_31 ?_
  refine nw_iload_n C dX11_text_34 rfl 2 rfl ?_
  refine nx_callVV (q0 := 11) (As := [.int x2]) (rest := []) C h (fun _ _ e => c_Table_cut 0 (by decide) e hφ2) tw_939 kv_X9_cut (cl_T 0 (by decide)) rfl ⟨Nat.le_of_ble_eq_true rfl, Nat.le_of_ble_eq_true rfl⟩ rfl dX11_text_35 rfl (Nat.le_of_ble_eq_true rfl) hφ hφ2 (fun r35 σ35 ta h hφ hφ2 => ?_)
  refine nw_aload_n C dX11_text_38 rfl 0 rfl ?_
  refine nw_get (v := .ref (ad 3)) C in_X11 0 cl_FC rfl 3 (by decide) tw_513 rfl rfl dX11_text_39 ?_
  refine nw_iload_n C dX11_text_42 rfl 1 rfl ?_
  refine nx_callVI (q0 := 3) (As := [.int x1]) (rest := []) C h (fun _ _ e => c_Laws_addText e hφ2) tw_1072 kv_X3_addText cl_Laws rfl ⟨Nat.le_of_ble_eq_true rfl, Nat.le_of_ble_eq_true rfl⟩ rfl dX11_text_43 rfl (Nat.le_of_ble_eq_true rfl) hφ hφ2 (fun r43 σ43 ta h hφ hφ2 => ?_)
  refine nw_istore_n (lv' := [(3, .int r43), (0, .ref (ad 0)), (1, .int x1), (2, .int x2)]) C dX11_text_46 rfl (by decide) rfl ?_
  refine nw_aload_n C dX11_text_47 rfl 1 rfl ?_
  refine nw_get (v := .ref (ad 11)) C in_X11 0 cl_FC rfl 0 (by decide) tw_510 rfl rfl dX11_text_48 ?_
  refine nw_iconst (v := 0) C dX11_text_51 (by decide) ?_
  refine nx_callVV (q0 := 11) (As := [.int 0]) (rest := []) C h (fun _ _ e => c_Table_cut 0 (by decide) e hφ2) tw_939 kv_X9_cut (cl_T 0 (by decide)) rfl ⟨Nat.le_of_ble_eq_true rfl, Nat.le_of_ble_eq_true rfl⟩ rfl dX11_text_52 rfl (Nat.le_of_ble_eq_true rfl) hφ hφ2 (fun r52 σ52 ta h hφ hφ2 => ?_)
  refine nw_iload_n C dX11_text_55 rfl 0 rfl ?_
  exact nx_iret C hr dX11_text_56 hφ hφ2 h
def B_FC_text_26   (x1 : Int32) (x2 : Int32) (σ : CS) : Option ((Int32 × Int32) × CS) := B_FC_text_27 x1 x2 0 σ
set_option maxHeartbeats 4000000 in
set_option maxRecDepth 100000 in
theorem w_FC_text_26 (C : Cx g p s m args meth c A 4 cX11_text yX11_text.cls) (hr : meth.sig.returnType = (some .int)) (hl : l.stackTraces = false) (hex : ∀ x ∈ c.exceptionTable.toList, False) {res : (Int32 × Int32) × CS}   (x1 : Int32) (x2 : Int32)  (σ : CS) (ta : Nat → Nat) (hφ : φ0 ≤ ph σ.2.2) (hφ2 : ph σ.2.2 ≤ BB) (h : B_FC_text_26 x1 x2 σ = some res) : NX g p l e s m args below meth c A 1003 40073 4 ad Rr φ0 res ta σ [(0, .ref (ad 0)), (1, .int x1), (2, .int x2)] 26 [] := by
  unfold B_FC_text_26 at h
  refine nw_iconst (v := 0) C dX11_text_26 (by decide) ?_
  exact nw_lv (lv' := [(0, .ref (ad 0)), (1, .int x1), (2, .int x2)]) [0, 1, 2] rfl (w_FC_text_27 C hr hl hex x1 x2 0 _ _ hφ hφ2 h)
def f_FC_text (p0 : Int32) (p1 : Int32) (σ : CS) : Option ((Int32 × Int32) × CS) := bnd (f_FC_isDay p0 σ) (fun r1 σ1 => if r1 = 0 then B_FC_text_26 p0 p1 σ1 else bnd (f_Table_size 0 σ1) (fun r13 σ13 => bnd (f_FC_within p1 0 r13 σ13) (fun r16 σ16 => if r16 = 0 then B_FC_text_26 p0 p1 σ16 else B_FC_text_27 p0 p1 1 σ16)))
set_option maxHeartbeats 4000000 in
set_option maxRecDepth 100000 in
theorem c_FC_text {l : Launch} {g : EG} {ad ta : Nat → Nat} {Rr : va_W} {σ : CS} {res : (Int32 × Int32) × CS} {p0 : Int32} {p1 : Int32} (hl : l.stackTraces = false) (h : f_FC_text p0 p1 σ = some res) (hφ2 : ph σ.2.2 ≤ BB) : CxI l g yX11_text (.code yX11_text cX11_text 4 (some .int)) 1003 40073 ad ta Rr σ [.ref (ad 0), .int p0, .int p1] res := by
  refine CtX.of rfl (by decide) (Nat.le_of_ble_eq_true rfl) ?_
  intro p e s m args below meth c A C hr hex
  have hφ : ph σ.2.2 ≤ ph σ.2.2 := Nat.le_refl _
  refine nw_zero (ph σ.2.2) ?_
  show NX g p l e s m args below meth c A 1003 40073 4 ad Rr (ph σ.2.2) res ta σ [(0, .ref (ad 0)), (1, .int p0), (2, .int p1)] 0 []
  unfold f_FC_text at h
  refine nw_iload_n C dX11_text_0 rfl 1 rfl ?_
  refine nx_callSI  (As := [.int p0]) (rest := []) C h (fun _ _ e => c_FC_isDay e hφ2) tw_936 ks_X11_isDay ⟨Nat.le_of_ble_eq_true rfl, Nat.le_of_ble_eq_true rfl⟩ rfl dX11_text_1 rfl (Nat.le_of_ble_eq_true rfl) hφ hφ2 (fun r1 σ1 ta h hφ hφ2 => ?_)
  refine nw_if_eq (tgt := 26) C dX11_text_4 (by decide) h (fun _ h => ?_) (fun _ h => ?_)
  · exact nw_lv (lv' := [(0, .ref (ad 0)), (1, .int p0), (2, .int p1)]) [0, 1, 2] rfl (w_FC_text_26 C hr hl hex p0 p1 _ _ hφ hφ2 h)
  · refine nw_iload_n C dX11_text_7 rfl 2 rfl ?_
    refine nw_iconst (v := 0) C dX11_text_8 (by decide) ?_
    refine nw_aload_n C dX11_text_9 rfl 0 rfl ?_
    refine nw_get (v := .ref (ad 11)) C in_X11 0 cl_FC rfl 0 (by decide) tw_510 rfl rfl dX11_text_10 ?_
    refine nx_callVI (q0 := 11) (As := []) (rest := [.int 0, .int p1]) C h (fun _ _ e => c_Table_size 0 (by decide) e hφ2) tw_545 kv_X9_size (cl_T 0 (by decide)) rfl ⟨Nat.le_of_ble_eq_true rfl, Nat.le_of_ble_eq_true rfl⟩ rfl dX11_text_13 rfl (Nat.le_of_ble_eq_true rfl) hφ hφ2 (fun r13 σ13 ta h hφ hφ2 => ?_)
    refine nx_callSI  (As := [.int p1, .int 0, .int r13]) (rest := []) C h (fun _ _ e => c_FC_within e hφ2) tw_675 ks_X11_within ⟨Nat.le_of_ble_eq_true rfl, Nat.le_of_ble_eq_true rfl⟩ rfl dX11_text_16 rfl (Nat.le_of_ble_eq_true rfl) hφ hφ2 (fun r16 σ16 ta h hφ hφ2 => ?_)
    refine nw_if_eq (tgt := 26) C dX11_text_19 (by decide) h (fun _ h => ?_) (fun _ h => ?_)
    · exact nw_lv (lv' := [(0, .ref (ad 0)), (1, .int p0), (2, .int p1)]) [0, 1, 2] rfl (w_FC_text_26 C hr hl hex p0 p1 _ _ hφ hφ2 h)
    · refine nw_iconst (v := 1) C dX11_text_22 (by decide) ?_
      refine nw_goto (tgt := 27) C dX11_text_23 (by decide) ?_
      exact nw_lv (lv' := [(0, .ref (ad 0)), (1, .int p0), (2, .int p1)]) [0, 1, 2] rfl (w_FC_text_27 C hr hl hex p0 p1 1 _ _ hφ hφ2 h)
theorem dX11_force_0 : decode cX11_force 0 = .ok (.aload_n 0, 1) := by decide +kernel
theorem dX11_force_1 : decode cX11_force 1 = .ok (.getfield 39, 3) := by decide +kernel
theorem dX11_force_4 : decode cX11_force 4 = .ok (.getfield 183, 3) := by decide +kernel
theorem dX11_force_7 : decode cX11_force 7 = .ok (.iload_n 1, 1) := by decide +kernel
theorem dX11_force_8 : decode cX11_force 8 = .ok (.invokevirtual 148, 3) := by decide +kernel
theorem dX11_force_11 : decode cX11_force 11 = .ok (.invokestatic 151, 3) := by decide +kernel
theorem dX11_force_14 : decode cX11_force 14 = .ok (.iload_n 2, 1) := by decide +kernel
theorem dX11_force_15 : decode cX11_force 15 = .ok (.invokestatic 134, 3) := by decide +kernel
theorem dX11_force_18 : decode cX11_force 18 = .ok (.invokestatic 96, 3) := by decide +kernel
theorem dX11_force_21 : decode cX11_force 21 = .ok (.aload_n 0, 1) := by decide +kernel
theorem dX11_force_22 : decode cX11_force 22 = .ok (.getfield 39, 3) := by decide +kernel
theorem dX11_force_25 : decode cX11_force 25 = .ok (.iload_n 2, 1) := by decide +kernel
theorem dX11_force_26 : decode cX11_force 26 = .ok (.invokevirtual 186, 3) := by decide +kernel
theorem dX11_force_29 : decode cX11_force 29 = .ok (.iload_n 1, 1) := by decide +kernel
theorem dX11_force_30 : decode cX11_force 30 = .ok (.ishr, 1) := by decide +kernel
theorem dX11_force_31 : decode cX11_force 31 = .ok (.iconst 1, 1) := by decide +kernel
theorem dX11_force_32 : decode cX11_force 32 = .ok (.iand, 1) := by decide +kernel
theorem dX11_force_33 : decode cX11_force 33 = .ok (.iconst 1, 1) := by decide +kernel
theorem dX11_force_34 : decode cX11_force 34 = .ok (.if_icmp .ne 7, 3) := by decide +kernel
theorem dX11_force_37 : decode cX11_force 37 = .ok (.iconst 1, 1) := by decide +kernel
theorem dX11_force_38 : decode cX11_force 38 = .ok (.goto 4, 3) := by decide +kernel
theorem dX11_force_41 : decode cX11_force 41 = .ok (.iconst 0, 1) := by decide +kernel
theorem dX11_force_42 : decode cX11_force 42 = .ok (.ireturn, 1) := by decide +kernel
def f_FC_force (p0 : Int32) (p1 : Int32) (σ : CS) : Option ((Int32 × Int32) × CS) := bnd (f_Table_has 3 p0 σ) (fun r8 σ8 => if r8 = 0 then some ((3, 0), σ8) else (bnd (f_FC_isDay p1 σ8) (fun r15 σ15 => if r15 = 0 then some ((1, 0), σ15) else (bnd (f_Laws_forceOn p1 σ15) (fun r26 σ26 => if ((r26 >>> (p0 &&& 31)) &&& 1) = 1 then some ((0, 1), σ26) else some ((0, 0), σ26))))))
set_option maxHeartbeats 4000000 in
set_option maxRecDepth 100000 in
theorem c_FC_force {l : Launch} {g : EG} {ad ta : Nat → Nat} {Rr : va_W} {σ : CS} {res : (Int32 × Int32) × CS} {p0 : Int32} {p1 : Int32} (hl : l.stackTraces = false) (h : f_FC_force p0 p1 σ = some res) (hφ2 : ph σ.2.2 ≤ BB) : CxI l g yX11_force (.code yX11_force cX11_force 3 (some .boolean)) 13 304 ad ta Rr σ [.ref (ad 0), .int p0, .int p1] res := by
  refine CtX.of rfl (by decide) (Nat.le_of_ble_eq_true rfl) ?_
  intro p e s m args below meth c A C hr hex
  have hφ : ph σ.2.2 ≤ ph σ.2.2 := Nat.le_refl _
  refine nw_zero (ph σ.2.2) ?_
  show NX g p l e s m args below meth c A 13 304 3 ad Rr (ph σ.2.2) res ta σ [(0, .ref (ad 0)), (1, .int p0), (2, .int p1)] 0 []
  unfold f_FC_force at h
  refine nw_aload_n C dX11_force_0 rfl 0 rfl ?_
  refine nw_get (v := .ref (ad 3)) C in_X11 0 cl_FC rfl 3 (by decide) tw_513 rfl rfl dX11_force_1 ?_
  refine nw_get (v := .ref (ad 14)) C in_X3 3 cl_Laws rfl 0 (by decide) tw_278 rfl rfl dX11_force_4 ?_
  refine nw_iload_n C dX11_force_7 rfl 1 rfl ?_
  refine nx_callVI (q0 := 14) (As := [.int p0]) (rest := []) C h (fun _ _ e => c_Table_has 3 (by decide) e hφ2) tw_990 kv_X9_has (cl_T 3 (by decide)) rfl ⟨Nat.le_of_ble_eq_true rfl, Nat.le_of_ble_eq_true rfl⟩ rfl dX11_force_8 rfl (Nat.le_of_ble_eq_true rfl) hφ hφ2 (fun r8 σ8 ta h hφ hφ2 => ?_)
  refine nx_check C hex (by decide) (fun _ => ct_checkIndex hl) (fun _ hb => cr_checkIndex hb) tw_991 ks_X11_checkIndex ⟨Nat.le_of_ble_eq_true rfl, Nat.le_of_ble_eq_true rfl⟩ dX11_force_11 (Nat.le_of_ble_eq_true rfl) hφ hφ2 h (fun _ h => ?_)
  refine nw_iload_n C dX11_force_14 rfl 2 rfl ?_
  refine nx_callSI  (As := [.int p1]) (rest := []) C h (fun _ _ e => c_FC_isDay e hφ2) tw_936 ks_X11_isDay ⟨Nat.le_of_ble_eq_true rfl, Nat.le_of_ble_eq_true rfl⟩ rfl dX11_force_15 rfl (Nat.le_of_ble_eq_true rfl) hφ hφ2 (fun r15 σ15 ta h hφ hφ2 => ?_)
  refine nx_check C hex (by decide) (fun _ => ct_checkArgument hl) (fun _ hb => cr_checkArgument hb) tw_678 ks_X11_checkArgument ⟨Nat.le_of_ble_eq_true rfl, Nat.le_of_ble_eq_true rfl⟩ dX11_force_18 (Nat.le_of_ble_eq_true rfl) hφ hφ2 h (fun _ h => ?_)
  refine nw_aload_n C dX11_force_21 rfl 0 rfl ?_
  refine nw_get (v := .ref (ad 3)) C in_X11 0 cl_FC rfl 3 (by decide) tw_513 rfl rfl dX11_force_22 ?_
  refine nw_iload_n C dX11_force_25 rfl 2 rfl ?_
  refine nx_callVI (q0 := 3) (As := [.int p1]) (rest := []) C h (fun _ _ e => c_Laws_forceOn e hφ2) tw_1252 kv_X3_forceOn cl_Laws rfl ⟨Nat.le_of_ble_eq_true rfl, Nat.le_of_ble_eq_true rfl⟩ rfl dX11_force_26 rfl (Nat.le_of_ble_eq_true rfl) hφ hφ2 (fun r26 σ26 ta h hφ hφ2 => ?_)
  refine nw_iload_n C dX11_force_29 rfl 1 rfl ?_
  refine nw_ishr C dX11_force_30 ?_
  refine nw_iconst (v := 1) C dX11_force_31 (by decide) ?_
  refine nw_iand C dX11_force_32 ?_
  refine nw_iconst (v := 1) C dX11_force_33 (by decide) ?_
  refine nw_icmp_ne (tgt := 41) C dX11_force_34 (by decide) h (fun _ h => ?_) (fun _ h => ?_)
  · refine nw_iconst (v := 1) C dX11_force_37 (by decide) ?_
    refine nw_goto (tgt := 42) C dX11_force_38 (by decide) ?_
    exact nx_zret C hr (Or.inr rfl) dX11_force_42 hφ hφ2 h
  · refine nw_iconst (v := 0) C dX11_force_41 (by decide) ?_
    exact nx_zret C hr (Or.inl rfl) dX11_force_42 hφ hφ2 h
theorem dX11_rule_0 : decode cX11_rule 0 = .ok (.iload_n 1, 1) := by decide +kernel
theorem dX11_rule_1 : decode cX11_rule 1 = .ok (.invokestatic 134, 3) := by decide +kernel
theorem dX11_rule_4 : decode cX11_rule 4 = .ok (.ifCond .eq 16, 3) := by decide +kernel
theorem dX11_rule_7 : decode cX11_rule 7 = .ok (.iload_n 2, 1) := by decide +kernel
theorem dX11_rule_8 : decode cX11_rule 8 = .ok (.iconst 0, 1) := by decide +kernel
theorem dX11_rule_9 : decode cX11_rule 9 = .ok (.iconst 4, 1) := by decide +kernel
theorem dX11_rule_10 : decode cX11_rule 10 = .ok (.invokestatic 92, 3) := by decide +kernel
theorem dX11_rule_13 : decode cX11_rule 13 = .ok (.ifCond .eq 7, 3) := by decide +kernel
theorem dX11_rule_16 : decode cX11_rule 16 = .ok (.iconst 1, 1) := by decide +kernel
theorem dX11_rule_17 : decode cX11_rule 17 = .ok (.goto 4, 3) := by decide +kernel
theorem dX11_rule_20 : decode cX11_rule 20 = .ok (.iconst 0, 1) := by decide +kernel
theorem dX11_rule_21 : decode cX11_rule 21 = .ok (.invokestatic 96, 3) := by decide +kernel
theorem dX11_rule_24 : decode cX11_rule 24 = .ok (.aload_n 0, 1) := by decide +kernel
theorem dX11_rule_25 : decode cX11_rule 25 = .ok (.getfield 39, 3) := by decide +kernel
theorem dX11_rule_28 : decode cX11_rule 28 = .ok (.iload_n 1, 1) := by decide +kernel
theorem dX11_rule_29 : decode cX11_rule 29 = .ok (.iload_n 2, 1) := by decide +kernel
theorem dX11_rule_30 : decode cX11_rule 30 = .ok (.invokevirtual 189, 3) := by decide +kernel
theorem dX11_rule_33 : decode cX11_rule 33 = .ok (.ireturn, 1) := by decide +kernel
def B_FC_rule_21   (x1 : Int32) (x2 : Int32) (z0 : Int32) (σ : CS) : Option ((Int32 × Int32) × CS) := if z0 = 0 then some ((1, 0), σ) else (bnd (f_Laws_ruleOn x1 x2 σ) (fun r30 σ30 => some ((0, r30), σ30)))
set_option maxHeartbeats 4000000 in
set_option maxRecDepth 100000 in
theorem w_FC_rule_21 (C : Cx g p s m args meth c A 3 cX11_rule yX11_rule.cls) (hr : meth.sig.returnType = (some .int)) (hl : l.stackTraces = false) (hex : ∀ x ∈ c.exceptionTable.toList, False) {res : (Int32 × Int32) × CS}   (x1 : Int32) (x2 : Int32) (z0 : Int32)  (σ : CS) (ta : Nat → Nat) (hφ : φ0 ≤ ph σ.2.2) (hφ2 : ph σ.2.2 ≤ BB) (h : B_FC_rule_21 x1 x2 z0 σ = some res) : NX g p l e s m args below meth c A 13 304 3 ad Rr φ0 res ta σ [(0, .ref (ad 0)), (1, .int x1), (2, .int x2)] 21 [.int z0] := by
  unfold B_FC_rule_21 at h
  refine nx_check C hex (by decide) (fun _ => ct_checkArgument hl) (fun _ hb => cr_checkArgument hb) tw_678 ks_X11_checkArgument ⟨Nat.le_of_ble_eq_true rfl, Nat.le_of_ble_eq_true rfl⟩ dX11_rule_21 (Nat.le_of_ble_eq_true rfl) hφ hφ2 h (fun _ h => ?_)
  refine nw_aload_n C dX11_rule_24 rfl 0 rfl ?_
  refine nw_get (v := .ref (ad 3)) C in_X11 0 cl_FC rfl 3 (by decide) tw_513 rfl rfl dX11_rule_25 ?_
  refine nw_iload_n C dX11_rule_28 rfl 1 rfl ?_
  refine nw_iload_n C dX11_rule_29 rfl 2 rfl ?_
  refine nx_callVI (q0 := 3) (As := [.int x1, .int x2]) (rest := []) C h (fun _ _ e => c_Laws_ruleOn e hφ2) tw_1260 kv_X3_ruleOn cl_Laws rfl ⟨Nat.le_of_ble_eq_true rfl, Nat.le_of_ble_eq_true rfl⟩ rfl dX11_rule_30 rfl (Nat.le_of_ble_eq_true rfl) hφ hφ2 (fun r30 σ30 ta h hφ hφ2 => ?_)
  exact nx_iret C hr dX11_rule_33 hφ hφ2 h
def B_FC_rule_20   (x1 : Int32) (x2 : Int32) (σ : CS) : Option ((Int32 × Int32) × CS) := B_FC_rule_21 x1 x2 0 σ
set_option maxHeartbeats 4000000 in
set_option maxRecDepth 100000 in
theorem w_FC_rule_20 (C : Cx g p s m args meth c A 3 cX11_rule yX11_rule.cls) (hr : meth.sig.returnType = (some .int)) (hl : l.stackTraces = false) (hex : ∀ x ∈ c.exceptionTable.toList, False) {res : (Int32 × Int32) × CS}   (x1 : Int32) (x2 : Int32)  (σ : CS) (ta : Nat → Nat) (hφ : φ0 ≤ ph σ.2.2) (hφ2 : ph σ.2.2 ≤ BB) (h : B_FC_rule_20 x1 x2 σ = some res) : NX g p l e s m args below meth c A 13 304 3 ad Rr φ0 res ta σ [(0, .ref (ad 0)), (1, .int x1), (2, .int x2)] 20 [] := by
  unfold B_FC_rule_20 at h
  refine nw_iconst (v := 0) C dX11_rule_20 (by decide) ?_
  exact nw_lv (lv' := [(0, .ref (ad 0)), (1, .int x1), (2, .int x2)]) [0, 1, 2] rfl (w_FC_rule_21 C hr hl hex x1 x2 0 _ _ hφ hφ2 h)
def f_FC_rule (p0 : Int32) (p1 : Int32) (σ : CS) : Option ((Int32 × Int32) × CS) := bnd (f_FC_isDay p0 σ) (fun r1 σ1 => if r1 = 0 then B_FC_rule_20 p0 p1 σ1 else bnd (f_FC_within p1 0 4 σ1) (fun r10 σ10 => if r10 = 0 then B_FC_rule_20 p0 p1 σ10 else B_FC_rule_21 p0 p1 1 σ10))
set_option maxHeartbeats 4000000 in
set_option maxRecDepth 100000 in
theorem c_FC_rule {l : Launch} {g : EG} {ad ta : Nat → Nat} {Rr : va_W} {σ : CS} {res : (Int32 × Int32) × CS} {p0 : Int32} {p1 : Int32} (hl : l.stackTraces = false) (h : f_FC_rule p0 p1 σ = some res) (hφ2 : ph σ.2.2 ≤ BB) : CxI l g yX11_rule (.code yX11_rule cX11_rule 3 (some .int)) 13 304 ad ta Rr σ [.ref (ad 0), .int p0, .int p1] res := by
  refine CtX.of rfl (by decide) (Nat.le_of_ble_eq_true rfl) ?_
  intro p e s m args below meth c A C hr hex
  have hφ : ph σ.2.2 ≤ ph σ.2.2 := Nat.le_refl _
  refine nw_zero (ph σ.2.2) ?_
  show NX g p l e s m args below meth c A 13 304 3 ad Rr (ph σ.2.2) res ta σ [(0, .ref (ad 0)), (1, .int p0), (2, .int p1)] 0 []
  unfold f_FC_rule at h
  refine nw_iload_n C dX11_rule_0 rfl 1 rfl ?_
  refine nx_callSI  (As := [.int p0]) (rest := []) C h (fun _ _ e => c_FC_isDay e hφ2) tw_936 ks_X11_isDay ⟨Nat.le_of_ble_eq_true rfl, Nat.le_of_ble_eq_true rfl⟩ rfl dX11_rule_1 rfl (Nat.le_of_ble_eq_true rfl) hφ hφ2 (fun r1 σ1 ta h hφ hφ2 => ?_)
  refine nw_if_eq (tgt := 20) C dX11_rule_4 (by decide) h (fun _ h => ?_) (fun _ h => ?_)
  · exact nw_lv (lv' := [(0, .ref (ad 0)), (1, .int p0), (2, .int p1)]) [0, 1, 2] rfl (w_FC_rule_20 C hr hl hex p0 p1 _ _ hφ hφ2 h)
  · refine nw_iload_n C dX11_rule_7 rfl 2 rfl ?_
    refine nw_iconst (v := 0) C dX11_rule_8 (by decide) ?_
    refine nw_iconst (v := 4) C dX11_rule_9 (by decide) ?_
    refine nx_callSI  (As := [.int p1, .int 0, .int 4]) (rest := []) C h (fun _ _ e => c_FC_within e hφ2) tw_675 ks_X11_within ⟨Nat.le_of_ble_eq_true rfl, Nat.le_of_ble_eq_true rfl⟩ rfl dX11_rule_10 rfl (Nat.le_of_ble_eq_true rfl) hφ hφ2 (fun r10 σ10 ta h hφ hφ2 => ?_)
    refine nw_if_eq (tgt := 20) C dX11_rule_13 (by decide) h (fun _ h => ?_) (fun _ h => ?_)
    · exact nw_lv (lv' := [(0, .ref (ad 0)), (1, .int p0), (2, .int p1)]) [0, 1, 2] rfl (w_FC_rule_20 C hr hl hex p0 p1 _ _ hφ hφ2 h)
    · refine nw_iconst (v := 1) C dX11_rule_16 (by decide) ?_
      refine nw_goto (tgt := 21) C dX11_rule_17 (by decide) ?_
      exact nw_lv (lv' := [(0, .ref (ad 0)), (1, .int p0), (2, .int p1)]) [0, 1, 2] rfl (w_FC_rule_21 C hr hl hex p0 p1 1 _ _ hφ hφ2 h)
theorem dX11_person_0 : decode cX11_person 0 = .ok (.iload_n 1, 1) := by decide +kernel
theorem dX11_person_1 : decode cX11_person 1 = .ok (.iconst 0, 1) := by decide +kernel
theorem dX11_person_2 : decode cX11_person 2 = .ok (.iconst 3, 1) := by decide +kernel
theorem dX11_person_3 : decode cX11_person 3 = .ok (.invokestatic 92, 3) := by decide +kernel
theorem dX11_person_6 : decode cX11_person 6 = .ok (.ifCond .eq 17, 3) := by decide +kernel
theorem dX11_person_9 : decode cX11_person 9 = .ok (.iload_n 2, 1) := by decide +kernel
theorem dX11_person_10 : decode cX11_person 10 = .ok (.iconst 0, 1) := by decide +kernel
theorem dX11_person_11 : decode cX11_person 11 = .ok (.ldc 193, 2) := by decide +kernel
theorem dX11_person_13 : decode cX11_person 13 = .ok (.invokestatic 92, 3) := by decide +kernel
theorem dX11_person_16 : decode cX11_person 16 = .ok (.ifCond .eq 7, 3) := by decide +kernel
theorem dX11_person_19 : decode cX11_person 19 = .ok (.iconst 1, 1) := by decide +kernel
theorem dX11_person_20 : decode cX11_person 20 = .ok (.goto 4, 3) := by decide +kernel
theorem dX11_person_23 : decode cX11_person 23 = .ok (.iconst 0, 1) := by decide +kernel
theorem dX11_person_24 : decode cX11_person 24 = .ok (.invokestatic 96, 3) := by decide +kernel
theorem dX11_person_27 : decode cX11_person 27 = .ok (.aload_n 0, 1) := by decide +kernel
theorem dX11_person_28 : decode cX11_person 28 = .ok (.getfield 46, 3) := by decide +kernel
theorem dX11_person_31 : decode cX11_person 31 = .ok (.getfield 194, 3) := by decide +kernel
theorem dX11_person_34 : decode cX11_person 34 = .ok (.invokevirtual 126, 3) := by decide +kernel
theorem dX11_person_37 : decode cX11_person 37 = .ok (.ifCond .ne 7, 3) := by decide +kernel
theorem dX11_person_40 : decode cX11_person 40 = .ok (.iconst 1, 1) := by decide +kernel
theorem dX11_person_41 : decode cX11_person 41 = .ok (.goto 4, 3) := by decide +kernel
theorem dX11_person_44 : decode cX11_person 44 = .ok (.iconst 0, 1) := by decide +kernel
theorem dX11_person_45 : decode cX11_person 45 = .ok (.invokestatic 105, 3) := by decide +kernel
theorem dX11_person_48 : decode cX11_person 48 = .ok (.aload_n 0, 1) := by decide +kernel
theorem dX11_person_49 : decode cX11_person 49 = .ok (.getfield 46, 3) := by decide +kernel
theorem dX11_person_52 : decode cX11_person 52 = .ok (.iload_n 1, 1) := by decide +kernel
theorem dX11_person_53 : decode cX11_person 53 = .ok (.iload_n 2, 1) := by decide +kernel
theorem dX11_person_54 : decode cX11_person 54 = .ok (.invokevirtual 197, 3) := by decide +kernel
theorem dX11_person_57 : decode cX11_person 57 = .ok (.ireturn, 1) := by decide +kernel
def B_FC_person_45   (x1 : Int32) (x2 : Int32) (z0 : Int32) (σ : CS) : Option ((Int32 × Int32) × CS) := if z0 = 0 then some ((2, 0), σ) else (bnd (f_People_addPerson x1 x2 σ) (fun r54 σ54 => some ((0, r54), σ54)))
set_option maxHeartbeats 4000000 in
set_option maxRecDepth 100000 in
theorem w_FC_person_45 (C : Cx g p s m args meth c A 3 cX11_person yX11_person.cls) (hr : meth.sig.returnType = (some .int)) (hl : l.stackTraces = false) (hex : ∀ x ∈ c.exceptionTable.toList, False) {res : (Int32 × Int32) × CS}   (x1 : Int32) (x2 : Int32) (z0 : Int32)  (σ : CS) (ta : Nat → Nat) (hφ : φ0 ≤ ph σ.2.2) (hφ2 : ph σ.2.2 ≤ BB) (h : B_FC_person_45 x1 x2 z0 σ = some res) : NX g p l e s m args below meth c A 13 304 3 ad Rr φ0 res ta σ [(0, .ref (ad 0)), (1, .int x1), (2, .int x2)] 45 [.int z0] := by
  unfold B_FC_person_45 at h
  refine nx_check C hex (by decide) (fun _ => ct_checkState hl) (fun _ hb => cr_checkState hb) tw_750 ks_X11_checkState ⟨Nat.le_of_ble_eq_true rfl, Nat.le_of_ble_eq_true rfl⟩ dX11_person_45 (Nat.le_of_ble_eq_true rfl) hφ hφ2 h (fun _ h => ?_)
  refine nw_aload_n C dX11_person_48 rfl 0 rfl ?_
  refine nw_get (v := .ref (ad 5)) C in_X11 0 cl_FC rfl 4 (by decide) tw_514 rfl rfl dX11_person_49 ?_
  refine nw_iload_n C dX11_person_52 rfl 1 rfl ?_
  refine nw_iload_n C dX11_person_53 rfl 2 rfl ?_
  refine nx_callVI (q0 := 5) (As := [.int x1, .int x2]) (rest := []) C h (fun _ _ e => c_People_addPerson e hφ2) tw_1269 kv_X5_addPerson cl_People rfl ⟨Nat.le_of_ble_eq_true rfl, Nat.le_of_ble_eq_true rfl⟩ rfl dX11_person_54 rfl (Nat.le_of_ble_eq_true rfl) hφ hφ2 (fun r54 σ54 ta h hφ hφ2 => ?_)
  exact nx_iret C hr dX11_person_57 hφ hφ2 h
def B_FC_person_24   (x1 : Int32) (x2 : Int32) (z0 : Int32) (σ : CS) : Option ((Int32 × Int32) × CS) := if z0 = 0 then some ((1, 0), σ) else (bnd (f_Table_isFull 6 σ) (fun r34 σ34 => if r34 = 0 then B_FC_person_45 x1 x2 1 σ34 else B_FC_person_45 x1 x2 0 σ34))
set_option maxHeartbeats 4000000 in
set_option maxRecDepth 100000 in
theorem w_FC_person_24 (C : Cx g p s m args meth c A 3 cX11_person yX11_person.cls) (hr : meth.sig.returnType = (some .int)) (hl : l.stackTraces = false) (hex : ∀ x ∈ c.exceptionTable.toList, False) {res : (Int32 × Int32) × CS}   (x1 : Int32) (x2 : Int32) (z0 : Int32)  (σ : CS) (ta : Nat → Nat) (hφ : φ0 ≤ ph σ.2.2) (hφ2 : ph σ.2.2 ≤ BB) (h : B_FC_person_24 x1 x2 z0 σ = some res) : NX g p l e s m args below meth c A 13 304 3 ad Rr φ0 res ta σ [(0, .ref (ad 0)), (1, .int x1), (2, .int x2)] 24 [.int z0] := by
  unfold B_FC_person_24 at h
  refine nx_check C hex (by decide) (fun _ => ct_checkArgument hl) (fun _ hb => cr_checkArgument hb) tw_678 ks_X11_checkArgument ⟨Nat.le_of_ble_eq_true rfl, Nat.le_of_ble_eq_true rfl⟩ dX11_person_24 (Nat.le_of_ble_eq_true rfl) hφ hφ2 h (fun _ h => ?_)
  refine nw_aload_n C dX11_person_27 rfl 0 rfl ?_
  refine nw_get (v := .ref (ad 5)) C in_X11 0 cl_FC rfl 4 (by decide) tw_514 rfl rfl dX11_person_28 ?_
  refine nw_get (v := .ref (ad 17)) C in_X5 5 cl_People rfl 0 (by decide) tw_314 rfl rfl dX11_person_31 ?_
  refine nx_callVI (q0 := 17) (As := []) (rest := []) C h (fun _ _ e => c_Table_isFull 6 (by decide) e hφ2) tw_922 kv_X9_isFull (cl_T 6 (by decide)) rfl ⟨Nat.le_of_ble_eq_true rfl, Nat.le_of_ble_eq_true rfl⟩ rfl dX11_person_34 rfl (Nat.le_of_ble_eq_true rfl) hφ hφ2 (fun r34 σ34 ta h hφ hφ2 => ?_)
  refine nw_if_ne (tgt := 44) C dX11_person_37 (by decide) h (fun _ h => ?_) (fun _ h => ?_)
  · refine nw_iconst (v := 1) C dX11_person_40 (by decide) ?_
    refine nw_goto (tgt := 45) C dX11_person_41 (by decide) ?_
    exact nw_lv (lv' := [(0, .ref (ad 0)), (1, .int x1), (2, .int x2)]) [0, 1, 2] rfl (w_FC_person_45 C hr hl hex x1 x2 1 _ _ hφ hφ2 h)
  · refine nw_iconst (v := 0) C dX11_person_44 (by decide) ?_
    exact nw_lv (lv' := [(0, .ref (ad 0)), (1, .int x1), (2, .int x2)]) [0, 1, 2] rfl (w_FC_person_45 C hr hl hex x1 x2 0 _ _ hφ hφ2 h)
def B_FC_person_23   (x1 : Int32) (x2 : Int32) (σ : CS) : Option ((Int32 × Int32) × CS) := B_FC_person_24 x1 x2 0 σ
set_option maxHeartbeats 4000000 in
set_option maxRecDepth 100000 in
theorem w_FC_person_23 (C : Cx g p s m args meth c A 3 cX11_person yX11_person.cls) (hr : meth.sig.returnType = (some .int)) (hl : l.stackTraces = false) (hex : ∀ x ∈ c.exceptionTable.toList, False) {res : (Int32 × Int32) × CS}   (x1 : Int32) (x2 : Int32)  (σ : CS) (ta : Nat → Nat) (hφ : φ0 ≤ ph σ.2.2) (hφ2 : ph σ.2.2 ≤ BB) (h : B_FC_person_23 x1 x2 σ = some res) : NX g p l e s m args below meth c A 13 304 3 ad Rr φ0 res ta σ [(0, .ref (ad 0)), (1, .int x1), (2, .int x2)] 23 [] := by
  unfold B_FC_person_23 at h
  refine nw_iconst (v := 0) C dX11_person_23 (by decide) ?_
  exact nw_lv (lv' := [(0, .ref (ad 0)), (1, .int x1), (2, .int x2)]) [0, 1, 2] rfl (w_FC_person_24 C hr hl hex x1 x2 0 _ _ hφ hφ2 h)
def f_FC_person (p0 : Int32) (p1 : Int32) (σ : CS) : Option ((Int32 × Int32) × CS) := bnd (f_FC_within p0 0 3 σ) (fun r3 σ3 => if r3 = 0 then B_FC_person_23 p0 p1 σ3 else bnd (f_FC_within p1 0 1000000 σ3) (fun r13 σ13 => if r13 = 0 then B_FC_person_23 p0 p1 σ13 else B_FC_person_24 p0 p1 1 σ13))
set_option maxHeartbeats 4000000 in
set_option maxRecDepth 100000 in
theorem c_FC_person {l : Launch} {g : EG} {ad ta : Nat → Nat} {Rr : va_W} {σ : CS} {res : (Int32 × Int32) × CS} {p0 : Int32} {p1 : Int32} (hl : l.stackTraces = false) (h : f_FC_person p0 p1 σ = some res) (hφ2 : ph σ.2.2 ≤ BB) : CxI l g yX11_person (.code yX11_person cX11_person 3 (some .int)) 13 304 ad ta Rr σ [.ref (ad 0), .int p0, .int p1] res := by
  refine CtX.of rfl (by decide) (Nat.le_of_ble_eq_true rfl) ?_
  intro p e s m args below meth c A C hr hex
  have hφ : ph σ.2.2 ≤ ph σ.2.2 := Nat.le_refl _
  refine nw_zero (ph σ.2.2) ?_
  show NX g p l e s m args below meth c A 13 304 3 ad Rr (ph σ.2.2) res ta σ [(0, .ref (ad 0)), (1, .int p0), (2, .int p1)] 0 []
  unfold f_FC_person at h
  refine nw_iload_n C dX11_person_0 rfl 1 rfl ?_
  refine nw_iconst (v := 0) C dX11_person_1 (by decide) ?_
  refine nw_iconst (v := 3) C dX11_person_2 (by decide) ?_
  refine nx_callSI  (As := [.int p0, .int 0, .int 3]) (rest := []) C h (fun _ _ e => c_FC_within e hφ2) tw_675 ks_X11_within ⟨Nat.le_of_ble_eq_true rfl, Nat.le_of_ble_eq_true rfl⟩ rfl dX11_person_3 rfl (Nat.le_of_ble_eq_true rfl) hφ hφ2 (fun r3 σ3 ta h hφ hφ2 => ?_)
  refine nw_if_eq (tgt := 23) C dX11_person_6 (by decide) h (fun _ h => ?_) (fun _ h => ?_)
  · exact nw_lv (lv' := [(0, .ref (ad 0)), (1, .int p0), (2, .int p1)]) [0, 1, 2] rfl (w_FC_person_23 C hr hl hex p0 p1 _ _ hφ hφ2 h)
  · refine nw_iload_n C dX11_person_9 rfl 2 rfl ?_
    refine nw_iconst (v := 0) C dX11_person_10 (by decide) ?_
    refine nw_ldc (v := 1000000) C tw_1268 dX11_person_11 ?_
    refine nx_callSI  (As := [.int p1, .int 0, .int 1000000]) (rest := []) C h (fun _ _ e => c_FC_within e hφ2) tw_675 ks_X11_within ⟨Nat.le_of_ble_eq_true rfl, Nat.le_of_ble_eq_true rfl⟩ rfl dX11_person_13 rfl (Nat.le_of_ble_eq_true rfl) hφ hφ2 (fun r13 σ13 ta h hφ hφ2 => ?_)
    refine nw_if_eq (tgt := 23) C dX11_person_16 (by decide) h (fun _ h => ?_) (fun _ h => ?_)
    · exact nw_lv (lv' := [(0, .ref (ad 0)), (1, .int p0), (2, .int p1)]) [0, 1, 2] rfl (w_FC_person_23 C hr hl hex p0 p1 _ _ hφ hφ2 h)
    · refine nw_iconst (v := 1) C dX11_person_19 (by decide) ?_
      refine nw_goto (tgt := 24) C dX11_person_20 (by decide) ?_
      exact nw_lv (lv' := [(0, .ref (ad 0)), (1, .int p0), (2, .int p1)]) [0, 1, 2] rfl (w_FC_person_24 C hr hl hex p0 p1 1 _ _ hφ hφ2 h)
theorem dX11_heir_0 : decode cX11_heir 0 = .ok (.aload_n 0, 1) := by decide +kernel
theorem dX11_heir_1 : decode cX11_heir 1 = .ok (.getfield 46, 3) := by decide +kernel
theorem dX11_heir_4 : decode cX11_heir 4 = .ok (.getfield 194, 3) := by decide +kernel
theorem dX11_heir_7 : decode cX11_heir 7 = .ok (.iload_n 1, 1) := by decide +kernel
theorem dX11_heir_8 : decode cX11_heir 8 = .ok (.invokevirtual 148, 3) := by decide +kernel
theorem dX11_heir_11 : decode cX11_heir 11 = .ok (.ifCond .eq 26, 3) := by decide +kernel
theorem dX11_heir_14 : decode cX11_heir 14 = .ok (.iload_n 2, 1) := by decide +kernel
theorem dX11_heir_15 : decode cX11_heir 15 = .ok (.iconst (-1), 1) := by decide +kernel
theorem dX11_heir_16 : decode cX11_heir 16 = .ok (.if_icmp .eq 17, 3) := by decide +kernel
theorem dX11_heir_19 : decode cX11_heir 19 = .ok (.aload_n 0, 1) := by decide +kernel
theorem dX11_heir_20 : decode cX11_heir 20 = .ok (.getfield 46, 3) := by decide +kernel
theorem dX11_heir_23 : decode cX11_heir 23 = .ok (.getfield 194, 3) := by decide +kernel
theorem dX11_heir_26 : decode cX11_heir 26 = .ok (.iload_n 2, 1) := by decide +kernel
theorem dX11_heir_27 : decode cX11_heir 27 = .ok (.invokevirtual 148, 3) := by decide +kernel
theorem dX11_heir_30 : decode cX11_heir 30 = .ok (.ifCond .eq 7, 3) := by decide +kernel
theorem dX11_heir_33 : decode cX11_heir 33 = .ok (.iconst 1, 1) := by decide +kernel
theorem dX11_heir_34 : decode cX11_heir 34 = .ok (.goto 4, 3) := by decide +kernel
theorem dX11_heir_37 : decode cX11_heir 37 = .ok (.iconst 0, 1) := by decide +kernel
theorem dX11_heir_38 : decode cX11_heir 38 = .ok (.invokestatic 151, 3) := by decide +kernel
theorem dX11_heir_41 : decode cX11_heir 41 = .ok (.iload_n 1, 1) := by decide +kernel
theorem dX11_heir_42 : decode cX11_heir 42 = .ok (.iload_n 2, 1) := by decide +kernel
theorem dX11_heir_43 : decode cX11_heir 43 = .ok (.if_icmp .eq 7, 3) := by decide +kernel
theorem dX11_heir_46 : decode cX11_heir 46 = .ok (.iconst 1, 1) := by decide +kernel
theorem dX11_heir_47 : decode cX11_heir 47 = .ok (.goto 4, 3) := by decide +kernel
theorem dX11_heir_50 : decode cX11_heir 50 = .ok (.iconst 0, 1) := by decide +kernel
theorem dX11_heir_51 : decode cX11_heir 51 = .ok (.invokestatic 96, 3) := by decide +kernel
theorem dX11_heir_54 : decode cX11_heir 54 = .ok (.aload_n 0, 1) := by decide +kernel
theorem dX11_heir_55 : decode cX11_heir 55 = .ok (.getfield 46, 3) := by decide +kernel
theorem dX11_heir_58 : decode cX11_heir 58 = .ok (.getfield 194, 3) := by decide +kernel
theorem dX11_heir_61 : decode cX11_heir 61 = .ok (.iload_n 1, 1) := by decide +kernel
theorem dX11_heir_62 : decode cX11_heir 62 = .ok (.iconst 3, 1) := by decide +kernel
theorem dX11_heir_63 : decode cX11_heir 63 = .ok (.iload_n 2, 1) := by decide +kernel
theorem dX11_heir_64 : decode cX11_heir 64 = .ok (.invokevirtual 154, 3) := by decide +kernel
theorem dX11_heir_67 : decode cX11_heir 67 = .ok (.ireturn, 1) := by decide +kernel
def B_FC_heir_51   (x1 : Int32) (x2 : Int32) (z0 : Int32) (σ : CS) : Option ((Int32 × Int32) × CS) := if z0 = 0 then some ((1, 0), σ) else (bnd (f_Table_swap 6 x1 3 x2 σ) (fun r64 σ64 => some ((0, r64), σ64)))
set_option maxHeartbeats 4000000 in
set_option maxRecDepth 100000 in
theorem w_FC_heir_51 (C : Cx g p s m args meth c A 3 cX11_heir yX11_heir.cls) (hr : meth.sig.returnType = (some .int)) (hl : l.stackTraces = false) (hex : ∀ x ∈ c.exceptionTable.toList, False) {res : (Int32 × Int32) × CS}   (x1 : Int32) (x2 : Int32) (z0 : Int32)  (σ : CS) (ta : Nat → Nat) (hφ : φ0 ≤ ph σ.2.2) (hφ2 : ph σ.2.2 ≤ BB) (h : B_FC_heir_51 x1 x2 z0 σ = some res) : NX g p l e s m args below meth c A 13 304 3 ad Rr φ0 res ta σ [(0, .ref (ad 0)), (1, .int x1), (2, .int x2)] 51 [.int z0] := by
  unfold B_FC_heir_51 at h
  refine nx_check C hex (by decide) (fun _ => ct_checkArgument hl) (fun _ hb => cr_checkArgument hb) tw_678 ks_X11_checkArgument ⟨Nat.le_of_ble_eq_true rfl, Nat.le_of_ble_eq_true rfl⟩ dX11_heir_51 (Nat.le_of_ble_eq_true rfl) hφ hφ2 h (fun _ h => ?_)
  refine nw_aload_n C dX11_heir_54 rfl 0 rfl ?_
  refine nw_get (v := .ref (ad 5)) C in_X11 0 cl_FC rfl 4 (by decide) tw_514 rfl rfl dX11_heir_55 ?_
  refine nw_get (v := .ref (ad 17)) C in_X5 5 cl_People rfl 0 (by decide) tw_314 rfl rfl dX11_heir_58 ?_
  refine nw_iload_n C dX11_heir_61 rfl 1 rfl ?_
  refine nw_iconst (v := 3) C dX11_heir_62 (by decide) ?_
  refine nw_iload_n C dX11_heir_63 rfl 2 rfl ?_
  refine nx_callVI (q0 := 17) (As := [.int x1, .int 3, .int x2]) (rest := []) C h (fun _ _ e => c_Table_swap 6 (by decide) e hφ2) tw_1010 kv_X9_swap (cl_T 6 (by decide)) rfl ⟨Nat.le_of_ble_eq_true rfl, Nat.le_of_ble_eq_true rfl⟩ rfl dX11_heir_64 rfl (Nat.le_of_ble_eq_true rfl) hφ hφ2 (fun r64 σ64 ta h hφ hφ2 => ?_)
  exact nx_iret C hr dX11_heir_67 hφ hφ2 h
def B_FC_heir_38   (x1 : Int32) (x2 : Int32) (z0 : Int32) (σ : CS) : Option ((Int32 × Int32) × CS) := if z0 = 0 then some ((3, 0), σ) else (if x1 = x2 then B_FC_heir_51 x1 x2 0 σ else B_FC_heir_51 x1 x2 1 σ)
set_option maxHeartbeats 4000000 in
set_option maxRecDepth 100000 in
theorem w_FC_heir_38 (C : Cx g p s m args meth c A 3 cX11_heir yX11_heir.cls) (hr : meth.sig.returnType = (some .int)) (hl : l.stackTraces = false) (hex : ∀ x ∈ c.exceptionTable.toList, False) {res : (Int32 × Int32) × CS}   (x1 : Int32) (x2 : Int32) (z0 : Int32)  (σ : CS) (ta : Nat → Nat) (hφ : φ0 ≤ ph σ.2.2) (hφ2 : ph σ.2.2 ≤ BB) (h : B_FC_heir_38 x1 x2 z0 σ = some res) : NX g p l e s m args below meth c A 13 304 3 ad Rr φ0 res ta σ [(0, .ref (ad 0)), (1, .int x1), (2, .int x2)] 38 [.int z0] := by
  unfold B_FC_heir_38 at h
  refine nx_check C hex (by decide) (fun _ => ct_checkIndex hl) (fun _ hb => cr_checkIndex hb) tw_991 ks_X11_checkIndex ⟨Nat.le_of_ble_eq_true rfl, Nat.le_of_ble_eq_true rfl⟩ dX11_heir_38 (Nat.le_of_ble_eq_true rfl) hφ hφ2 h (fun _ h => ?_)
  refine nw_iload_n C dX11_heir_41 rfl 1 rfl ?_
  refine nw_iload_n C dX11_heir_42 rfl 2 rfl ?_
  refine nw_icmp_eq (tgt := 50) C dX11_heir_43 (by decide) h (fun _ h => ?_) (fun _ h => ?_)
  · refine nw_iconst (v := 0) C dX11_heir_50 (by decide) ?_
    exact nw_lv (lv' := [(0, .ref (ad 0)), (1, .int x1), (2, .int x2)]) [0, 1, 2] rfl (w_FC_heir_51 C hr hl hex x1 x2 0 _ _ hφ hφ2 h)
  · refine nw_iconst (v := 1) C dX11_heir_46 (by decide) ?_
    refine nw_goto (tgt := 51) C dX11_heir_47 (by decide) ?_
    exact nw_lv (lv' := [(0, .ref (ad 0)), (1, .int x1), (2, .int x2)]) [0, 1, 2] rfl (w_FC_heir_51 C hr hl hex x1 x2 1 _ _ hφ hφ2 h)
def B_FC_heir_37   (x1 : Int32) (x2 : Int32) (σ : CS) : Option ((Int32 × Int32) × CS) := B_FC_heir_38 x1 x2 0 σ
set_option maxHeartbeats 4000000 in
set_option maxRecDepth 100000 in
theorem w_FC_heir_37 (C : Cx g p s m args meth c A 3 cX11_heir yX11_heir.cls) (hr : meth.sig.returnType = (some .int)) (hl : l.stackTraces = false) (hex : ∀ x ∈ c.exceptionTable.toList, False) {res : (Int32 × Int32) × CS}   (x1 : Int32) (x2 : Int32)  (σ : CS) (ta : Nat → Nat) (hφ : φ0 ≤ ph σ.2.2) (hφ2 : ph σ.2.2 ≤ BB) (h : B_FC_heir_37 x1 x2 σ = some res) : NX g p l e s m args below meth c A 13 304 3 ad Rr φ0 res ta σ [(0, .ref (ad 0)), (1, .int x1), (2, .int x2)] 37 [] := by
  unfold B_FC_heir_37 at h
  refine nw_iconst (v := 0) C dX11_heir_37 (by decide) ?_
  exact nw_lv (lv' := [(0, .ref (ad 0)), (1, .int x1), (2, .int x2)]) [0, 1, 2] rfl (w_FC_heir_38 C hr hl hex x1 x2 0 _ _ hφ hφ2 h)
def f_FC_heir (p0 : Int32) (p1 : Int32) (σ : CS) : Option ((Int32 × Int32) × CS) := bnd (f_Table_has 6 p0 σ) (fun r8 σ8 => if r8 = 0 then B_FC_heir_37 p0 p1 σ8 else if p1 = (-1) then B_FC_heir_38 p0 p1 1 σ8 else bnd (f_Table_has 6 p1 σ8) (fun r27 σ27 => if r27 = 0 then B_FC_heir_37 p0 p1 σ27 else B_FC_heir_38 p0 p1 1 σ27))
set_option maxHeartbeats 4000000 in
set_option maxRecDepth 100000 in
theorem c_FC_heir {l : Launch} {g : EG} {ad ta : Nat → Nat} {Rr : va_W} {σ : CS} {res : (Int32 × Int32) × CS} {p0 : Int32} {p1 : Int32} (hl : l.stackTraces = false) (h : f_FC_heir p0 p1 σ = some res) (hφ2 : ph σ.2.2 ≤ BB) : CxI l g yX11_heir (.code yX11_heir cX11_heir 3 (some .int)) 13 304 ad ta Rr σ [.ref (ad 0), .int p0, .int p1] res := by
  refine CtX.of rfl (by decide) (Nat.le_of_ble_eq_true rfl) ?_
  intro p e s m args below meth c A C hr hex
  have hφ : ph σ.2.2 ≤ ph σ.2.2 := Nat.le_refl _
  refine nw_zero (ph σ.2.2) ?_
  show NX g p l e s m args below meth c A 13 304 3 ad Rr (ph σ.2.2) res ta σ [(0, .ref (ad 0)), (1, .int p0), (2, .int p1)] 0 []
  unfold f_FC_heir at h
  refine nw_aload_n C dX11_heir_0 rfl 0 rfl ?_
  refine nw_get (v := .ref (ad 5)) C in_X11 0 cl_FC rfl 4 (by decide) tw_514 rfl rfl dX11_heir_1 ?_
  refine nw_get (v := .ref (ad 17)) C in_X5 5 cl_People rfl 0 (by decide) tw_314 rfl rfl dX11_heir_4 ?_
  refine nw_iload_n C dX11_heir_7 rfl 1 rfl ?_
  refine nx_callVI (q0 := 17) (As := [.int p0]) (rest := []) C h (fun _ _ e => c_Table_has 6 (by decide) e hφ2) tw_990 kv_X9_has (cl_T 6 (by decide)) rfl ⟨Nat.le_of_ble_eq_true rfl, Nat.le_of_ble_eq_true rfl⟩ rfl dX11_heir_8 rfl (Nat.le_of_ble_eq_true rfl) hφ hφ2 (fun r8 σ8 ta h hφ hφ2 => ?_)
  refine nw_if_eq (tgt := 37) C dX11_heir_11 (by decide) h (fun _ h => ?_) (fun _ h => ?_)
  · exact nw_lv (lv' := [(0, .ref (ad 0)), (1, .int p0), (2, .int p1)]) [0, 1, 2] rfl (w_FC_heir_37 C hr hl hex p0 p1 _ _ hφ hφ2 h)
  · refine nw_iload_n C dX11_heir_14 rfl 2 rfl ?_
    refine nw_iconst (v := (-1)) C dX11_heir_15 (by decide) ?_
    refine nw_icmp_eq (tgt := 33) C dX11_heir_16 (by decide) h (fun _ h => ?_) (fun _ h => ?_)
    · refine nw_iconst (v := 1) C dX11_heir_33 (by decide) ?_
      refine nw_goto (tgt := 38) C dX11_heir_34 (by decide) ?_
      exact nw_lv (lv' := [(0, .ref (ad 0)), (1, .int p0), (2, .int p1)]) [0, 1, 2] rfl (w_FC_heir_38 C hr hl hex p0 p1 1 _ _ hφ hφ2 h)
    · refine nw_aload_n C dX11_heir_19 rfl 0 rfl ?_
      refine nw_get (v := .ref (ad 5)) C in_X11 0 cl_FC rfl 4 (by decide) tw_514 rfl rfl dX11_heir_20 ?_
      refine nw_get (v := .ref (ad 17)) C in_X5 5 cl_People rfl 0 (by decide) tw_314 rfl rfl dX11_heir_23 ?_
      refine nw_iload_n C dX11_heir_26 rfl 2 rfl ?_
      refine nx_callVI (q0 := 17) (As := [.int p1]) (rest := []) C h (fun _ _ e => c_Table_has 6 (by decide) e hφ2) tw_990 kv_X9_has (cl_T 6 (by decide)) rfl ⟨Nat.le_of_ble_eq_true rfl, Nat.le_of_ble_eq_true rfl⟩ rfl dX11_heir_27 rfl (Nat.le_of_ble_eq_true rfl) hφ hφ2 (fun r27 σ27 ta h hφ hφ2 => ?_)
      refine nw_if_eq (tgt := 37) C dX11_heir_30 (by decide) h (fun _ h => ?_) (fun _ h => ?_)
      · exact nw_lv (lv' := [(0, .ref (ad 0)), (1, .int p0), (2, .int p1)]) [0, 1, 2] rfl (w_FC_heir_37 C hr hl hex p0 p1 _ _ hφ hφ2 h)
      · refine nw_iconst (v := 1) C dX11_heir_33 (by decide) ?_
        refine nw_goto (tgt := 38) C dX11_heir_34 (by decide) ?_
        exact nw_lv (lv' := [(0, .ref (ad 0)), (1, .int p0), (2, .int p1)]) [0, 1, 2] rfl (w_FC_heir_38 C hr hl hex p0 p1 1 _ _ hφ hφ2 h)
theorem dX11_die_0 : decode cX11_die 0 = .ok (.aload_n 0, 1) := by decide +kernel
theorem dX11_die_1 : decode cX11_die 1 = .ok (.getfield 46, 3) := by decide +kernel
theorem dX11_die_4 : decode cX11_die 4 = .ok (.getfield 194, 3) := by decide +kernel
theorem dX11_die_7 : decode cX11_die 7 = .ok (.iload_n 1, 1) := by decide +kernel
theorem dX11_die_8 : decode cX11_die 8 = .ok (.invokevirtual 148, 3) := by decide +kernel
theorem dX11_die_11 : decode cX11_die 11 = .ok (.invokestatic 151, 3) := by decide +kernel
theorem dX11_die_14 : decode cX11_die 14 = .ok (.aload_n 0, 1) := by decide +kernel
theorem dX11_die_15 : decode cX11_die 15 = .ok (.getfield 46, 3) := by decide +kernel
theorem dX11_die_18 : decode cX11_die 18 = .ok (.iload_n 1, 1) := by decide +kernel
theorem dX11_die_19 : decode cX11_die 19 = .ok (.invokevirtual 200, 3) := by decide +kernel
theorem dX11_die_22 : decode cX11_die 22 = .ok (.ifCond .ne 5, 3) := by decide +kernel
theorem dX11_die_25 : decode cX11_die 25 = .ok (.iconst (-1), 1) := by decide +kernel
theorem dX11_die_26 : decode cX11_die 26 = .ok (.ireturn, 1) := by decide +kernel
theorem dX11_die_27 : decode cX11_die 27 = .ok (.aload_n 0, 1) := by decide +kernel
theorem dX11_die_28 : decode cX11_die 28 = .ok (.getfield 46, 3) := by decide +kernel
theorem dX11_die_31 : decode cX11_die 31 = .ok (.getfield 194, 3) := by decide +kernel
theorem dX11_die_34 : decode cX11_die 34 = .ok (.iload_n 1, 1) := by decide +kernel
theorem dX11_die_35 : decode cX11_die 35 = .ok (.iconst 2, 1) := by decide +kernel
theorem dX11_die_36 : decode cX11_die 36 = .ok (.aload_n 0, 1) := by decide +kernel
theorem dX11_die_37 : decode cX11_die 37 = .ok (.getfield 64, 3) := by decide +kernel
theorem dX11_die_40 : decode cX11_die 40 = .ok (.getfield 100, 3) := by decide +kernel
theorem dX11_die_43 : decode cX11_die 43 = .ok (.invokevirtual 203, 3) := by decide +kernel
theorem dX11_die_46 : decode cX11_die 46 = .ok (.iconst 1, 1) := by decide +kernel
theorem dX11_die_47 : decode cX11_die 47 = .ok (.ireturn, 1) := by decide +kernel
def f_FC_die (p0 : Int32) (σ : CS) : Option ((Int32 × Int32) × CS) := bnd (f_Table_has 6 p0 σ) (fun r8 σ8 => if r8 = 0 then some ((3, 0), σ8) else (bnd (f_People_lives p0 σ8) (fun r19 σ19 => if r19 = 0 then some ((0, (-1)), σ19) else bnd (f_Table_put 6 p0 2 (σ19.1 62) σ19) (fun _ σ43 => some ((0, 1), σ43)))))
set_option maxHeartbeats 4000000 in
set_option maxRecDepth 100000 in
theorem c_FC_die {l : Launch} {g : EG} {ad ta : Nat → Nat} {Rr : va_W} {σ : CS} {res : (Int32 × Int32) × CS} {p0 : Int32} (hl : l.stackTraces = false) (h : f_FC_die p0 σ = some res) (hφ2 : ph σ.2.2 ≤ BB) : CxI l g yX11_die (.code yX11_die cX11_die 2 (some .int)) 13 304 ad ta Rr σ [.ref (ad 0), .int p0] res := by
  refine CtX.of rfl (by decide) (Nat.le_of_ble_eq_true rfl) ?_
  intro p e s m args below meth c A C hr hex
  have hφ : ph σ.2.2 ≤ ph σ.2.2 := Nat.le_refl _
  refine nw_zero (ph σ.2.2) ?_
  show NX g p l e s m args below meth c A 13 304 2 ad Rr (ph σ.2.2) res ta σ [(0, .ref (ad 0)), (1, .int p0)] 0 []
  unfold f_FC_die at h
  refine nw_aload_n C dX11_die_0 rfl 0 rfl ?_
  refine nw_get (v := .ref (ad 5)) C in_X11 0 cl_FC rfl 4 (by decide) tw_514 rfl rfl dX11_die_1 ?_
  refine nw_get (v := .ref (ad 17)) C in_X5 5 cl_People rfl 0 (by decide) tw_314 rfl rfl dX11_die_4 ?_
  refine nw_iload_n C dX11_die_7 rfl 1 rfl ?_
  refine nx_callVI (q0 := 17) (As := [.int p0]) (rest := []) C h (fun _ _ e => c_Table_has 6 (by decide) e hφ2) tw_990 kv_X9_has (cl_T 6 (by decide)) rfl ⟨Nat.le_of_ble_eq_true rfl, Nat.le_of_ble_eq_true rfl⟩ rfl dX11_die_8 rfl (Nat.le_of_ble_eq_true rfl) hφ hφ2 (fun r8 σ8 ta h hφ hφ2 => ?_)
  refine nx_check C hex (by decide) (fun _ => ct_checkIndex hl) (fun _ hb => cr_checkIndex hb) tw_991 ks_X11_checkIndex ⟨Nat.le_of_ble_eq_true rfl, Nat.le_of_ble_eq_true rfl⟩ dX11_die_11 (Nat.le_of_ble_eq_true rfl) hφ hφ2 h (fun _ h => ?_)
  refine nw_aload_n C dX11_die_14 rfl 0 rfl ?_
  refine nw_get (v := .ref (ad 5)) C in_X11 0 cl_FC rfl 4 (by decide) tw_514 rfl rfl dX11_die_15 ?_
  refine nw_iload_n C dX11_die_18 rfl 1 rfl ?_
  refine nx_callVI (q0 := 5) (As := [.int p0]) (rest := []) C h (fun _ _ e => c_People_lives e hφ2) tw_1288 kv_X5_lives cl_People rfl ⟨Nat.le_of_ble_eq_true rfl, Nat.le_of_ble_eq_true rfl⟩ rfl dX11_die_19 rfl (Nat.le_of_ble_eq_true rfl) hφ hφ2 (fun r19 σ19 ta h hφ hφ2 => ?_)
  refine nw_if_ne (tgt := 27) C dX11_die_22 (by decide) h (fun _ h => ?_) (fun _ h => ?_)
  · refine nw_iconst (v := (-1)) C dX11_die_25 (by decide) ?_
    exact nx_iret C hr dX11_die_26 hφ hφ2 h
  · refine nw_aload_n C dX11_die_27 rfl 0 rfl ?_
    refine nw_get (v := .ref (ad 5)) C in_X11 0 cl_FC rfl 4 (by decide) tw_514 rfl rfl dX11_die_28 ?_
    refine nw_get (v := .ref (ad 17)) C in_X5 5 cl_People rfl 0 (by decide) tw_314 rfl rfl dX11_die_31 ?_
    refine nw_iload_n C dX11_die_34 rfl 1 rfl ?_
    refine nw_iconst (v := 2) C dX11_die_35 (by decide) ?_
    refine nw_aload_n C dX11_die_36 rfl 0 rfl ?_
    refine nw_get (v := .ref (ad 7)) C in_X11 0 cl_FC rfl 6 (by decide) tw_516 rfl rfl dX11_die_37 ?_
    refine nw_getN (v := .int (σ19.1 62)) C in_X1 7 cl_Courts rfl 11 (by decide) tw_390 rfl rfl dX11_die_40 ?_
    refine nx_callVV (q0 := 17) (As := [.int p0, .int 2, .int (σ19.1 62)]) (rest := []) C h (fun _ _ e => c_Table_put 6 (by decide) e hφ2) tw_554 kv_X9_put (cl_T 6 (by decide)) rfl ⟨Nat.le_of_ble_eq_true rfl, Nat.le_of_ble_eq_true rfl⟩ rfl dX11_die_43 rfl (Nat.le_of_ble_eq_true rfl) hφ hφ2 (fun r43 σ43 ta h hφ hφ2 => ?_)
    refine nw_iconst (v := 1) C dX11_die_46 (by decide) ?_
    exact nx_iret C hr dX11_die_47 hφ hφ2 h
theorem dX11_told_0 : decode cX11_told 0 = .ok (.aload_n 0, 1) := by decide +kernel
theorem dX11_told_1 : decode cX11_told 1 = .ok (.getfield 46, 3) := by decide +kernel
theorem dX11_told_4 : decode cX11_told 4 = .ok (.getfield 194, 3) := by decide +kernel
theorem dX11_told_7 : decode cX11_told 7 = .ok (.iload_n 1, 1) := by decide +kernel
theorem dX11_told_8 : decode cX11_told 8 = .ok (.invokevirtual 148, 3) := by decide +kernel
theorem dX11_told_11 : decode cX11_told 11 = .ok (.invokestatic 151, 3) := by decide +kernel
theorem dX11_told_14 : decode cX11_told 14 = .ok (.iload_n 2, 1) := by decide +kernel
theorem dX11_told_15 : decode cX11_told 15 = .ok (.iconst 0, 1) := by decide +kernel
theorem dX11_told_16 : decode cX11_told 16 = .ok (.iconst 3, 1) := by decide +kernel
theorem dX11_told_17 : decode cX11_told 17 = .ok (.invokestatic 92, 3) := by decide +kernel
theorem dX11_told_20 : decode cX11_told 20 = .ok (.invokestatic 96, 3) := by decide +kernel
theorem dX11_told_23 : decode cX11_told 23 = .ok (.iload_n 2, 1) := by decide +kernel
theorem dX11_told_24 : decode cX11_told 24 = .ok (.iconst 3, 1) := by decide +kernel
theorem dX11_told_25 : decode cX11_told 25 = .ok (.if_icmp .ne 14, 3) := by decide +kernel
theorem dX11_told_28 : decode cX11_told 28 = .ok (.aload_n 0, 1) := by decide +kernel
theorem dX11_told_29 : decode cX11_told 29 = .ok (.getfield 46, 3) := by decide +kernel
theorem dX11_told_32 : decode cX11_told 32 = .ok (.iload_n 1, 1) := by decide +kernel
theorem dX11_told_33 : decode cX11_told 33 = .ok (.invokevirtual 207, 3) := by decide +kernel
theorem dX11_told_36 : decode cX11_told 36 = .ok (.goto 15, 3) := by decide +kernel
theorem dX11_told_39 : decode cX11_told 39 = .ok (.aload_n 0, 1) := by decide +kernel
theorem dX11_told_40 : decode cX11_told 40 = .ok (.getfield 46, 3) := by decide +kernel
theorem dX11_told_43 : decode cX11_told 43 = .ok (.getfield 194, 3) := by decide +kernel
theorem dX11_told_46 : decode cX11_told 46 = .ok (.iload_n 1, 1) := by decide +kernel
theorem dX11_told_47 : decode cX11_told 47 = .ok (.iload_n 2, 1) := by decide +kernel
theorem dX11_told_48 : decode cX11_told 48 = .ok (.invokevirtual 210, 3) := by decide +kernel
theorem dX11_told_51 : decode cX11_told 51 = .ok (.ireturn, 1) := by decide +kernel
def f_FC_told (p0 : Int32) (p1 : Int32) (σ : CS) : Option ((Int32 × Int32) × CS) := bnd (f_Table_has 6 p0 σ) (fun r8 σ8 => if r8 = 0 then some ((3, 0), σ8) else (bnd (f_FC_within p1 0 3 σ8) (fun r17 σ17 => if r17 = 0 then some ((1, 0), σ17) else (if p1 = 3 then bnd (f_People_heirOf p0 σ17) (fun r33 σ33 => some ((0, r33), σ33)) else bnd (f_Table_get 6 p0 p1 σ17) (fun r48 σ48 => some ((0, r48), σ48))))))
set_option maxHeartbeats 4000000 in
set_option maxRecDepth 100000 in
theorem c_FC_told {l : Launch} {g : EG} {ad ta : Nat → Nat} {Rr : va_W} {σ : CS} {res : (Int32 × Int32) × CS} {p0 : Int32} {p1 : Int32} (hl : l.stackTraces = false) (h : f_FC_told p0 p1 σ = some res) (hφ2 : ph σ.2.2 ≤ BB) : CxI l g yX11_told (.code yX11_told cX11_told 3 (some .int)) 13 304 ad ta Rr σ [.ref (ad 0), .int p0, .int p1] res := by
  refine CtX.of rfl (by decide) (Nat.le_of_ble_eq_true rfl) ?_
  intro p e s m args below meth c A C hr hex
  have hφ : ph σ.2.2 ≤ ph σ.2.2 := Nat.le_refl _
  refine nw_zero (ph σ.2.2) ?_
  show NX g p l e s m args below meth c A 13 304 3 ad Rr (ph σ.2.2) res ta σ [(0, .ref (ad 0)), (1, .int p0), (2, .int p1)] 0 []
  unfold f_FC_told at h
  refine nw_aload_n C dX11_told_0 rfl 0 rfl ?_
  refine nw_get (v := .ref (ad 5)) C in_X11 0 cl_FC rfl 4 (by decide) tw_514 rfl rfl dX11_told_1 ?_
  refine nw_get (v := .ref (ad 17)) C in_X5 5 cl_People rfl 0 (by decide) tw_314 rfl rfl dX11_told_4 ?_
  refine nw_iload_n C dX11_told_7 rfl 1 rfl ?_
  refine nx_callVI (q0 := 17) (As := [.int p0]) (rest := []) C h (fun _ _ e => c_Table_has 6 (by decide) e hφ2) tw_990 kv_X9_has (cl_T 6 (by decide)) rfl ⟨Nat.le_of_ble_eq_true rfl, Nat.le_of_ble_eq_true rfl⟩ rfl dX11_told_8 rfl (Nat.le_of_ble_eq_true rfl) hφ hφ2 (fun r8 σ8 ta h hφ hφ2 => ?_)
  refine nx_check C hex (by decide) (fun _ => ct_checkIndex hl) (fun _ hb => cr_checkIndex hb) tw_991 ks_X11_checkIndex ⟨Nat.le_of_ble_eq_true rfl, Nat.le_of_ble_eq_true rfl⟩ dX11_told_11 (Nat.le_of_ble_eq_true rfl) hφ hφ2 h (fun _ h => ?_)
  refine nw_iload_n C dX11_told_14 rfl 2 rfl ?_
  refine nw_iconst (v := 0) C dX11_told_15 (by decide) ?_
  refine nw_iconst (v := 3) C dX11_told_16 (by decide) ?_
  refine nx_callSI  (As := [.int p1, .int 0, .int 3]) (rest := []) C h (fun _ _ e => c_FC_within e hφ2) tw_675 ks_X11_within ⟨Nat.le_of_ble_eq_true rfl, Nat.le_of_ble_eq_true rfl⟩ rfl dX11_told_17 rfl (Nat.le_of_ble_eq_true rfl) hφ hφ2 (fun r17 σ17 ta h hφ hφ2 => ?_)
  refine nx_check C hex (by decide) (fun _ => ct_checkArgument hl) (fun _ hb => cr_checkArgument hb) tw_678 ks_X11_checkArgument ⟨Nat.le_of_ble_eq_true rfl, Nat.le_of_ble_eq_true rfl⟩ dX11_told_20 (Nat.le_of_ble_eq_true rfl) hφ hφ2 h (fun _ h => ?_)
  refine nw_iload_n C dX11_told_23 rfl 2 rfl ?_
  refine nw_iconst (v := 3) C dX11_told_24 (by decide) ?_
  refine nw_icmp_ne (tgt := 39) C dX11_told_25 (by decide) h (fun _ h => ?_) (fun _ h => ?_)
  · refine nw_aload_n C dX11_told_28 rfl 0 rfl ?_
    refine nw_get (v := .ref (ad 5)) C in_X11 0 cl_FC rfl 4 (by decide) tw_514 rfl rfl dX11_told_29 ?_
    refine nw_iload_n C dX11_told_32 rfl 1 rfl ?_
    refine nx_callVI (q0 := 5) (As := [.int p0]) (rest := []) C h (fun _ _ e => c_People_heirOf e hφ2) tw_1296 kv_X5_heirOf cl_People rfl ⟨Nat.le_of_ble_eq_true rfl, Nat.le_of_ble_eq_true rfl⟩ rfl dX11_told_33 rfl (Nat.le_of_ble_eq_true rfl) hφ hφ2 (fun r33 σ33 ta h hφ hφ2 => ?_)
    refine nw_goto (tgt := 51) C dX11_told_36 (by decide) ?_
    exact nx_iret C hr dX11_told_51 hφ hφ2 h
  · refine nw_aload_n C dX11_told_39 rfl 0 rfl ?_
    refine nw_get (v := .ref (ad 5)) C in_X11 0 cl_FC rfl 4 (by decide) tw_514 rfl rfl dX11_told_40 ?_
    refine nw_get (v := .ref (ad 17)) C in_X5 5 cl_People rfl 0 (by decide) tw_314 rfl rfl dX11_told_43 ?_
    refine nw_iload_n C dX11_told_46 rfl 1 rfl ?_
    refine nw_iload_n C dX11_told_47 rfl 2 rfl ?_
    refine nx_callVI (q0 := 17) (As := [.int p0, .int p1]) (rest := []) C h (fun _ _ e => c_Table_get 6 (by decide) e hφ2) tw_1297 kv_X9_get (cl_T 6 (by decide)) rfl ⟨Nat.le_of_ble_eq_true rfl, Nat.le_of_ble_eq_true rfl⟩ rfl dX11_told_48 rfl (Nat.le_of_ble_eq_true rfl) hφ hφ2 (fun r48 σ48 ta h hφ hφ2 => ?_)
    exact nx_iret C hr dX11_told_51 hφ hφ2 h
theorem dX11_warden_0 : decode cX11_warden 0 = .ok (.aload_n 0, 1) := by decide +kernel
theorem dX11_warden_1 : decode cX11_warden 1 = .ok (.getfield 46, 3) := by decide +kernel
theorem dX11_warden_4 : decode cX11_warden 4 = .ok (.getfield 194, 3) := by decide +kernel
theorem dX11_warden_7 : decode cX11_warden 7 = .ok (.iload_n 1, 1) := by decide +kernel
theorem dX11_warden_8 : decode cX11_warden 8 = .ok (.invokevirtual 148, 3) := by decide +kernel
theorem dX11_warden_11 : decode cX11_warden 11 = .ok (.invokestatic 151, 3) := by decide +kernel
theorem dX11_warden_14 : decode cX11_warden 14 = .ok (.iload_n 2, 1) := by decide +kernel
theorem dX11_warden_15 : decode cX11_warden 15 = .ok (.iconst 1, 1) := by decide +kernel
theorem dX11_warden_16 : decode cX11_warden 16 = .ok (.bipush 9, 2) := by decide +kernel
theorem dX11_warden_18 : decode cX11_warden 18 = .ok (.invokestatic 92, 3) := by decide +kernel
theorem dX11_warden_21 : decode cX11_warden 21 = .ok (.ifCond .eq 17, 3) := by decide +kernel
theorem dX11_warden_24 : decode cX11_warden 24 = .ok (.iload_n 3, 1) := by decide +kernel
theorem dX11_warden_25 : decode cX11_warden 25 = .ok (.iconst 0, 1) := by decide +kernel
theorem dX11_warden_26 : decode cX11_warden 26 = .ok (.bipush 50, 2) := by decide +kernel
theorem dX11_warden_28 : decode cX11_warden 28 = .ok (.invokestatic 92, 3) := by decide +kernel
theorem dX11_warden_31 : decode cX11_warden 31 = .ok (.ifCond .eq 7, 3) := by decide +kernel
theorem dX11_warden_34 : decode cX11_warden 34 = .ok (.iconst 1, 1) := by decide +kernel
theorem dX11_warden_35 : decode cX11_warden 35 = .ok (.goto 4, 3) := by decide +kernel
theorem dX11_warden_38 : decode cX11_warden 38 = .ok (.iconst 0, 1) := by decide +kernel
theorem dX11_warden_39 : decode cX11_warden 39 = .ok (.invokestatic 96, 3) := by decide +kernel
theorem dX11_warden_42 : decode cX11_warden 42 = .ok (.aload_n 0, 1) := by decide +kernel
theorem dX11_warden_43 : decode cX11_warden 43 = .ok (.getfield 64, 3) := by decide +kernel
theorem dX11_warden_46 : decode cX11_warden 46 = .ok (.iload_n 1, 1) := by decide +kernel
theorem dX11_warden_47 : decode cX11_warden 47 = .ok (.iload_n 2, 1) := by decide +kernel
theorem dX11_warden_48 : decode cX11_warden 48 = .ok (.iload_n 3, 1) := by decide +kernel
theorem dX11_warden_49 : decode cX11_warden 49 = .ok (.invokevirtual 213, 3) := by decide +kernel
theorem dX11_warden_52 : decode cX11_warden 52 = .ok (.ireturn, 1) := by decide +kernel
def B_FC_warden_39   (x1 : Int32) (x2 : Int32) (x3 : Int32) (z0 : Int32) (σ : CS) : Option ((Int32 × Int32) × CS) := if z0 = 0 then some ((1, 0), σ) else (bnd (f_Courts_addWarden x1 x2 x3 σ) (fun r49 σ49 => some ((0, r49), σ49)))
set_option maxHeartbeats 4000000 in
set_option maxRecDepth 100000 in
theorem w_FC_warden_39 (C : Cx g p s m args meth c A 4 cX11_warden yX11_warden.cls) (hr : meth.sig.returnType = (some .int)) (hl : l.stackTraces = false) (hex : ∀ x ∈ c.exceptionTable.toList, False) {res : (Int32 × Int32) × CS}   (x1 : Int32) (x2 : Int32) (x3 : Int32) (z0 : Int32)  (σ : CS) (ta : Nat → Nat) (hφ : φ0 ≤ ph σ.2.2) (hφ2 : ph σ.2.2 ≤ BB) (h : B_FC_warden_39 x1 x2 x3 z0 σ = some res) : NX g p l e s m args below meth c A 13 304 4 ad Rr φ0 res ta σ [(0, .ref (ad 0)), (1, .int x1), (2, .int x2), (3, .int x3)] 39 [.int z0] := by
  unfold B_FC_warden_39 at h
  refine nx_check C hex (by decide) (fun _ => ct_checkArgument hl) (fun _ hb => cr_checkArgument hb) tw_678 ks_X11_checkArgument ⟨Nat.le_of_ble_eq_true rfl, Nat.le_of_ble_eq_true rfl⟩ dX11_warden_39 (Nat.le_of_ble_eq_true rfl) hφ hφ2 h (fun _ h => ?_)
  refine nw_aload_n C dX11_warden_42 rfl 0 rfl ?_
  refine nw_get (v := .ref (ad 7)) C in_X11 0 cl_FC rfl 6 (by decide) tw_516 rfl rfl dX11_warden_43 ?_
  refine nw_iload_n C dX11_warden_46 rfl 1 rfl ?_
  refine nw_iload_n C dX11_warden_47 rfl 2 rfl ?_
  refine nw_iload_n C dX11_warden_48 rfl 3 rfl ?_
  refine nx_callVI (q0 := 7) (As := [.int x1, .int x2, .int x3]) (rest := []) C h (fun _ _ e => c_Courts_addWarden e hφ2) tw_1305 kv_X1_addWarden cl_Courts rfl ⟨Nat.le_of_ble_eq_true rfl, Nat.le_of_ble_eq_true rfl⟩ rfl dX11_warden_49 rfl (Nat.le_of_ble_eq_true rfl) hφ hφ2 (fun r49 σ49 ta h hφ hφ2 => ?_)
  exact nx_iret C hr dX11_warden_52 hφ hφ2 h
def B_FC_warden_38   (x1 : Int32) (x2 : Int32) (x3 : Int32) (σ : CS) : Option ((Int32 × Int32) × CS) := B_FC_warden_39 x1 x2 x3 0 σ
set_option maxHeartbeats 4000000 in
set_option maxRecDepth 100000 in
theorem w_FC_warden_38 (C : Cx g p s m args meth c A 4 cX11_warden yX11_warden.cls) (hr : meth.sig.returnType = (some .int)) (hl : l.stackTraces = false) (hex : ∀ x ∈ c.exceptionTable.toList, False) {res : (Int32 × Int32) × CS}   (x1 : Int32) (x2 : Int32) (x3 : Int32)  (σ : CS) (ta : Nat → Nat) (hφ : φ0 ≤ ph σ.2.2) (hφ2 : ph σ.2.2 ≤ BB) (h : B_FC_warden_38 x1 x2 x3 σ = some res) : NX g p l e s m args below meth c A 13 304 4 ad Rr φ0 res ta σ [(0, .ref (ad 0)), (1, .int x1), (2, .int x2), (3, .int x3)] 38 [] := by
  unfold B_FC_warden_38 at h
  refine nw_iconst (v := 0) C dX11_warden_38 (by decide) ?_
  exact nw_lv (lv' := [(0, .ref (ad 0)), (1, .int x1), (2, .int x2), (3, .int x3)]) [0, 1, 2, 3] rfl (w_FC_warden_39 C hr hl hex x1 x2 x3 0 _ _ hφ hφ2 h)
def f_FC_warden (p0 : Int32) (p1 : Int32) (p2 : Int32) (σ : CS) : Option ((Int32 × Int32) × CS) := bnd (f_Table_has 6 p0 σ) (fun r8 σ8 => if r8 = 0 then some ((3, 0), σ8) else (bnd (f_FC_within p1 1 9 σ8) (fun r18 σ18 => if r18 = 0 then B_FC_warden_38 p0 p1 p2 σ18 else bnd (f_FC_within p2 0 50 σ18) (fun r28 σ28 => if r28 = 0 then B_FC_warden_38 p0 p1 p2 σ28 else B_FC_warden_39 p0 p1 p2 1 σ28))))
set_option maxHeartbeats 4000000 in
set_option maxRecDepth 100000 in
theorem c_FC_warden {l : Launch} {g : EG} {ad ta : Nat → Nat} {Rr : va_W} {σ : CS} {res : (Int32 × Int32) × CS} {p0 : Int32} {p1 : Int32} {p2 : Int32} (hl : l.stackTraces = false) (h : f_FC_warden p0 p1 p2 σ = some res) (hφ2 : ph σ.2.2 ≤ BB) : CxI l g yX11_warden (.code yX11_warden cX11_warden 4 (some .int)) 13 304 ad ta Rr σ [.ref (ad 0), .int p0, .int p1, .int p2] res := by
  refine CtX.of rfl (by decide) (Nat.le_of_ble_eq_true rfl) ?_
  intro p e s m args below meth c A C hr hex
  have hφ : ph σ.2.2 ≤ ph σ.2.2 := Nat.le_refl _
  refine nw_zero (ph σ.2.2) ?_
  show NX g p l e s m args below meth c A 13 304 4 ad Rr (ph σ.2.2) res ta σ [(0, .ref (ad 0)), (1, .int p0), (2, .int p1), (3, .int p2)] 0 []
  unfold f_FC_warden at h
  refine nw_aload_n C dX11_warden_0 rfl 0 rfl ?_
  refine nw_get (v := .ref (ad 5)) C in_X11 0 cl_FC rfl 4 (by decide) tw_514 rfl rfl dX11_warden_1 ?_
  refine nw_get (v := .ref (ad 17)) C in_X5 5 cl_People rfl 0 (by decide) tw_314 rfl rfl dX11_warden_4 ?_
  refine nw_iload_n C dX11_warden_7 rfl 1 rfl ?_
  refine nx_callVI (q0 := 17) (As := [.int p0]) (rest := []) C h (fun _ _ e => c_Table_has 6 (by decide) e hφ2) tw_990 kv_X9_has (cl_T 6 (by decide)) rfl ⟨Nat.le_of_ble_eq_true rfl, Nat.le_of_ble_eq_true rfl⟩ rfl dX11_warden_8 rfl (Nat.le_of_ble_eq_true rfl) hφ hφ2 (fun r8 σ8 ta h hφ hφ2 => ?_)
  refine nx_check C hex (by decide) (fun _ => ct_checkIndex hl) (fun _ hb => cr_checkIndex hb) tw_991 ks_X11_checkIndex ⟨Nat.le_of_ble_eq_true rfl, Nat.le_of_ble_eq_true rfl⟩ dX11_warden_11 (Nat.le_of_ble_eq_true rfl) hφ hφ2 h (fun _ h => ?_)
  refine nw_iload_n C dX11_warden_14 rfl 2 rfl ?_
  refine nw_iconst (v := 1) C dX11_warden_15 (by decide) ?_
  refine nw_bipush (v := 9) C dX11_warden_16 (by decide) ?_
  refine nx_callSI  (As := [.int p1, .int 1, .int 9]) (rest := []) C h (fun _ _ e => c_FC_within e hφ2) tw_675 ks_X11_within ⟨Nat.le_of_ble_eq_true rfl, Nat.le_of_ble_eq_true rfl⟩ rfl dX11_warden_18 rfl (Nat.le_of_ble_eq_true rfl) hφ hφ2 (fun r18 σ18 ta h hφ hφ2 => ?_)
  refine nw_if_eq (tgt := 38) C dX11_warden_21 (by decide) h (fun _ h => ?_) (fun _ h => ?_)
  · exact nw_lv (lv' := [(0, .ref (ad 0)), (1, .int p0), (2, .int p1), (3, .int p2)]) [0, 1, 2, 3] rfl (w_FC_warden_38 C hr hl hex p0 p1 p2 _ _ hφ hφ2 h)
  · refine nw_iload_n C dX11_warden_24 rfl 3 rfl ?_
    refine nw_iconst (v := 0) C dX11_warden_25 (by decide) ?_
    refine nw_bipush (v := 50) C dX11_warden_26 (by decide) ?_
    refine nx_callSI  (As := [.int p2, .int 0, .int 50]) (rest := []) C h (fun _ _ e => c_FC_within e hφ2) tw_675 ks_X11_within ⟨Nat.le_of_ble_eq_true rfl, Nat.le_of_ble_eq_true rfl⟩ rfl dX11_warden_28 rfl (Nat.le_of_ble_eq_true rfl) hφ hφ2 (fun r28 σ28 ta h hφ hφ2 => ?_)
    refine nw_if_eq (tgt := 38) C dX11_warden_31 (by decide) h (fun _ h => ?_) (fun _ h => ?_)
    · exact nw_lv (lv' := [(0, .ref (ad 0)), (1, .int p0), (2, .int p1), (3, .int p2)]) [0, 1, 2, 3] rfl (w_FC_warden_38 C hr hl hex p0 p1 p2 _ _ hφ hφ2 h)
    · refine nw_iconst (v := 1) C dX11_warden_34 (by decide) ?_
      refine nw_goto (tgt := 39) C dX11_warden_35 (by decide) ?_
      exact nw_lv (lv' := [(0, .ref (ad 0)), (1, .int p0), (2, .int p1), (3, .int p2)]) [0, 1, 2, 3] rfl (w_FC_warden_39 C hr hl hex p0 p1 p2 1 _ _ hφ hφ2 h)
theorem dX11_deed_0 : decode cX11_deed 0 = .ok (.aload_n 0, 1) := by decide +kernel
theorem dX11_deed_1 : decode cX11_deed 1 = .ok (.getfield 46, 3) := by decide +kernel
theorem dX11_deed_4 : decode cX11_deed 4 = .ok (.getfield 194, 3) := by decide +kernel
theorem dX11_deed_7 : decode cX11_deed 7 = .ok (.iload_n 1, 1) := by decide +kernel
theorem dX11_deed_8 : decode cX11_deed 8 = .ok (.invokevirtual 148, 3) := by decide +kernel
theorem dX11_deed_11 : decode cX11_deed 11 = .ok (.invokestatic 151, 3) := by decide +kernel
theorem dX11_deed_14 : decode cX11_deed 14 = .ok (.iload_n 2, 1) := by decide +kernel
theorem dX11_deed_15 : decode cX11_deed 15 = .ok (.invokestatic 216, 3) := by decide +kernel
theorem dX11_deed_18 : decode cX11_deed 18 = .ok (.ifCond .eq 44, 3) := by decide +kernel
theorem dX11_deed_21 : decode cX11_deed 21 = .ok (.iload_n 3, 1) := by decide +kernel
theorem dX11_deed_22 : decode cX11_deed 22 = .ok (.iload 4, 2) := by decide +kernel
theorem dX11_deed_24 : decode cX11_deed 24 = .ok (.invokestatic 119, 3) := by decide +kernel
theorem dX11_deed_27 : decode cX11_deed 27 = .ok (.ifCond .eq 35, 3) := by decide +kernel
theorem dX11_deed_30 : decode cX11_deed 30 = .ok (.iload 5, 2) := by decide +kernel
theorem dX11_deed_32 : decode cX11_deed 32 = .ok (.iconst 0, 1) := by decide +kernel
theorem dX11_deed_33 : decode cX11_deed 33 = .ok (.aload_n 0, 1) := by decide +kernel
theorem dX11_deed_34 : decode cX11_deed 34 = .ok (.getfield 64, 3) := by decide +kernel
theorem dX11_deed_37 : decode cX11_deed 37 = .ok (.getfield 100, 3) := by decide +kernel
theorem dX11_deed_40 : decode cX11_deed 40 = .ok (.invokestatic 92, 3) := by decide +kernel
theorem dX11_deed_43 : decode cX11_deed 43 = .ok (.ifCond .eq 19, 3) := by decide +kernel
theorem dX11_deed_46 : decode cX11_deed 46 = .ok (.iload 6, 2) := by decide +kernel
theorem dX11_deed_48 : decode cX11_deed 48 = .ok (.iconst 1, 1) := by decide +kernel
theorem dX11_deed_49 : decode cX11_deed 49 = .ok (.sipush 1000, 3) := by decide +kernel
theorem dX11_deed_52 : decode cX11_deed 52 = .ok (.invokestatic 92, 3) := by decide +kernel
theorem dX11_deed_55 : decode cX11_deed 55 = .ok (.ifCond .eq 7, 3) := by decide +kernel
theorem dX11_deed_58 : decode cX11_deed 58 = .ok (.iconst 1, 1) := by decide +kernel
theorem dX11_deed_59 : decode cX11_deed 59 = .ok (.goto 4, 3) := by decide +kernel
theorem dX11_deed_62 : decode cX11_deed 62 = .ok (.iconst 0, 1) := by decide +kernel
theorem dX11_deed_63 : decode cX11_deed 63 = .ok (.invokestatic 96, 3) := by decide +kernel
theorem dX11_deed_66 : decode cX11_deed 66 = .ok (.aload_n 0, 1) := by decide +kernel
theorem dX11_deed_67 : decode cX11_deed 67 = .ok (.getfield 64, 3) := by decide +kernel
theorem dX11_deed_70 : decode cX11_deed 70 = .ok (.iload_n 1, 1) := by decide +kernel
theorem dX11_deed_71 : decode cX11_deed 71 = .ok (.iload_n 2, 1) := by decide +kernel
theorem dX11_deed_72 : decode cX11_deed 72 = .ok (.iload_n 3, 1) := by decide +kernel
theorem dX11_deed_73 : decode cX11_deed 73 = .ok (.iload 4, 2) := by decide +kernel
theorem dX11_deed_75 : decode cX11_deed 75 = .ok (.iload 5, 2) := by decide +kernel
theorem dX11_deed_77 : decode cX11_deed 77 = .ok (.iload 6, 2) := by decide +kernel
theorem dX11_deed_79 : decode cX11_deed 79 = .ok (.invokevirtual 219, 3) := by decide +kernel
theorem dX11_deed_82 : decode cX11_deed 82 = .ok (.ireturn, 1) := by decide +kernel
def B_FC_deed_63   (x1 : Int32) (x2 : Int32) (x3 : Int32) (x4 : Int32) (x5 : Int32) (x6 : Int32) (z0 : Int32) (σ : CS) : Option ((Int32 × Int32) × CS) := if z0 = 0 then some ((1, 0), σ) else (bnd (f_Courts_addDeed x1 x2 x3 x4 x5 x6 σ) (fun r79 σ79 => some ((0, r79), σ79)))
set_option maxHeartbeats 4000000 in
set_option maxRecDepth 100000 in
theorem w_FC_deed_63 (C : Cx g p s m args meth c A 7 cX11_deed yX11_deed.cls) (hr : meth.sig.returnType = (some .int)) (hl : l.stackTraces = false) (hex : ∀ x ∈ c.exceptionTable.toList, False) {res : (Int32 × Int32) × CS}   (x1 : Int32) (x2 : Int32) (x3 : Int32) (x4 : Int32) (x5 : Int32) (x6 : Int32) (z0 : Int32)  (σ : CS) (ta : Nat → Nat) (hφ : φ0 ≤ ph σ.2.2) (hφ2 : ph σ.2.2 ≤ BB) (h : B_FC_deed_63 x1 x2 x3 x4 x5 x6 z0 σ = some res) : NX g p l e s m args below meth c A 13 304 7 ad Rr φ0 res ta σ [(0, .ref (ad 0)), (1, .int x1), (2, .int x2), (3, .int x3), (4, .int x4), (5, .int x5), (6, .int x6)] 63 [.int z0] := by
  unfold B_FC_deed_63 at h
  refine nx_check C hex (by decide) (fun _ => ct_checkArgument hl) (fun _ hb => cr_checkArgument hb) tw_678 ks_X11_checkArgument ⟨Nat.le_of_ble_eq_true rfl, Nat.le_of_ble_eq_true rfl⟩ dX11_deed_63 (Nat.le_of_ble_eq_true rfl) hφ hφ2 h (fun _ h => ?_)
  refine nw_aload_n C dX11_deed_66 rfl 0 rfl ?_
  refine nw_get (v := .ref (ad 7)) C in_X11 0 cl_FC rfl 6 (by decide) tw_516 rfl rfl dX11_deed_67 ?_
  refine nw_iload_n C dX11_deed_70 rfl 1 rfl ?_
  refine nw_iload_n C dX11_deed_71 rfl 2 rfl ?_
  refine nw_iload_n C dX11_deed_72 rfl 3 rfl ?_
  refine nw_iload C dX11_deed_73 4 rfl ?_
  refine nw_iload C dX11_deed_75 5 rfl ?_
  refine nw_iload C dX11_deed_77 6 rfl ?_
  refine nx_callVI (q0 := 7) (As := [.int x1, .int x2, .int x3, .int x4, .int x5, .int x6]) (rest := []) C h (fun _ _ e => c_Courts_addDeed e hφ2) tw_1319 kv_X1_addDeed cl_Courts rfl ⟨Nat.le_of_ble_eq_true rfl, Nat.le_of_ble_eq_true rfl⟩ rfl dX11_deed_79 rfl (Nat.le_of_ble_eq_true rfl) hφ hφ2 (fun r79 σ79 ta h hφ hφ2 => ?_)
  exact nx_iret C hr dX11_deed_82 hφ hφ2 h
def B_FC_deed_62   (x1 : Int32) (x2 : Int32) (x3 : Int32) (x4 : Int32) (x5 : Int32) (x6 : Int32) (σ : CS) : Option ((Int32 × Int32) × CS) := B_FC_deed_63 x1 x2 x3 x4 x5 x6 0 σ
set_option maxHeartbeats 4000000 in
set_option maxRecDepth 100000 in
theorem w_FC_deed_62 (C : Cx g p s m args meth c A 7 cX11_deed yX11_deed.cls) (hr : meth.sig.returnType = (some .int)) (hl : l.stackTraces = false) (hex : ∀ x ∈ c.exceptionTable.toList, False) {res : (Int32 × Int32) × CS}   (x1 : Int32) (x2 : Int32) (x3 : Int32) (x4 : Int32) (x5 : Int32) (x6 : Int32)  (σ : CS) (ta : Nat → Nat) (hφ : φ0 ≤ ph σ.2.2) (hφ2 : ph σ.2.2 ≤ BB) (h : B_FC_deed_62 x1 x2 x3 x4 x5 x6 σ = some res) : NX g p l e s m args below meth c A 13 304 7 ad Rr φ0 res ta σ [(0, .ref (ad 0)), (1, .int x1), (2, .int x2), (3, .int x3), (4, .int x4), (5, .int x5), (6, .int x6)] 62 [] := by
  unfold B_FC_deed_62 at h
  refine nw_iconst (v := 0) C dX11_deed_62 (by decide) ?_
  exact nw_lv (lv' := [(0, .ref (ad 0)), (1, .int x1), (2, .int x2), (3, .int x3), (4, .int x4), (5, .int x5), (6, .int x6)]) [0, 1, 2, 3, 4, 5, 6] rfl (w_FC_deed_63 C hr hl hex x1 x2 x3 x4 x5 x6 0 _ _ hφ hφ2 h)
def f_FC_deed (p0 : Int32) (p1 : Int32) (p2 : Int32) (p3 : Int32) (p4 : Int32) (p5 : Int32) (σ : CS) : Option ((Int32 × Int32) × CS) := bnd (f_Table_has 6 p0 σ) (fun r8 σ8 => if r8 = 0 then some ((3, 0), σ8) else (bnd (f_FC_isAct p1 σ8) (fun r15 σ15 => if r15 = 0 then B_FC_deed_62 p0 p1 p2 p3 p4 p5 σ15 else bnd (f_FC_isPlace p2 p3 σ15) (fun r24 σ24 => if r24 = 0 then B_FC_deed_62 p0 p1 p2 p3 p4 p5 σ24 else bnd (f_FC_within p4 0 (σ24.1 62) σ24) (fun r40 σ40 => if r40 = 0 then B_FC_deed_62 p0 p1 p2 p3 p4 p5 σ40 else bnd (f_FC_within p5 1 1000 σ40) (fun r52 σ52 => if r52 = 0 then B_FC_deed_62 p0 p1 p2 p3 p4 p5 σ52 else B_FC_deed_63 p0 p1 p2 p3 p4 p5 1 σ52))))))
set_option maxHeartbeats 4000000 in
set_option maxRecDepth 100000 in
theorem c_FC_deed {l : Launch} {g : EG} {ad ta : Nat → Nat} {Rr : va_W} {σ : CS} {res : (Int32 × Int32) × CS} {p0 : Int32} {p1 : Int32} {p2 : Int32} {p3 : Int32} {p4 : Int32} {p5 : Int32} (hl : l.stackTraces = false) (h : f_FC_deed p0 p1 p2 p3 p4 p5 σ = some res) (hφ2 : ph σ.2.2 ≤ BB) : CxI l g yX11_deed (.code yX11_deed cX11_deed 7 (some .int)) 13 304 ad ta Rr σ [.ref (ad 0), .int p0, .int p1, .int p2, .int p3, .int p4, .int p5] res := by
  refine CtX.of rfl (by decide) (Nat.le_of_ble_eq_true rfl) ?_
  intro p e s m args below meth c A C hr hex
  have hφ : ph σ.2.2 ≤ ph σ.2.2 := Nat.le_refl _
  refine nw_zero (ph σ.2.2) ?_
  show NX g p l e s m args below meth c A 13 304 7 ad Rr (ph σ.2.2) res ta σ [(0, .ref (ad 0)), (1, .int p0), (2, .int p1), (3, .int p2), (4, .int p3), (5, .int p4), (6, .int p5)] 0 []
  unfold f_FC_deed at h
  refine nw_aload_n C dX11_deed_0 rfl 0 rfl ?_
  refine nw_get (v := .ref (ad 5)) C in_X11 0 cl_FC rfl 4 (by decide) tw_514 rfl rfl dX11_deed_1 ?_
  refine nw_get (v := .ref (ad 17)) C in_X5 5 cl_People rfl 0 (by decide) tw_314 rfl rfl dX11_deed_4 ?_
  refine nw_iload_n C dX11_deed_7 rfl 1 rfl ?_
  refine nx_callVI (q0 := 17) (As := [.int p0]) (rest := []) C h (fun _ _ e => c_Table_has 6 (by decide) e hφ2) tw_990 kv_X9_has (cl_T 6 (by decide)) rfl ⟨Nat.le_of_ble_eq_true rfl, Nat.le_of_ble_eq_true rfl⟩ rfl dX11_deed_8 rfl (Nat.le_of_ble_eq_true rfl) hφ hφ2 (fun r8 σ8 ta h hφ hφ2 => ?_)
  refine nx_check C hex (by decide) (fun _ => ct_checkIndex hl) (fun _ hb => cr_checkIndex hb) tw_991 ks_X11_checkIndex ⟨Nat.le_of_ble_eq_true rfl, Nat.le_of_ble_eq_true rfl⟩ dX11_deed_11 (Nat.le_of_ble_eq_true rfl) hφ hφ2 h (fun _ h => ?_)
  refine nw_iload_n C dX11_deed_14 rfl 2 rfl ?_
  refine nx_callSI  (As := [.int p1]) (rest := []) C h (fun _ _ e => c_FC_isAct e hφ2) tw_1316 ks_X11_isAct ⟨Nat.le_of_ble_eq_true rfl, Nat.le_of_ble_eq_true rfl⟩ rfl dX11_deed_15 rfl (Nat.le_of_ble_eq_true rfl) hφ hφ2 (fun r15 σ15 ta h hφ hφ2 => ?_)
  refine nw_if_eq (tgt := 62) C dX11_deed_18 (by decide) h (fun _ h => ?_) (fun _ h => ?_)
  · exact nw_lv (lv' := [(0, .ref (ad 0)), (1, .int p0), (2, .int p1), (3, .int p2), (4, .int p3), (5, .int p4), (6, .int p5)]) [0, 1, 2, 3, 4, 5, 6] rfl (w_FC_deed_62 C hr hl hex p0 p1 p2 p3 p4 p5 _ _ hφ hφ2 h)
  · refine nw_iload_n C dX11_deed_21 rfl 3 rfl ?_
    refine nw_iload C dX11_deed_22 4 rfl ?_
    refine nx_callSI  (As := [.int p2, .int p3]) (rest := []) C h (fun _ _ e => c_FC_isPlace e hφ2) tw_919 ks_X11_isPlace ⟨Nat.le_of_ble_eq_true rfl, Nat.le_of_ble_eq_true rfl⟩ rfl dX11_deed_24 rfl (Nat.le_of_ble_eq_true rfl) hφ hφ2 (fun r24 σ24 ta h hφ hφ2 => ?_)
    refine nw_if_eq (tgt := 62) C dX11_deed_27 (by decide) h (fun _ h => ?_) (fun _ h => ?_)
    · exact nw_lv (lv' := [(0, .ref (ad 0)), (1, .int p0), (2, .int p1), (3, .int p2), (4, .int p3), (5, .int p4), (6, .int p5)]) [0, 1, 2, 3, 4, 5, 6] rfl (w_FC_deed_62 C hr hl hex p0 p1 p2 p3 p4 p5 _ _ hφ hφ2 h)
    · refine nw_iload C dX11_deed_30 5 rfl ?_
      refine nw_iconst (v := 0) C dX11_deed_32 (by decide) ?_
      refine nw_aload_n C dX11_deed_33 rfl 0 rfl ?_
      refine nw_get (v := .ref (ad 7)) C in_X11 0 cl_FC rfl 6 (by decide) tw_516 rfl rfl dX11_deed_34 ?_
      refine nw_getN (v := .int (σ24.1 62)) C in_X1 7 cl_Courts rfl 11 (by decide) tw_390 rfl rfl dX11_deed_37 ?_
      refine nx_callSI  (As := [.int p4, .int 0, .int (σ24.1 62)]) (rest := []) C h (fun _ _ e => c_FC_within e hφ2) tw_675 ks_X11_within ⟨Nat.le_of_ble_eq_true rfl, Nat.le_of_ble_eq_true rfl⟩ rfl dX11_deed_40 rfl (Nat.le_of_ble_eq_true rfl) hφ hφ2 (fun r40 σ40 ta h hφ hφ2 => ?_)
      refine nw_if_eq (tgt := 62) C dX11_deed_43 (by decide) h (fun _ h => ?_) (fun _ h => ?_)
      · exact nw_lv (lv' := [(0, .ref (ad 0)), (1, .int p0), (2, .int p1), (3, .int p2), (4, .int p3), (5, .int p4), (6, .int p5)]) [0, 1, 2, 3, 4, 5, 6] rfl (w_FC_deed_62 C hr hl hex p0 p1 p2 p3 p4 p5 _ _ hφ hφ2 h)
      · refine nw_iload C dX11_deed_46 6 rfl ?_
        refine nw_iconst (v := 1) C dX11_deed_48 (by decide) ?_
        refine nw_sipush (v := 1000) C dX11_deed_49 (by decide) ?_
        refine nx_callSI  (As := [.int p5, .int 1, .int 1000]) (rest := []) C h (fun _ _ e => c_FC_within e hφ2) tw_675 ks_X11_within ⟨Nat.le_of_ble_eq_true rfl, Nat.le_of_ble_eq_true rfl⟩ rfl dX11_deed_52 rfl (Nat.le_of_ble_eq_true rfl) hφ hφ2 (fun r52 σ52 ta h hφ hφ2 => ?_)
        refine nw_if_eq (tgt := 62) C dX11_deed_55 (by decide) h (fun _ h => ?_) (fun _ h => ?_)
        · exact nw_lv (lv' := [(0, .ref (ad 0)), (1, .int p0), (2, .int p1), (3, .int p2), (4, .int p3), (5, .int p4), (6, .int p5)]) [0, 1, 2, 3, 4, 5, 6] rfl (w_FC_deed_62 C hr hl hex p0 p1 p2 p3 p4 p5 _ _ hφ hφ2 h)
        · refine nw_iconst (v := 1) C dX11_deed_58 (by decide) ?_
          refine nw_goto (tgt := 63) C dX11_deed_59 (by decide) ?_
          exact nw_lv (lv' := [(0, .ref (ad 0)), (1, .int p0), (2, .int p1), (3, .int p2), (4, .int p3), (5, .int p4), (6, .int p5)]) [0, 1, 2, 3, 4, 5, 6] rfl (w_FC_deed_63 C hr hl hex p0 p1 p2 p3 p4 p5 1 _ _ hφ hφ2 h)
theorem dX11_barred_0 : decode cX11_barred 0 = .ok (.aload_n 0, 1) := by decide +kernel
theorem dX11_barred_1 : decode cX11_barred 1 = .ok (.getfield 64, 3) := by decide +kernel
theorem dX11_barred_4 : decode cX11_barred 4 = .ok (.getfield 223, 3) := by decide +kernel
theorem dX11_barred_7 : decode cX11_barred 7 = .ok (.iload_n 1, 1) := by decide +kernel
theorem dX11_barred_8 : decode cX11_barred 8 = .ok (.invokevirtual 148, 3) := by decide +kernel
theorem dX11_barred_11 : decode cX11_barred 11 = .ok (.invokestatic 151, 3) := by decide +kernel
theorem dX11_barred_14 : decode cX11_barred 14 = .ok (.aload_n 0, 1) := by decide +kernel
theorem dX11_barred_15 : decode cX11_barred 15 = .ok (.getfield 64, 3) := by decide +kernel
theorem dX11_barred_18 : decode cX11_barred 18 = .ok (.iload_n 1, 1) := by decide +kernel
theorem dX11_barred_19 : decode cX11_barred 19 = .ok (.invokevirtual 226, 3) := by decide +kernel
theorem dX11_barred_22 : decode cX11_barred 22 = .ok (.ireturn, 1) := by decide +kernel
def f_FC_barred (p0 : Int32) (σ : CS) : Option ((Int32 × Int32) × CS) := bnd (f_Table_has 10 p0 σ) (fun r8 σ8 => if r8 = 0 then some ((3, 0), σ8) else (bnd (f_Courts_isBarred p0 σ8) (fun r19 σ19 => grd (r19 = 0 ∨ r19 = 1) (some ((0, r19), σ19)))))
set_option maxHeartbeats 4000000 in
set_option maxRecDepth 100000 in
theorem c_FC_barred {l : Launch} {g : EG} {ad ta : Nat → Nat} {Rr : va_W} {σ : CS} {res : (Int32 × Int32) × CS} {p0 : Int32} (hl : l.stackTraces = false) (h : f_FC_barred p0 σ = some res) (hφ2 : ph σ.2.2 ≤ BB) : CxI l g yX11_barred (.code yX11_barred cX11_barred 2 (some .boolean)) 13 304 ad ta Rr σ [.ref (ad 0), .int p0] res := by
  refine CtX.of rfl (by decide) (Nat.le_of_ble_eq_true rfl) ?_
  intro p e s m args below meth c A C hr hex
  have hφ : ph σ.2.2 ≤ ph σ.2.2 := Nat.le_refl _
  refine nw_zero (ph σ.2.2) ?_
  show NX g p l e s m args below meth c A 13 304 2 ad Rr (ph σ.2.2) res ta σ [(0, .ref (ad 0)), (1, .int p0)] 0 []
  unfold f_FC_barred at h
  refine nw_aload_n C dX11_barred_0 rfl 0 rfl ?_
  refine nw_get (v := .ref (ad 7)) C in_X11 0 cl_FC rfl 6 (by decide) tw_516 rfl rfl dX11_barred_1 ?_
  refine nw_get (v := .ref (ad 21)) C in_X1 7 cl_Courts rfl 1 (by decide) tw_379 rfl rfl dX11_barred_4 ?_
  refine nw_iload_n C dX11_barred_7 rfl 1 rfl ?_
  refine nx_callVI (q0 := 21) (As := [.int p0]) (rest := []) C h (fun _ _ e => c_Table_has 10 (by decide) e hφ2) tw_990 kv_X9_has (cl_T 10 (by decide)) rfl ⟨Nat.le_of_ble_eq_true rfl, Nat.le_of_ble_eq_true rfl⟩ rfl dX11_barred_8 rfl (Nat.le_of_ble_eq_true rfl) hφ hφ2 (fun r8 σ8 ta h hφ hφ2 => ?_)
  refine nx_check C hex (by decide) (fun _ => ct_checkIndex hl) (fun _ hb => cr_checkIndex hb) tw_991 ks_X11_checkIndex ⟨Nat.le_of_ble_eq_true rfl, Nat.le_of_ble_eq_true rfl⟩ dX11_barred_11 (Nat.le_of_ble_eq_true rfl) hφ hφ2 h (fun _ h => ?_)
  refine nw_aload_n C dX11_barred_14 rfl 0 rfl ?_
  refine nw_get (v := .ref (ad 7)) C in_X11 0 cl_FC rfl 6 (by decide) tw_516 rfl rfl dX11_barred_15 ?_
  refine nw_iload_n C dX11_barred_18 rfl 1 rfl ?_
  refine nx_callVI (q0 := 7) (As := [.int p0]) (rest := []) C h (fun _ _ e => c_Courts_isBarred e hφ2) tw_1330 kv_X1_isBarred cl_Courts rfl ⟨Nat.le_of_ble_eq_true rfl, Nat.le_of_ble_eq_true rfl⟩ rfl dX11_barred_19 rfl (Nat.le_of_ble_eq_true rfl) hφ hφ2 (fun r19 σ19 ta h hφ hφ2 => ?_)
  exact nx_zretg C hr dX11_barred_22 hφ hφ2 h
theorem dX11_why_0 : decode cX11_why 0 = .ok (.aload_n 0, 1) := by decide +kernel
theorem dX11_why_1 : decode cX11_why 1 = .ok (.getfield 64, 3) := by decide +kernel
theorem dX11_why_4 : decode cX11_why 4 = .ok (.getfield 223, 3) := by decide +kernel
theorem dX11_why_7 : decode cX11_why 7 = .ok (.iload_n 1, 1) := by decide +kernel
theorem dX11_why_8 : decode cX11_why 8 = .ok (.invokevirtual 148, 3) := by decide +kernel
theorem dX11_why_11 : decode cX11_why 11 = .ok (.invokestatic 151, 3) := by decide +kernel
theorem dX11_why_14 : decode cX11_why 14 = .ok (.aload_n 0, 1) := by decide +kernel
theorem dX11_why_15 : decode cX11_why 15 = .ok (.getfield 64, 3) := by decide +kernel
theorem dX11_why_18 : decode cX11_why 18 = .ok (.iload_n 1, 1) := by decide +kernel
theorem dX11_why_19 : decode cX11_why 19 = .ok (.invokevirtual 229, 3) := by decide +kernel
theorem dX11_why_22 : decode cX11_why 22 = .ok (.aload_n 0, 1) := by decide +kernel
theorem dX11_why_23 : decode cX11_why 23 = .ok (.getfield 39, 3) := by decide +kernel
theorem dX11_why_26 : decode cX11_why 26 = .ok (.invokevirtual 232, 3) := by decide +kernel
theorem dX11_why_29 : decode cX11_why 29 = .ok (.ireturn, 1) := by decide +kernel
def f_FC_why (p0 : Int32) (σ : CS) : Option ((Int32 × Int32) × CS) := bnd (f_Table_has 10 p0 σ) (fun r8 σ8 => if r8 = 0 then some ((3, 0), σ8) else (bnd (f_Courts_hearLaws p0 σ8) (fun _ σ19 => bnd (f_Laws_wordNumber σ19) (fun r26 σ26 => some ((0, r26), σ26)))))
set_option maxHeartbeats 4000000 in
set_option maxRecDepth 100000 in
theorem c_FC_why {l : Launch} {g : EG} {ad ta : Nat → Nat} {Rr : va_W} {σ : CS} {res : (Int32 × Int32) × CS} {p0 : Int32} (hl : l.stackTraces = false) (h : f_FC_why p0 σ = some res) (hφ2 : ph σ.2.2 ≤ BB) : CxI l g yX11_why (.code yX11_why cX11_why 2 (some .int)) 13 304 ad ta Rr σ [.ref (ad 0), .int p0] res := by
  refine CtX.of rfl (by decide) (Nat.le_of_ble_eq_true rfl) ?_
  intro p e s m args below meth c A C hr hex
  have hφ : ph σ.2.2 ≤ ph σ.2.2 := Nat.le_refl _
  refine nw_zero (ph σ.2.2) ?_
  show NX g p l e s m args below meth c A 13 304 2 ad Rr (ph σ.2.2) res ta σ [(0, .ref (ad 0)), (1, .int p0)] 0 []
  unfold f_FC_why at h
  refine nw_aload_n C dX11_why_0 rfl 0 rfl ?_
  refine nw_get (v := .ref (ad 7)) C in_X11 0 cl_FC rfl 6 (by decide) tw_516 rfl rfl dX11_why_1 ?_
  refine nw_get (v := .ref (ad 21)) C in_X1 7 cl_Courts rfl 1 (by decide) tw_379 rfl rfl dX11_why_4 ?_
  refine nw_iload_n C dX11_why_7 rfl 1 rfl ?_
  refine nx_callVI (q0 := 21) (As := [.int p0]) (rest := []) C h (fun _ _ e => c_Table_has 10 (by decide) e hφ2) tw_990 kv_X9_has (cl_T 10 (by decide)) rfl ⟨Nat.le_of_ble_eq_true rfl, Nat.le_of_ble_eq_true rfl⟩ rfl dX11_why_8 rfl (Nat.le_of_ble_eq_true rfl) hφ hφ2 (fun r8 σ8 ta h hφ hφ2 => ?_)
  refine nx_check C hex (by decide) (fun _ => ct_checkIndex hl) (fun _ hb => cr_checkIndex hb) tw_991 ks_X11_checkIndex ⟨Nat.le_of_ble_eq_true rfl, Nat.le_of_ble_eq_true rfl⟩ dX11_why_11 (Nat.le_of_ble_eq_true rfl) hφ hφ2 h (fun _ h => ?_)
  refine nw_aload_n C dX11_why_14 rfl 0 rfl ?_
  refine nw_get (v := .ref (ad 7)) C in_X11 0 cl_FC rfl 6 (by decide) tw_516 rfl rfl dX11_why_15 ?_
  refine nw_iload_n C dX11_why_18 rfl 1 rfl ?_
  refine nx_callVV (q0 := 7) (As := [.int p0]) (rest := []) C h (fun _ _ e => c_Courts_hearLaws e hφ2) tw_1369 kv_X1_hearLaws cl_Courts rfl ⟨Nat.le_of_ble_eq_true rfl, Nat.le_of_ble_eq_true rfl⟩ rfl dX11_why_19 rfl (Nat.le_of_ble_eq_true rfl) hφ hφ2 (fun r19 σ19 ta h hφ hφ2 => ?_)
  refine nw_aload_n C dX11_why_22 rfl 0 rfl ?_
  refine nw_get (v := .ref (ad 3)) C in_X11 0 cl_FC rfl 3 (by decide) tw_513 rfl rfl dX11_why_23 ?_
  refine nx_callVI (q0 := 3) (As := []) (rest := []) C h (fun _ _ e => c_Laws_wordNumber e hφ2) tw_1370 kv_X3_wordNumber cl_Laws rfl ⟨Nat.le_of_ble_eq_true rfl, Nat.le_of_ble_eq_true rfl⟩ rfl dX11_why_26 rfl (Nat.le_of_ble_eq_true rfl) hφ hφ2 (fun r26 σ26 ta h hφ hφ2 => ?_)
  exact nx_iret C hr dX11_why_29 hφ hφ2 h
theorem dX11_fine_0 : decode cX11_fine 0 = .ok (.aload_n 0, 1) := by decide +kernel
theorem dX11_fine_1 : decode cX11_fine 1 = .ok (.getfield 64, 3) := by decide +kernel
theorem dX11_fine_4 : decode cX11_fine 4 = .ok (.getfield 223, 3) := by decide +kernel
theorem dX11_fine_7 : decode cX11_fine 7 = .ok (.iload_n 1, 1) := by decide +kernel
theorem dX11_fine_8 : decode cX11_fine 8 = .ok (.invokevirtual 148, 3) := by decide +kernel
theorem dX11_fine_11 : decode cX11_fine 11 = .ok (.invokestatic 151, 3) := by decide +kernel
theorem dX11_fine_14 : decode cX11_fine 14 = .ok (.aload_n 0, 1) := by decide +kernel
theorem dX11_fine_15 : decode cX11_fine 15 = .ok (.getfield 64, 3) := by decide +kernel
theorem dX11_fine_18 : decode cX11_fine 18 = .ok (.iload_n 1, 1) := by decide +kernel
theorem dX11_fine_19 : decode cX11_fine 19 = .ok (.invokevirtual 235, 3) := by decide +kernel
theorem dX11_fine_22 : decode cX11_fine 22 = .ok (.ireturn, 1) := by decide +kernel
def f_FC_fine (p0 : Int32) (σ : CS) : Option ((Int32 × Int32) × CS) := bnd (f_Table_has 10 p0 σ) (fun r8 σ8 => if r8 = 0 then some ((3, 0), σ8) else (bnd (f_Courts_fineOf p0 σ8) (fun r19 σ19 => some ((0, r19), σ19))))
set_option maxHeartbeats 4000000 in
set_option maxRecDepth 100000 in
theorem c_FC_fine {l : Launch} {g : EG} {ad ta : Nat → Nat} {Rr : va_W} {σ : CS} {res : (Int32 × Int32) × CS} {p0 : Int32} (hl : l.stackTraces = false) (h : f_FC_fine p0 σ = some res) (hφ2 : ph σ.2.2 ≤ BB) : CxI l g yX11_fine (.code yX11_fine cX11_fine 2 (some .int)) 13 304 ad ta Rr σ [.ref (ad 0), .int p0] res := by
  refine CtX.of rfl (by decide) (Nat.le_of_ble_eq_true rfl) ?_
  intro p e s m args below meth c A C hr hex
  have hφ : ph σ.2.2 ≤ ph σ.2.2 := Nat.le_refl _
  refine nw_zero (ph σ.2.2) ?_
  show NX g p l e s m args below meth c A 13 304 2 ad Rr (ph σ.2.2) res ta σ [(0, .ref (ad 0)), (1, .int p0)] 0 []
  unfold f_FC_fine at h
  refine nw_aload_n C dX11_fine_0 rfl 0 rfl ?_
  refine nw_get (v := .ref (ad 7)) C in_X11 0 cl_FC rfl 6 (by decide) tw_516 rfl rfl dX11_fine_1 ?_
  refine nw_get (v := .ref (ad 21)) C in_X1 7 cl_Courts rfl 1 (by decide) tw_379 rfl rfl dX11_fine_4 ?_
  refine nw_iload_n C dX11_fine_7 rfl 1 rfl ?_
  refine nx_callVI (q0 := 21) (As := [.int p0]) (rest := []) C h (fun _ _ e => c_Table_has 10 (by decide) e hφ2) tw_990 kv_X9_has (cl_T 10 (by decide)) rfl ⟨Nat.le_of_ble_eq_true rfl, Nat.le_of_ble_eq_true rfl⟩ rfl dX11_fine_8 rfl (Nat.le_of_ble_eq_true rfl) hφ hφ2 (fun r8 σ8 ta h hφ hφ2 => ?_)
  refine nx_check C hex (by decide) (fun _ => ct_checkIndex hl) (fun _ hb => cr_checkIndex hb) tw_991 ks_X11_checkIndex ⟨Nat.le_of_ble_eq_true rfl, Nat.le_of_ble_eq_true rfl⟩ dX11_fine_11 (Nat.le_of_ble_eq_true rfl) hφ hφ2 h (fun _ h => ?_)
  refine nw_aload_n C dX11_fine_14 rfl 0 rfl ?_
  refine nw_get (v := .ref (ad 7)) C in_X11 0 cl_FC rfl 6 (by decide) tw_516 rfl rfl dX11_fine_15 ?_
  refine nw_iload_n C dX11_fine_18 rfl 1 rfl ?_
  refine nx_callVI (q0 := 7) (As := [.int p0]) (rest := []) C h (fun _ _ e => c_Courts_fineOf e hφ2) tw_1381 kv_X1_fineOf cl_Courts rfl ⟨Nat.le_of_ble_eq_true rfl, Nat.le_of_ble_eq_true rfl⟩ rfl dX11_fine_19 rfl (Nat.le_of_ble_eq_true rfl) hφ hφ2 (fun r19 σ19 ta h hφ hφ2 => ?_)
  exact nx_iret C hr dX11_fine_22 hφ hφ2 h
theorem dX11_present_0 : decode cX11_present 0 = .ok (.aload_n 0, 1) := by decide +kernel
theorem dX11_present_1 : decode cX11_present 1 = .ok (.getfield 64, 3) := by decide +kernel
theorem dX11_present_4 : decode cX11_present 4 = .ok (.getfield 223, 3) := by decide +kernel
theorem dX11_present_7 : decode cX11_present 7 = .ok (.iload_n 1, 1) := by decide +kernel
theorem dX11_present_8 : decode cX11_present 8 = .ok (.invokevirtual 148, 3) := by decide +kernel
theorem dX11_present_11 : decode cX11_present 11 = .ok (.ifCond .eq 21, 3) := by decide +kernel
theorem dX11_present_14 : decode cX11_present 14 = .ok (.aload_n 0, 1) := by decide +kernel
theorem dX11_present_15 : decode cX11_present 15 = .ok (.getfield 64, 3) := by decide +kernel
theorem dX11_present_18 : decode cX11_present 18 = .ok (.getfield 77, 3) := by decide +kernel
theorem dX11_present_21 : decode cX11_present 21 = .ok (.iload_n 2, 1) := by decide +kernel
theorem dX11_present_22 : decode cX11_present 22 = .ok (.invokevirtual 148, 3) := by decide +kernel
theorem dX11_present_25 : decode cX11_present 25 = .ok (.ifCond .eq 7, 3) := by decide +kernel
theorem dX11_present_28 : decode cX11_present 28 = .ok (.iconst 1, 1) := by decide +kernel
theorem dX11_present_29 : decode cX11_present 29 = .ok (.goto 4, 3) := by decide +kernel
theorem dX11_present_32 : decode cX11_present 32 = .ok (.iconst 0, 1) := by decide +kernel
theorem dX11_present_33 : decode cX11_present 33 = .ok (.invokestatic 151, 3) := by decide +kernel
theorem dX11_present_36 : decode cX11_present 36 = .ok (.aload_n 0, 1) := by decide +kernel
theorem dX11_present_37 : decode cX11_present 37 = .ok (.getfield 46, 3) := by decide +kernel
theorem dX11_present_40 : decode cX11_present 40 = .ok (.getfield 194, 3) := by decide +kernel
theorem dX11_present_43 : decode cX11_present 43 = .ok (.iload_n 3, 1) := by decide +kernel
theorem dX11_present_44 : decode cX11_present 44 = .ok (.invokevirtual 148, 3) := by decide +kernel
theorem dX11_present_47 : decode cX11_present 47 = .ok (.ifCond .eq 22, 3) := by decide +kernel
theorem dX11_present_50 : decode cX11_present 50 = .ok (.aload_n 0, 1) := by decide +kernel
theorem dX11_present_51 : decode cX11_present 51 = .ok (.getfield 46, 3) := by decide +kernel
theorem dX11_present_54 : decode cX11_present 54 = .ok (.getfield 194, 3) := by decide +kernel
theorem dX11_present_57 : decode cX11_present 57 = .ok (.iload 4, 2) := by decide +kernel
theorem dX11_present_59 : decode cX11_present 59 = .ok (.invokevirtual 148, 3) := by decide +kernel
theorem dX11_present_62 : decode cX11_present 62 = .ok (.ifCond .eq 7, 3) := by decide +kernel
theorem dX11_present_65 : decode cX11_present 65 = .ok (.iconst 1, 1) := by decide +kernel
theorem dX11_present_66 : decode cX11_present 66 = .ok (.goto 4, 3) := by decide +kernel
theorem dX11_present_69 : decode cX11_present 69 = .ok (.iconst 0, 1) := by decide +kernel
theorem dX11_present_70 : decode cX11_present 70 = .ok (.invokestatic 151, 3) := by decide +kernel
theorem dX11_present_73 : decode cX11_present 73 = .ok (.aload_n 0, 1) := by decide +kernel
theorem dX11_present_74 : decode cX11_present 74 = .ok (.getfield 64, 3) := by decide +kernel
theorem dX11_present_77 : decode cX11_present 77 = .ok (.iload_n 1, 1) := by decide +kernel
theorem dX11_present_78 : decode cX11_present 78 = .ok (.iload_n 2, 1) := by decide +kernel
theorem dX11_present_79 : decode cX11_present 79 = .ok (.iload_n 3, 1) := by decide +kernel
theorem dX11_present_80 : decode cX11_present 80 = .ok (.iload 4, 2) := by decide +kernel
theorem dX11_present_82 : decode cX11_present 82 = .ok (.invokevirtual 238, 3) := by decide +kernel
theorem dX11_present_85 : decode cX11_present 85 = .ok (.ireturn, 1) := by decide +kernel
def B_FC_present_70   (x1 : Int32) (x2 : Int32) (x3 : Int32) (x4 : Int32) (z0 : Int32) (σ : CS) : Option ((Int32 × Int32) × CS) := if z0 = 0 then some ((3, 0), σ) else (bnd (f_Courts_addPresentment x1 x2 x3 x4 σ) (fun r82 σ82 => some ((0, r82), σ82)))
set_option maxHeartbeats 4000000 in
set_option maxRecDepth 100000 in
theorem w_FC_present_70 (C : Cx g p s m args meth c A 5 cX11_present yX11_present.cls) (hr : meth.sig.returnType = (some .int)) (hl : l.stackTraces = false) (hex : ∀ x ∈ c.exceptionTable.toList, False) {res : (Int32 × Int32) × CS}   (x1 : Int32) (x2 : Int32) (x3 : Int32) (x4 : Int32) (z0 : Int32)  (σ : CS) (ta : Nat → Nat) (hφ : φ0 ≤ ph σ.2.2) (hφ2 : ph σ.2.2 ≤ BB) (h : B_FC_present_70 x1 x2 x3 x4 z0 σ = some res) : NX g p l e s m args below meth c A 13 304 5 ad Rr φ0 res ta σ [(0, .ref (ad 0)), (1, .int x1), (2, .int x2), (3, .int x3), (4, .int x4)] 70 [.int z0] := by
  unfold B_FC_present_70 at h
  refine nx_check C hex (by decide) (fun _ => ct_checkIndex hl) (fun _ hb => cr_checkIndex hb) tw_991 ks_X11_checkIndex ⟨Nat.le_of_ble_eq_true rfl, Nat.le_of_ble_eq_true rfl⟩ dX11_present_70 (Nat.le_of_ble_eq_true rfl) hφ hφ2 h (fun _ h => ?_)
  refine nw_aload_n C dX11_present_73 rfl 0 rfl ?_
  refine nw_get (v := .ref (ad 7)) C in_X11 0 cl_FC rfl 6 (by decide) tw_516 rfl rfl dX11_present_74 ?_
  refine nw_iload_n C dX11_present_77 rfl 1 rfl ?_
  refine nw_iload_n C dX11_present_78 rfl 2 rfl ?_
  refine nw_iload_n C dX11_present_79 rfl 3 rfl ?_
  refine nw_iload C dX11_present_80 4 rfl ?_
  refine nx_callVI (q0 := 7) (As := [.int x1, .int x2, .int x3, .int x4]) (rest := []) C h (fun _ _ e => c_Courts_addPresentment e hφ2) tw_1389 kv_X1_addPresentment cl_Courts rfl ⟨Nat.le_of_ble_eq_true rfl, Nat.le_of_ble_eq_true rfl⟩ rfl dX11_present_82 rfl (Nat.le_of_ble_eq_true rfl) hφ hφ2 (fun r82 σ82 ta h hφ hφ2 => ?_)
  exact nx_iret C hr dX11_present_85 hφ hφ2 h
def B_FC_present_69   (x1 : Int32) (x2 : Int32) (x3 : Int32) (x4 : Int32) (σ : CS) : Option ((Int32 × Int32) × CS) := B_FC_present_70 x1 x2 x3 x4 0 σ
set_option maxHeartbeats 4000000 in
set_option maxRecDepth 100000 in
theorem w_FC_present_69 (C : Cx g p s m args meth c A 5 cX11_present yX11_present.cls) (hr : meth.sig.returnType = (some .int)) (hl : l.stackTraces = false) (hex : ∀ x ∈ c.exceptionTable.toList, False) {res : (Int32 × Int32) × CS}   (x1 : Int32) (x2 : Int32) (x3 : Int32) (x4 : Int32)  (σ : CS) (ta : Nat → Nat) (hφ : φ0 ≤ ph σ.2.2) (hφ2 : ph σ.2.2 ≤ BB) (h : B_FC_present_69 x1 x2 x3 x4 σ = some res) : NX g p l e s m args below meth c A 13 304 5 ad Rr φ0 res ta σ [(0, .ref (ad 0)), (1, .int x1), (2, .int x2), (3, .int x3), (4, .int x4)] 69 [] := by
  unfold B_FC_present_69 at h
  refine nw_iconst (v := 0) C dX11_present_69 (by decide) ?_
  exact nw_lv (lv' := [(0, .ref (ad 0)), (1, .int x1), (2, .int x2), (3, .int x3), (4, .int x4)]) [0, 1, 2, 3, 4] rfl (w_FC_present_70 C hr hl hex x1 x2 x3 x4 0 _ _ hφ hφ2 h)
def B_FC_present_33   (x1 : Int32) (x2 : Int32) (x3 : Int32) (x4 : Int32) (z0 : Int32) (σ : CS) : Option ((Int32 × Int32) × CS) := if z0 = 0 then some ((3, 0), σ) else (bnd (f_Table_has 6 x3 σ) (fun r44 σ44 => if r44 = 0 then B_FC_present_69 x1 x2 x3 x4 σ44 else bnd (f_Table_has 6 x4 σ44) (fun r59 σ59 => if r59 = 0 then B_FC_present_69 x1 x2 x3 x4 σ59 else B_FC_present_70 x1 x2 x3 x4 1 σ59)))
set_option maxHeartbeats 4000000 in
set_option maxRecDepth 100000 in
theorem w_FC_present_33 (C : Cx g p s m args meth c A 5 cX11_present yX11_present.cls) (hr : meth.sig.returnType = (some .int)) (hl : l.stackTraces = false) (hex : ∀ x ∈ c.exceptionTable.toList, False) {res : (Int32 × Int32) × CS}   (x1 : Int32) (x2 : Int32) (x3 : Int32) (x4 : Int32) (z0 : Int32)  (σ : CS) (ta : Nat → Nat) (hφ : φ0 ≤ ph σ.2.2) (hφ2 : ph σ.2.2 ≤ BB) (h : B_FC_present_33 x1 x2 x3 x4 z0 σ = some res) : NX g p l e s m args below meth c A 13 304 5 ad Rr φ0 res ta σ [(0, .ref (ad 0)), (1, .int x1), (2, .int x2), (3, .int x3), (4, .int x4)] 33 [.int z0] := by
  unfold B_FC_present_33 at h
  refine nx_check C hex (by decide) (fun _ => ct_checkIndex hl) (fun _ hb => cr_checkIndex hb) tw_991 ks_X11_checkIndex ⟨Nat.le_of_ble_eq_true rfl, Nat.le_of_ble_eq_true rfl⟩ dX11_present_33 (Nat.le_of_ble_eq_true rfl) hφ hφ2 h (fun _ h => ?_)
  refine nw_aload_n C dX11_present_36 rfl 0 rfl ?_
  refine nw_get (v := .ref (ad 5)) C in_X11 0 cl_FC rfl 4 (by decide) tw_514 rfl rfl dX11_present_37 ?_
  refine nw_get (v := .ref (ad 17)) C in_X5 5 cl_People rfl 0 (by decide) tw_314 rfl rfl dX11_present_40 ?_
  refine nw_iload_n C dX11_present_43 rfl 3 rfl ?_
  refine nx_callVI (q0 := 17) (As := [.int x3]) (rest := []) C h (fun _ _ e => c_Table_has 6 (by decide) e hφ2) tw_990 kv_X9_has (cl_T 6 (by decide)) rfl ⟨Nat.le_of_ble_eq_true rfl, Nat.le_of_ble_eq_true rfl⟩ rfl dX11_present_44 rfl (Nat.le_of_ble_eq_true rfl) hφ hφ2 (fun r44 σ44 ta h hφ hφ2 => ?_)
  refine nw_if_eq (tgt := 69) C dX11_present_47 (by decide) h (fun _ h => ?_) (fun _ h => ?_)
  · exact nw_lv (lv' := [(0, .ref (ad 0)), (1, .int x1), (2, .int x2), (3, .int x3), (4, .int x4)]) [0, 1, 2, 3, 4] rfl (w_FC_present_69 C hr hl hex x1 x2 x3 x4 _ _ hφ hφ2 h)
  · refine nw_aload_n C dX11_present_50 rfl 0 rfl ?_
    refine nw_get (v := .ref (ad 5)) C in_X11 0 cl_FC rfl 4 (by decide) tw_514 rfl rfl dX11_present_51 ?_
    refine nw_get (v := .ref (ad 17)) C in_X5 5 cl_People rfl 0 (by decide) tw_314 rfl rfl dX11_present_54 ?_
    refine nw_iload C dX11_present_57 4 rfl ?_
    refine nx_callVI (q0 := 17) (As := [.int x4]) (rest := []) C h (fun _ _ e => c_Table_has 6 (by decide) e hφ2) tw_990 kv_X9_has (cl_T 6 (by decide)) rfl ⟨Nat.le_of_ble_eq_true rfl, Nat.le_of_ble_eq_true rfl⟩ rfl dX11_present_59 rfl (Nat.le_of_ble_eq_true rfl) hφ hφ2 (fun r59 σ59 ta h hφ hφ2 => ?_)
    refine nw_if_eq (tgt := 69) C dX11_present_62 (by decide) h (fun _ h => ?_) (fun _ h => ?_)
    · exact nw_lv (lv' := [(0, .ref (ad 0)), (1, .int x1), (2, .int x2), (3, .int x3), (4, .int x4)]) [0, 1, 2, 3, 4] rfl (w_FC_present_69 C hr hl hex x1 x2 x3 x4 _ _ hφ hφ2 h)
    · refine nw_iconst (v := 1) C dX11_present_65 (by decide) ?_
      refine nw_goto (tgt := 70) C dX11_present_66 (by decide) ?_
      exact nw_lv (lv' := [(0, .ref (ad 0)), (1, .int x1), (2, .int x2), (3, .int x3), (4, .int x4)]) [0, 1, 2, 3, 4] rfl (w_FC_present_70 C hr hl hex x1 x2 x3 x4 1 _ _ hφ hφ2 h)
def B_FC_present_32   (x1 : Int32) (x2 : Int32) (x3 : Int32) (x4 : Int32) (σ : CS) : Option ((Int32 × Int32) × CS) := B_FC_present_33 x1 x2 x3 x4 0 σ
set_option maxHeartbeats 4000000 in
set_option maxRecDepth 100000 in
theorem w_FC_present_32 (C : Cx g p s m args meth c A 5 cX11_present yX11_present.cls) (hr : meth.sig.returnType = (some .int)) (hl : l.stackTraces = false) (hex : ∀ x ∈ c.exceptionTable.toList, False) {res : (Int32 × Int32) × CS}   (x1 : Int32) (x2 : Int32) (x3 : Int32) (x4 : Int32)  (σ : CS) (ta : Nat → Nat) (hφ : φ0 ≤ ph σ.2.2) (hφ2 : ph σ.2.2 ≤ BB) (h : B_FC_present_32 x1 x2 x3 x4 σ = some res) : NX g p l e s m args below meth c A 13 304 5 ad Rr φ0 res ta σ [(0, .ref (ad 0)), (1, .int x1), (2, .int x2), (3, .int x3), (4, .int x4)] 32 [] := by
  unfold B_FC_present_32 at h
  refine nw_iconst (v := 0) C dX11_present_32 (by decide) ?_
  exact nw_lv (lv' := [(0, .ref (ad 0)), (1, .int x1), (2, .int x2), (3, .int x3), (4, .int x4)]) [0, 1, 2, 3, 4] rfl (w_FC_present_33 C hr hl hex x1 x2 x3 x4 0 _ _ hφ hφ2 h)
def f_FC_present (p0 : Int32) (p1 : Int32) (p2 : Int32) (p3 : Int32) (σ : CS) : Option ((Int32 × Int32) × CS) := bnd (f_Table_has 10 p0 σ) (fun r8 σ8 => if r8 = 0 then B_FC_present_32 p0 p1 p2 p3 σ8 else bnd (f_Table_has 9 p1 σ8) (fun r22 σ22 => if r22 = 0 then B_FC_present_32 p0 p1 p2 p3 σ22 else B_FC_present_33 p0 p1 p2 p3 1 σ22))
set_option maxHeartbeats 4000000 in
set_option maxRecDepth 100000 in
theorem c_FC_present {l : Launch} {g : EG} {ad ta : Nat → Nat} {Rr : va_W} {σ : CS} {res : (Int32 × Int32) × CS} {p0 : Int32} {p1 : Int32} {p2 : Int32} {p3 : Int32} (hl : l.stackTraces = false) (h : f_FC_present p0 p1 p2 p3 σ = some res) (hφ2 : ph σ.2.2 ≤ BB) : CxI l g yX11_present (.code yX11_present cX11_present 5 (some .int)) 13 304 ad ta Rr σ [.ref (ad 0), .int p0, .int p1, .int p2, .int p3] res := by
  refine CtX.of rfl (by decide) (Nat.le_of_ble_eq_true rfl) ?_
  intro p e s m args below meth c A C hr hex
  have hφ : ph σ.2.2 ≤ ph σ.2.2 := Nat.le_refl _
  refine nw_zero (ph σ.2.2) ?_
  show NX g p l e s m args below meth c A 13 304 5 ad Rr (ph σ.2.2) res ta σ [(0, .ref (ad 0)), (1, .int p0), (2, .int p1), (3, .int p2), (4, .int p3)] 0 []
  unfold f_FC_present at h
  refine nw_aload_n C dX11_present_0 rfl 0 rfl ?_
  refine nw_get (v := .ref (ad 7)) C in_X11 0 cl_FC rfl 6 (by decide) tw_516 rfl rfl dX11_present_1 ?_
  refine nw_get (v := .ref (ad 21)) C in_X1 7 cl_Courts rfl 1 (by decide) tw_379 rfl rfl dX11_present_4 ?_
  refine nw_iload_n C dX11_present_7 rfl 1 rfl ?_
  refine nx_callVI (q0 := 21) (As := [.int p0]) (rest := []) C h (fun _ _ e => c_Table_has 10 (by decide) e hφ2) tw_990 kv_X9_has (cl_T 10 (by decide)) rfl ⟨Nat.le_of_ble_eq_true rfl, Nat.le_of_ble_eq_true rfl⟩ rfl dX11_present_8 rfl (Nat.le_of_ble_eq_true rfl) hφ hφ2 (fun r8 σ8 ta h hφ hφ2 => ?_)
  refine nw_if_eq (tgt := 32) C dX11_present_11 (by decide) h (fun _ h => ?_) (fun _ h => ?_)
  · exact nw_lv (lv' := [(0, .ref (ad 0)), (1, .int p0), (2, .int p1), (3, .int p2), (4, .int p3)]) [0, 1, 2, 3, 4] rfl (w_FC_present_32 C hr hl hex p0 p1 p2 p3 _ _ hφ hφ2 h)
  · refine nw_aload_n C dX11_present_14 rfl 0 rfl ?_
    refine nw_get (v := .ref (ad 7)) C in_X11 0 cl_FC rfl 6 (by decide) tw_516 rfl rfl dX11_present_15 ?_
    refine nw_get (v := .ref (ad 20)) C in_X1 7 cl_Courts rfl 0 (by decide) tw_377 rfl rfl dX11_present_18 ?_
    refine nw_iload_n C dX11_present_21 rfl 2 rfl ?_
    refine nx_callVI (q0 := 20) (As := [.int p1]) (rest := []) C h (fun _ _ e => c_Table_has 9 (by decide) e hφ2) tw_990 kv_X9_has (cl_T 9 (by decide)) rfl ⟨Nat.le_of_ble_eq_true rfl, Nat.le_of_ble_eq_true rfl⟩ rfl dX11_present_22 rfl (Nat.le_of_ble_eq_true rfl) hφ hφ2 (fun r22 σ22 ta h hφ hφ2 => ?_)
    refine nw_if_eq (tgt := 32) C dX11_present_25 (by decide) h (fun _ h => ?_) (fun _ h => ?_)
    · exact nw_lv (lv' := [(0, .ref (ad 0)), (1, .int p0), (2, .int p1), (3, .int p2), (4, .int p3)]) [0, 1, 2, 3, 4] rfl (w_FC_present_32 C hr hl hex p0 p1 p2 p3 _ _ hφ hφ2 h)
    · refine nw_iconst (v := 1) C dX11_present_28 (by decide) ?_
      refine nw_goto (tgt := 33) C dX11_present_29 (by decide) ?_
      exact nw_lv (lv' := [(0, .ref (ad 0)), (1, .int p0), (2, .int p1), (3, .int p2), (4, .int p3)]) [0, 1, 2, 3, 4] rfl (w_FC_present_33 C hr hl hex p0 p1 p2 p3 1 _ _ hφ hφ2 h)
theorem dX11_proof_0 : decode cX11_proof 0 = .ok (.aload_n 0, 1) := by decide +kernel
theorem dX11_proof_1 : decode cX11_proof 1 = .ok (.getfield 64, 3) := by decide +kernel
theorem dX11_proof_4 : decode cX11_proof 4 = .ok (.getfield 242, 3) := by decide +kernel
theorem dX11_proof_7 : decode cX11_proof 7 = .ok (.iload_n 1, 1) := by decide +kernel
theorem dX11_proof_8 : decode cX11_proof 8 = .ok (.invokevirtual 148, 3) := by decide +kernel
theorem dX11_proof_11 : decode cX11_proof 11 = .ok (.invokestatic 151, 3) := by decide +kernel
theorem dX11_proof_14 : decode cX11_proof 14 = .ok (.iload_n 2, 1) := by decide +kernel
theorem dX11_proof_15 : decode cX11_proof 15 = .ok (.bipush (-9), 2) := by decide +kernel
theorem dX11_proof_17 : decode cX11_proof 17 = .ok (.bipush 9, 2) := by decide +kernel
theorem dX11_proof_19 : decode cX11_proof 19 = .ok (.invokestatic 92, 3) := by decide +kernel
theorem dX11_proof_22 : decode cX11_proof 22 = .ok (.invokestatic 96, 3) := by decide +kernel
theorem dX11_proof_25 : decode cX11_proof 25 = .ok (.aload_n 0, 1) := by decide +kernel
theorem dX11_proof_26 : decode cX11_proof 26 = .ok (.getfield 64, 3) := by decide +kernel
theorem dX11_proof_29 : decode cX11_proof 29 = .ok (.iload_n 1, 1) := by decide +kernel
theorem dX11_proof_30 : decode cX11_proof 30 = .ok (.iload_n 2, 1) := by decide +kernel
theorem dX11_proof_31 : decode cX11_proof 31 = .ok (.invokevirtual 245, 3) := by decide +kernel
theorem dX11_proof_34 : decode cX11_proof 34 = .ok (.ireturn, 1) := by decide +kernel
def f_FC_proof (p0 : Int32) (p1 : Int32) (σ : CS) : Option ((Int32 × Int32) × CS) := bnd (f_Table_has 11 p0 σ) (fun r8 σ8 => if r8 = 0 then some ((3, 0), σ8) else (bnd (f_FC_within p1 (-9) 9 σ8) (fun r19 σ19 => if r19 = 0 then some ((1, 0), σ19) else (bnd (f_Courts_addProof p0 p1 σ19) (fun r31 σ31 => some ((0, r31), σ31))))))
set_option maxHeartbeats 4000000 in
set_option maxRecDepth 100000 in
theorem c_FC_proof {l : Launch} {g : EG} {ad ta : Nat → Nat} {Rr : va_W} {σ : CS} {res : (Int32 × Int32) × CS} {p0 : Int32} {p1 : Int32} (hl : l.stackTraces = false) (h : f_FC_proof p0 p1 σ = some res) (hφ2 : ph σ.2.2 ≤ BB) : CxI l g yX11_proof (.code yX11_proof cX11_proof 3 (some .int)) 13 304 ad ta Rr σ [.ref (ad 0), .int p0, .int p1] res := by
  refine CtX.of rfl (by decide) (Nat.le_of_ble_eq_true rfl) ?_
  intro p e s m args below meth c A C hr hex
  have hφ : ph σ.2.2 ≤ ph σ.2.2 := Nat.le_refl _
  refine nw_zero (ph σ.2.2) ?_
  show NX g p l e s m args below meth c A 13 304 3 ad Rr (ph σ.2.2) res ta σ [(0, .ref (ad 0)), (1, .int p0), (2, .int p1)] 0 []
  unfold f_FC_proof at h
  refine nw_aload_n C dX11_proof_0 rfl 0 rfl ?_
  refine nw_get (v := .ref (ad 7)) C in_X11 0 cl_FC rfl 6 (by decide) tw_516 rfl rfl dX11_proof_1 ?_
  refine nw_get (v := .ref (ad 22)) C in_X1 7 cl_Courts rfl 2 (by decide) tw_381 rfl rfl dX11_proof_4 ?_
  refine nw_iload_n C dX11_proof_7 rfl 1 rfl ?_
  refine nx_callVI (q0 := 22) (As := [.int p0]) (rest := []) C h (fun _ _ e => c_Table_has 11 (by decide) e hφ2) tw_990 kv_X9_has (cl_T 11 (by decide)) rfl ⟨Nat.le_of_ble_eq_true rfl, Nat.le_of_ble_eq_true rfl⟩ rfl dX11_proof_8 rfl (Nat.le_of_ble_eq_true rfl) hφ hφ2 (fun r8 σ8 ta h hφ hφ2 => ?_)
  refine nx_check C hex (by decide) (fun _ => ct_checkIndex hl) (fun _ hb => cr_checkIndex hb) tw_991 ks_X11_checkIndex ⟨Nat.le_of_ble_eq_true rfl, Nat.le_of_ble_eq_true rfl⟩ dX11_proof_11 (Nat.le_of_ble_eq_true rfl) hφ hφ2 h (fun _ h => ?_)
  refine nw_iload_n C dX11_proof_14 rfl 2 rfl ?_
  refine nw_bipush (v := (-9)) C dX11_proof_15 (by decide) ?_
  refine nw_bipush (v := 9) C dX11_proof_17 (by decide) ?_
  refine nx_callSI  (As := [.int p1, .int (-9), .int 9]) (rest := []) C h (fun _ _ e => c_FC_within e hφ2) tw_675 ks_X11_within ⟨Nat.le_of_ble_eq_true rfl, Nat.le_of_ble_eq_true rfl⟩ rfl dX11_proof_19 rfl (Nat.le_of_ble_eq_true rfl) hφ hφ2 (fun r19 σ19 ta h hφ hφ2 => ?_)
  refine nx_check C hex (by decide) (fun _ => ct_checkArgument hl) (fun _ hb => cr_checkArgument hb) tw_678 ks_X11_checkArgument ⟨Nat.le_of_ble_eq_true rfl, Nat.le_of_ble_eq_true rfl⟩ dX11_proof_22 (Nat.le_of_ble_eq_true rfl) hφ hφ2 h (fun _ h => ?_)
  refine nw_aload_n C dX11_proof_25 rfl 0 rfl ?_
  refine nw_get (v := .ref (ad 7)) C in_X11 0 cl_FC rfl 6 (by decide) tw_516 rfl rfl dX11_proof_26 ?_
  refine nw_iload_n C dX11_proof_29 rfl 1 rfl ?_
  refine nw_iload_n C dX11_proof_30 rfl 2 rfl ?_
  refine nx_callVI (q0 := 7) (As := [.int p0, .int p1]) (rest := []) C h (fun _ _ e => c_Courts_addProof e hφ2) tw_1402 kv_X1_addProof cl_Courts rfl ⟨Nat.le_of_ble_eq_true rfl, Nat.le_of_ble_eq_true rfl⟩ rfl dX11_proof_31 rfl (Nat.le_of_ble_eq_true rfl) hφ hφ2 (fun r31 σ31 ta h hφ hφ2 => ?_)
  exact nx_iret C hr dX11_proof_34 hφ hφ2 h
theorem dX11_of_0 : decode cX11_of 0 = .ok (.aload_n 0, 1) := by decide +kernel
theorem dX11_of_1 : decode cX11_of 1 = .ok (.getfield 64, 3) := by decide +kernel
theorem dX11_of_4 : decode cX11_of 4 = .ok (.getfield 242, 3) := by decide +kernel
theorem dX11_of_7 : decode cX11_of 7 = .ok (.iload_n 1, 1) := by decide +kernel
theorem dX11_of_8 : decode cX11_of 8 = .ok (.invokevirtual 148, 3) := by decide +kernel
theorem dX11_of_11 : decode cX11_of 11 = .ok (.invokestatic 151, 3) := by decide +kernel
theorem dX11_of_14 : decode cX11_of 14 = .ok (.iload_n 2, 1) := by decide +kernel
theorem dX11_of_15 : decode cX11_of 15 = .ok (.iconst 0, 1) := by decide +kernel
theorem dX11_of_16 : decode cX11_of 16 = .ok (.bipush 7, 2) := by decide +kernel
theorem dX11_of_18 : decode cX11_of 18 = .ok (.invokestatic 92, 3) := by decide +kernel
theorem dX11_of_21 : decode cX11_of 21 = .ok (.invokestatic 96, 3) := by decide +kernel
theorem dX11_of_24 : decode cX11_of 24 = .ok (.aload_n 0, 1) := by decide +kernel
theorem dX11_of_25 : decode cX11_of 25 = .ok (.getfield 64, 3) := by decide +kernel
theorem dX11_of_28 : decode cX11_of 28 = .ok (.getfield 242, 3) := by decide +kernel
theorem dX11_of_31 : decode cX11_of 31 = .ok (.iload_n 1, 1) := by decide +kernel
theorem dX11_of_32 : decode cX11_of 32 = .ok (.iload_n 2, 1) := by decide +kernel
theorem dX11_of_33 : decode cX11_of 33 = .ok (.invokevirtual 210, 3) := by decide +kernel
theorem dX11_of_36 : decode cX11_of 36 = .ok (.ireturn, 1) := by decide +kernel
def f_FC_of (p0 : Int32) (p1 : Int32) (σ : CS) : Option ((Int32 × Int32) × CS) := bnd (f_Table_has 11 p0 σ) (fun r8 σ8 => if r8 = 0 then some ((3, 0), σ8) else (bnd (f_FC_within p1 0 7 σ8) (fun r18 σ18 => if r18 = 0 then some ((1, 0), σ18) else (bnd (f_Table_get 11 p0 p1 σ18) (fun r33 σ33 => some ((0, r33), σ33))))))
set_option maxHeartbeats 4000000 in
set_option maxRecDepth 100000 in
theorem c_FC_of {l : Launch} {g : EG} {ad ta : Nat → Nat} {Rr : va_W} {σ : CS} {res : (Int32 × Int32) × CS} {p0 : Int32} {p1 : Int32} (hl : l.stackTraces = false) (h : f_FC_of p0 p1 σ = some res) (hφ2 : ph σ.2.2 ≤ BB) : CxI l g yX11_of (.code yX11_of cX11_of 3 (some .int)) 13 304 ad ta Rr σ [.ref (ad 0), .int p0, .int p1] res := by
  refine CtX.of rfl (by decide) (Nat.le_of_ble_eq_true rfl) ?_
  intro p e s m args below meth c A C hr hex
  have hφ : ph σ.2.2 ≤ ph σ.2.2 := Nat.le_refl _
  refine nw_zero (ph σ.2.2) ?_
  show NX g p l e s m args below meth c A 13 304 3 ad Rr (ph σ.2.2) res ta σ [(0, .ref (ad 0)), (1, .int p0), (2, .int p1)] 0 []
  unfold f_FC_of at h
  refine nw_aload_n C dX11_of_0 rfl 0 rfl ?_
  refine nw_get (v := .ref (ad 7)) C in_X11 0 cl_FC rfl 6 (by decide) tw_516 rfl rfl dX11_of_1 ?_
  refine nw_get (v := .ref (ad 22)) C in_X1 7 cl_Courts rfl 2 (by decide) tw_381 rfl rfl dX11_of_4 ?_
  refine nw_iload_n C dX11_of_7 rfl 1 rfl ?_
  refine nx_callVI (q0 := 22) (As := [.int p0]) (rest := []) C h (fun _ _ e => c_Table_has 11 (by decide) e hφ2) tw_990 kv_X9_has (cl_T 11 (by decide)) rfl ⟨Nat.le_of_ble_eq_true rfl, Nat.le_of_ble_eq_true rfl⟩ rfl dX11_of_8 rfl (Nat.le_of_ble_eq_true rfl) hφ hφ2 (fun r8 σ8 ta h hφ hφ2 => ?_)
  refine nx_check C hex (by decide) (fun _ => ct_checkIndex hl) (fun _ hb => cr_checkIndex hb) tw_991 ks_X11_checkIndex ⟨Nat.le_of_ble_eq_true rfl, Nat.le_of_ble_eq_true rfl⟩ dX11_of_11 (Nat.le_of_ble_eq_true rfl) hφ hφ2 h (fun _ h => ?_)
  refine nw_iload_n C dX11_of_14 rfl 2 rfl ?_
  refine nw_iconst (v := 0) C dX11_of_15 (by decide) ?_
  refine nw_bipush (v := 7) C dX11_of_16 (by decide) ?_
  refine nx_callSI  (As := [.int p1, .int 0, .int 7]) (rest := []) C h (fun _ _ e => c_FC_within e hφ2) tw_675 ks_X11_within ⟨Nat.le_of_ble_eq_true rfl, Nat.le_of_ble_eq_true rfl⟩ rfl dX11_of_18 rfl (Nat.le_of_ble_eq_true rfl) hφ hφ2 (fun r18 σ18 ta h hφ hφ2 => ?_)
  refine nx_check C hex (by decide) (fun _ => ct_checkArgument hl) (fun _ hb => cr_checkArgument hb) tw_678 ks_X11_checkArgument ⟨Nat.le_of_ble_eq_true rfl, Nat.le_of_ble_eq_true rfl⟩ dX11_of_21 (Nat.le_of_ble_eq_true rfl) hφ hφ2 h (fun _ h => ?_)
  refine nw_aload_n C dX11_of_24 rfl 0 rfl ?_
  refine nw_get (v := .ref (ad 7)) C in_X11 0 cl_FC rfl 6 (by decide) tw_516 rfl rfl dX11_of_25 ?_
  refine nw_get (v := .ref (ad 22)) C in_X1 7 cl_Courts rfl 2 (by decide) tw_381 rfl rfl dX11_of_28 ?_
  refine nw_iload_n C dX11_of_31 rfl 1 rfl ?_
  refine nw_iload_n C dX11_of_32 rfl 2 rfl ?_
  refine nx_callVI (q0 := 22) (As := [.int p0, .int p1]) (rest := []) C h (fun _ _ e => c_Table_get 11 (by decide) e hφ2) tw_1297 kv_X9_get (cl_T 11 (by decide)) rfl ⟨Nat.le_of_ble_eq_true rfl, Nat.le_of_ble_eq_true rfl⟩ rfl dX11_of_33 rfl (Nat.le_of_ble_eq_true rfl) hφ hφ2 (fun r33 σ33 ta h hφ hφ2 => ?_)
  exact nx_iret C hr dX11_of_36 hφ hφ2 h
theorem dX11_claim_0 : decode cX11_claim 0 = .ok (.aload_n 0, 1) := by decide +kernel
theorem dX11_claim_1 : decode cX11_claim 1 = .ok (.getfield 46, 3) := by decide +kernel
theorem dX11_claim_4 : decode cX11_claim 4 = .ok (.getfield 194, 3) := by decide +kernel
theorem dX11_claim_7 : decode cX11_claim 7 = .ok (.iload_n 1, 1) := by decide +kernel
theorem dX11_claim_8 : decode cX11_claim 8 = .ok (.invokevirtual 148, 3) := by decide +kernel
theorem dX11_claim_11 : decode cX11_claim 11 = .ok (.invokestatic 151, 3) := by decide +kernel
theorem dX11_claim_14 : decode cX11_claim 14 = .ok (.iload_n 2, 1) := by decide +kernel
theorem dX11_claim_15 : decode cX11_claim 15 = .ok (.invokestatic 216, 3) := by decide +kernel
theorem dX11_claim_18 : decode cX11_claim 18 = .ok (.ifCond .eq 16, 3) := by decide +kernel
theorem dX11_claim_21 : decode cX11_claim 21 = .ok (.iload_n 3, 1) := by decide +kernel
theorem dX11_claim_22 : decode cX11_claim 22 = .ok (.iload 4, 2) := by decide +kernel
theorem dX11_claim_24 : decode cX11_claim 24 = .ok (.invokestatic 119, 3) := by decide +kernel
theorem dX11_claim_27 : decode cX11_claim 27 = .ok (.ifCond .eq 7, 3) := by decide +kernel
theorem dX11_claim_30 : decode cX11_claim 30 = .ok (.iconst 1, 1) := by decide +kernel
theorem dX11_claim_31 : decode cX11_claim 31 = .ok (.goto 4, 3) := by decide +kernel
theorem dX11_claim_34 : decode cX11_claim 34 = .ok (.iconst 0, 1) := by decide +kernel
theorem dX11_claim_35 : decode cX11_claim 35 = .ok (.invokestatic 96, 3) := by decide +kernel
theorem dX11_claim_38 : decode cX11_claim 38 = .ok (.aload_n 0, 1) := by decide +kernel
theorem dX11_claim_39 : decode cX11_claim 39 = .ok (.getfield 55, 3) := by decide +kernel
theorem dX11_claim_42 : decode cX11_claim 42 = .ok (.iload_n 1, 1) := by decide +kernel
theorem dX11_claim_43 : decode cX11_claim 43 = .ok (.iload_n 2, 1) := by decide +kernel
theorem dX11_claim_44 : decode cX11_claim 44 = .ok (.iload_n 3, 1) := by decide +kernel
theorem dX11_claim_45 : decode cX11_claim 45 = .ok (.iload 4, 2) := by decide +kernel
theorem dX11_claim_47 : decode cX11_claim 47 = .ok (.invokevirtual 248, 3) := by decide +kernel
theorem dX11_claim_50 : decode cX11_claim 50 = .ok (.ireturn, 1) := by decide +kernel
def B_FC_claim_35   (x1 : Int32) (x2 : Int32) (x3 : Int32) (x4 : Int32) (z0 : Int32) (σ : CS) : Option ((Int32 × Int32) × CS) := if z0 = 0 then some ((1, 0), σ) else (bnd (f_Claims_addClaim x1 x2 x3 x4 σ) (fun r47 σ47 => some ((0, r47), σ47)))
set_option maxHeartbeats 4000000 in
set_option maxRecDepth 100000 in
theorem w_FC_claim_35 (C : Cx g p s m args meth c A 5 cX11_claim yX11_claim.cls) (hr : meth.sig.returnType = (some .int)) (hl : l.stackTraces = false) (hex : ∀ x ∈ c.exceptionTable.toList, False) {res : (Int32 × Int32) × CS}   (x1 : Int32) (x2 : Int32) (x3 : Int32) (x4 : Int32) (z0 : Int32)  (σ : CS) (ta : Nat → Nat) (hφ : φ0 ≤ ph σ.2.2) (hφ2 : ph σ.2.2 ≤ BB) (h : B_FC_claim_35 x1 x2 x3 x4 z0 σ = some res) : NX g p l e s m args below meth c A 13 304 5 ad Rr φ0 res ta σ [(0, .ref (ad 0)), (1, .int x1), (2, .int x2), (3, .int x3), (4, .int x4)] 35 [.int z0] := by
  unfold B_FC_claim_35 at h
  refine nx_check C hex (by decide) (fun _ => ct_checkArgument hl) (fun _ hb => cr_checkArgument hb) tw_678 ks_X11_checkArgument ⟨Nat.le_of_ble_eq_true rfl, Nat.le_of_ble_eq_true rfl⟩ dX11_claim_35 (Nat.le_of_ble_eq_true rfl) hφ hφ2 h (fun _ h => ?_)
  refine nw_aload_n C dX11_claim_38 rfl 0 rfl ?_
  refine nw_get (v := .ref (ad 6)) C in_X11 0 cl_FC rfl 5 (by decide) tw_515 rfl rfl dX11_claim_39 ?_
  refine nw_iload_n C dX11_claim_42 rfl 1 rfl ?_
  refine nw_iload_n C dX11_claim_43 rfl 2 rfl ?_
  refine nw_iload_n C dX11_claim_44 rfl 3 rfl ?_
  refine nw_iload C dX11_claim_45 4 rfl ?_
  refine nx_callVI (q0 := 6) (As := [.int x1, .int x2, .int x3, .int x4]) (rest := []) C h (fun _ _ e => c_Claims_addClaim e hφ2) tw_1420 kv_X0_addClaim cl_Claims rfl ⟨Nat.le_of_ble_eq_true rfl, Nat.le_of_ble_eq_true rfl⟩ rfl dX11_claim_47 rfl (Nat.le_of_ble_eq_true rfl) hφ hφ2 (fun r47 σ47 ta h hφ hφ2 => ?_)
  exact nx_iret C hr dX11_claim_50 hφ hφ2 h
def B_FC_claim_34   (x1 : Int32) (x2 : Int32) (x3 : Int32) (x4 : Int32) (σ : CS) : Option ((Int32 × Int32) × CS) := B_FC_claim_35 x1 x2 x3 x4 0 σ
set_option maxHeartbeats 4000000 in
set_option maxRecDepth 100000 in
theorem w_FC_claim_34 (C : Cx g p s m args meth c A 5 cX11_claim yX11_claim.cls) (hr : meth.sig.returnType = (some .int)) (hl : l.stackTraces = false) (hex : ∀ x ∈ c.exceptionTable.toList, False) {res : (Int32 × Int32) × CS}   (x1 : Int32) (x2 : Int32) (x3 : Int32) (x4 : Int32)  (σ : CS) (ta : Nat → Nat) (hφ : φ0 ≤ ph σ.2.2) (hφ2 : ph σ.2.2 ≤ BB) (h : B_FC_claim_34 x1 x2 x3 x4 σ = some res) : NX g p l e s m args below meth c A 13 304 5 ad Rr φ0 res ta σ [(0, .ref (ad 0)), (1, .int x1), (2, .int x2), (3, .int x3), (4, .int x4)] 34 [] := by
  unfold B_FC_claim_34 at h
  refine nw_iconst (v := 0) C dX11_claim_34 (by decide) ?_
  exact nw_lv (lv' := [(0, .ref (ad 0)), (1, .int x1), (2, .int x2), (3, .int x3), (4, .int x4)]) [0, 1, 2, 3, 4] rfl (w_FC_claim_35 C hr hl hex x1 x2 x3 x4 0 _ _ hφ hφ2 h)
def f_FC_claim (p0 : Int32) (p1 : Int32) (p2 : Int32) (p3 : Int32) (σ : CS) : Option ((Int32 × Int32) × CS) := bnd (f_Table_has 6 p0 σ) (fun r8 σ8 => if r8 = 0 then some ((3, 0), σ8) else (bnd (f_FC_isAct p1 σ8) (fun r15 σ15 => if r15 = 0 then B_FC_claim_34 p0 p1 p2 p3 σ15 else bnd (f_FC_isPlace p2 p3 σ15) (fun r24 σ24 => if r24 = 0 then B_FC_claim_34 p0 p1 p2 p3 σ24 else B_FC_claim_35 p0 p1 p2 p3 1 σ24))))
set_option maxHeartbeats 4000000 in
set_option maxRecDepth 100000 in
theorem c_FC_claim {l : Launch} {g : EG} {ad ta : Nat → Nat} {Rr : va_W} {σ : CS} {res : (Int32 × Int32) × CS} {p0 : Int32} {p1 : Int32} {p2 : Int32} {p3 : Int32} (hl : l.stackTraces = false) (h : f_FC_claim p0 p1 p2 p3 σ = some res) (hφ2 : ph σ.2.2 ≤ BB) : CxI l g yX11_claim (.code yX11_claim cX11_claim 5 (some .int)) 13 304 ad ta Rr σ [.ref (ad 0), .int p0, .int p1, .int p2, .int p3] res := by
  refine CtX.of rfl (by decide) (Nat.le_of_ble_eq_true rfl) ?_
  intro p e s m args below meth c A C hr hex
  have hφ : ph σ.2.2 ≤ ph σ.2.2 := Nat.le_refl _
  refine nw_zero (ph σ.2.2) ?_
  show NX g p l e s m args below meth c A 13 304 5 ad Rr (ph σ.2.2) res ta σ [(0, .ref (ad 0)), (1, .int p0), (2, .int p1), (3, .int p2), (4, .int p3)] 0 []
  unfold f_FC_claim at h
  refine nw_aload_n C dX11_claim_0 rfl 0 rfl ?_
  refine nw_get (v := .ref (ad 5)) C in_X11 0 cl_FC rfl 4 (by decide) tw_514 rfl rfl dX11_claim_1 ?_
  refine nw_get (v := .ref (ad 17)) C in_X5 5 cl_People rfl 0 (by decide) tw_314 rfl rfl dX11_claim_4 ?_
  refine nw_iload_n C dX11_claim_7 rfl 1 rfl ?_
  refine nx_callVI (q0 := 17) (As := [.int p0]) (rest := []) C h (fun _ _ e => c_Table_has 6 (by decide) e hφ2) tw_990 kv_X9_has (cl_T 6 (by decide)) rfl ⟨Nat.le_of_ble_eq_true rfl, Nat.le_of_ble_eq_true rfl⟩ rfl dX11_claim_8 rfl (Nat.le_of_ble_eq_true rfl) hφ hφ2 (fun r8 σ8 ta h hφ hφ2 => ?_)
  refine nx_check C hex (by decide) (fun _ => ct_checkIndex hl) (fun _ hb => cr_checkIndex hb) tw_991 ks_X11_checkIndex ⟨Nat.le_of_ble_eq_true rfl, Nat.le_of_ble_eq_true rfl⟩ dX11_claim_11 (Nat.le_of_ble_eq_true rfl) hφ hφ2 h (fun _ h => ?_)
  refine nw_iload_n C dX11_claim_14 rfl 2 rfl ?_
  refine nx_callSI  (As := [.int p1]) (rest := []) C h (fun _ _ e => c_FC_isAct e hφ2) tw_1316 ks_X11_isAct ⟨Nat.le_of_ble_eq_true rfl, Nat.le_of_ble_eq_true rfl⟩ rfl dX11_claim_15 rfl (Nat.le_of_ble_eq_true rfl) hφ hφ2 (fun r15 σ15 ta h hφ hφ2 => ?_)
  refine nw_if_eq (tgt := 34) C dX11_claim_18 (by decide) h (fun _ h => ?_) (fun _ h => ?_)
  · exact nw_lv (lv' := [(0, .ref (ad 0)), (1, .int p0), (2, .int p1), (3, .int p2), (4, .int p3)]) [0, 1, 2, 3, 4] rfl (w_FC_claim_34 C hr hl hex p0 p1 p2 p3 _ _ hφ hφ2 h)
  · refine nw_iload_n C dX11_claim_21 rfl 3 rfl ?_
    refine nw_iload C dX11_claim_22 4 rfl ?_
    refine nx_callSI  (As := [.int p2, .int p3]) (rest := []) C h (fun _ _ e => c_FC_isPlace e hφ2) tw_919 ks_X11_isPlace ⟨Nat.le_of_ble_eq_true rfl, Nat.le_of_ble_eq_true rfl⟩ rfl dX11_claim_24 rfl (Nat.le_of_ble_eq_true rfl) hφ hφ2 (fun r24 σ24 ta h hφ hφ2 => ?_)
    refine nw_if_eq (tgt := 34) C dX11_claim_27 (by decide) h (fun _ h => ?_) (fun _ h => ?_)
    · exact nw_lv (lv' := [(0, .ref (ad 0)), (1, .int p0), (2, .int p1), (3, .int p2), (4, .int p3)]) [0, 1, 2, 3, 4] rfl (w_FC_claim_34 C hr hl hex p0 p1 p2 p3 _ _ hφ hφ2 h)
    · refine nw_iconst (v := 1) C dX11_claim_30 (by decide) ?_
      refine nw_goto (tgt := 35) C dX11_claim_31 (by decide) ?_
      exact nw_lv (lv' := [(0, .ref (ad 0)), (1, .int p0), (2, .int p1), (3, .int p2), (4, .int p3)]) [0, 1, 2, 3, 4] rfl (w_FC_claim_35 C hr hl hex p0 p1 p2 p3 1 _ _ hφ hφ2 h)
theorem dX11_use_0 : decode cX11_use 0 = .ok (.aload_n 0, 1) := by decide +kernel
theorem dX11_use_1 : decode cX11_use 1 = .ok (.getfield 55, 3) := by decide +kernel
theorem dX11_use_4 : decode cX11_use 4 = .ok (.getfield 251, 3) := by decide +kernel
theorem dX11_use_7 : decode cX11_use 7 = .ok (.iload_n 1, 1) := by decide +kernel
theorem dX11_use_8 : decode cX11_use 8 = .ok (.invokevirtual 148, 3) := by decide +kernel
theorem dX11_use_11 : decode cX11_use 11 = .ok (.invokestatic 151, 3) := by decide +kernel
theorem dX11_use_14 : decode cX11_use 14 = .ok (.iload_n 2, 1) := by decide +kernel
theorem dX11_use_15 : decode cX11_use 15 = .ok (.iconst 0, 1) := by decide +kernel
theorem dX11_use_16 : decode cX11_use 16 = .ok (.iconst 1, 1) := by decide +kernel
theorem dX11_use_17 : decode cX11_use 17 = .ok (.invokestatic 92, 3) := by decide +kernel
theorem dX11_use_20 : decode cX11_use 20 = .ok (.ifCond .eq 14, 3) := by decide +kernel
theorem dX11_use_23 : decode cX11_use 23 = .ok (.iload_n 3, 1) := by decide +kernel
theorem dX11_use_24 : decode cX11_use 24 = .ok (.invokestatic 134, 3) := by decide +kernel
theorem dX11_use_27 : decode cX11_use 27 = .ok (.ifCond .eq 7, 3) := by decide +kernel
theorem dX11_use_30 : decode cX11_use 30 = .ok (.iconst 1, 1) := by decide +kernel
theorem dX11_use_31 : decode cX11_use 31 = .ok (.goto 4, 3) := by decide +kernel
theorem dX11_use_34 : decode cX11_use 34 = .ok (.iconst 0, 1) := by decide +kernel
theorem dX11_use_35 : decode cX11_use 35 = .ok (.invokestatic 96, 3) := by decide +kernel
theorem dX11_use_38 : decode cX11_use 38 = .ok (.aload_n 0, 1) := by decide +kernel
theorem dX11_use_39 : decode cX11_use 39 = .ok (.getfield 55, 3) := by decide +kernel
theorem dX11_use_42 : decode cX11_use 42 = .ok (.iload_n 1, 1) := by decide +kernel
theorem dX11_use_43 : decode cX11_use 43 = .ok (.iload_n 2, 1) := by decide +kernel
theorem dX11_use_44 : decode cX11_use 44 = .ok (.iload_n 3, 1) := by decide +kernel
theorem dX11_use_45 : decode cX11_use 45 = .ok (.invokevirtual 252, 3) := by decide +kernel
theorem dX11_use_48 : decode cX11_use 48 = .ok (.ireturn, 1) := by decide +kernel
def B_FC_use_35   (x1 : Int32) (x2 : Int32) (x3 : Int32) (z0 : Int32) (σ : CS) : Option ((Int32 × Int32) × CS) := if z0 = 0 then some ((1, 0), σ) else (bnd (f_Claims_addEvent x1 x2 x3 σ) (fun r45 σ45 => some ((0, r45), σ45)))
set_option maxHeartbeats 4000000 in
set_option maxRecDepth 100000 in
theorem w_FC_use_35 (C : Cx g p s m args meth c A 4 cX11_use yX11_use.cls) (hr : meth.sig.returnType = (some .int)) (hl : l.stackTraces = false) (hex : ∀ x ∈ c.exceptionTable.toList, False) {res : (Int32 × Int32) × CS}   (x1 : Int32) (x2 : Int32) (x3 : Int32) (z0 : Int32)  (σ : CS) (ta : Nat → Nat) (hφ : φ0 ≤ ph σ.2.2) (hφ2 : ph σ.2.2 ≤ BB) (h : B_FC_use_35 x1 x2 x3 z0 σ = some res) : NX g p l e s m args below meth c A 13 304 4 ad Rr φ0 res ta σ [(0, .ref (ad 0)), (1, .int x1), (2, .int x2), (3, .int x3)] 35 [.int z0] := by
  unfold B_FC_use_35 at h
  refine nx_check C hex (by decide) (fun _ => ct_checkArgument hl) (fun _ hb => cr_checkArgument hb) tw_678 ks_X11_checkArgument ⟨Nat.le_of_ble_eq_true rfl, Nat.le_of_ble_eq_true rfl⟩ dX11_use_35 (Nat.le_of_ble_eq_true rfl) hφ hφ2 h (fun _ h => ?_)
  refine nw_aload_n C dX11_use_38 rfl 0 rfl ?_
  refine nw_get (v := .ref (ad 6)) C in_X11 0 cl_FC rfl 5 (by decide) tw_515 rfl rfl dX11_use_39 ?_
  refine nw_iload_n C dX11_use_42 rfl 1 rfl ?_
  refine nw_iload_n C dX11_use_43 rfl 2 rfl ?_
  refine nw_iload_n C dX11_use_44 rfl 3 rfl ?_
  refine nx_callVI (q0 := 6) (As := [.int x1, .int x2, .int x3]) (rest := []) C h (fun _ _ e => c_Claims_addEvent e hφ2) tw_1433 kv_X0_addEvent cl_Claims rfl ⟨Nat.le_of_ble_eq_true rfl, Nat.le_of_ble_eq_true rfl⟩ rfl dX11_use_45 rfl (Nat.le_of_ble_eq_true rfl) hφ hφ2 (fun r45 σ45 ta h hφ hφ2 => ?_)
  exact nx_iret C hr dX11_use_48 hφ hφ2 h
def B_FC_use_34   (x1 : Int32) (x2 : Int32) (x3 : Int32) (σ : CS) : Option ((Int32 × Int32) × CS) := B_FC_use_35 x1 x2 x3 0 σ
set_option maxHeartbeats 4000000 in
set_option maxRecDepth 100000 in
theorem w_FC_use_34 (C : Cx g p s m args meth c A 4 cX11_use yX11_use.cls) (hr : meth.sig.returnType = (some .int)) (hl : l.stackTraces = false) (hex : ∀ x ∈ c.exceptionTable.toList, False) {res : (Int32 × Int32) × CS}   (x1 : Int32) (x2 : Int32) (x3 : Int32)  (σ : CS) (ta : Nat → Nat) (hφ : φ0 ≤ ph σ.2.2) (hφ2 : ph σ.2.2 ≤ BB) (h : B_FC_use_34 x1 x2 x3 σ = some res) : NX g p l e s m args below meth c A 13 304 4 ad Rr φ0 res ta σ [(0, .ref (ad 0)), (1, .int x1), (2, .int x2), (3, .int x3)] 34 [] := by
  unfold B_FC_use_34 at h
  refine nw_iconst (v := 0) C dX11_use_34 (by decide) ?_
  exact nw_lv (lv' := [(0, .ref (ad 0)), (1, .int x1), (2, .int x2), (3, .int x3)]) [0, 1, 2, 3] rfl (w_FC_use_35 C hr hl hex x1 x2 x3 0 _ _ hφ hφ2 h)
def f_FC_use (p0 : Int32) (p1 : Int32) (p2 : Int32) (σ : CS) : Option ((Int32 × Int32) × CS) := bnd (f_Table_has 7 p0 σ) (fun r8 σ8 => if r8 = 0 then some ((3, 0), σ8) else (bnd (f_FC_within p1 0 1 σ8) (fun r17 σ17 => if r17 = 0 then B_FC_use_34 p0 p1 p2 σ17 else bnd (f_FC_isDay p2 σ17) (fun r24 σ24 => if r24 = 0 then B_FC_use_34 p0 p1 p2 σ24 else B_FC_use_35 p0 p1 p2 1 σ24))))
set_option maxHeartbeats 4000000 in
set_option maxRecDepth 100000 in
theorem c_FC_use {l : Launch} {g : EG} {ad ta : Nat → Nat} {Rr : va_W} {σ : CS} {res : (Int32 × Int32) × CS} {p0 : Int32} {p1 : Int32} {p2 : Int32} (hl : l.stackTraces = false) (h : f_FC_use p0 p1 p2 σ = some res) (hφ2 : ph σ.2.2 ≤ BB) : CxI l g yX11_use (.code yX11_use cX11_use 4 (some .int)) 13 304 ad ta Rr σ [.ref (ad 0), .int p0, .int p1, .int p2] res := by
  refine CtX.of rfl (by decide) (Nat.le_of_ble_eq_true rfl) ?_
  intro p e s m args below meth c A C hr hex
  have hφ : ph σ.2.2 ≤ ph σ.2.2 := Nat.le_refl _
  refine nw_zero (ph σ.2.2) ?_
  show NX g p l e s m args below meth c A 13 304 4 ad Rr (ph σ.2.2) res ta σ [(0, .ref (ad 0)), (1, .int p0), (2, .int p1), (3, .int p2)] 0 []
  unfold f_FC_use at h
  refine nw_aload_n C dX11_use_0 rfl 0 rfl ?_
  refine nw_get (v := .ref (ad 6)) C in_X11 0 cl_FC rfl 5 (by decide) tw_515 rfl rfl dX11_use_1 ?_
  refine nw_get (v := .ref (ad 18)) C in_X0 6 cl_Claims rfl 0 (by decide) tw_327 rfl rfl dX11_use_4 ?_
  refine nw_iload_n C dX11_use_7 rfl 1 rfl ?_
  refine nx_callVI (q0 := 18) (As := [.int p0]) (rest := []) C h (fun _ _ e => c_Table_has 7 (by decide) e hφ2) tw_990 kv_X9_has (cl_T 7 (by decide)) rfl ⟨Nat.le_of_ble_eq_true rfl, Nat.le_of_ble_eq_true rfl⟩ rfl dX11_use_8 rfl (Nat.le_of_ble_eq_true rfl) hφ hφ2 (fun r8 σ8 ta h hφ hφ2 => ?_)
  refine nx_check C hex (by decide) (fun _ => ct_checkIndex hl) (fun _ hb => cr_checkIndex hb) tw_991 ks_X11_checkIndex ⟨Nat.le_of_ble_eq_true rfl, Nat.le_of_ble_eq_true rfl⟩ dX11_use_11 (Nat.le_of_ble_eq_true rfl) hφ hφ2 h (fun _ h => ?_)
  refine nw_iload_n C dX11_use_14 rfl 2 rfl ?_
  refine nw_iconst (v := 0) C dX11_use_15 (by decide) ?_
  refine nw_iconst (v := 1) C dX11_use_16 (by decide) ?_
  refine nx_callSI  (As := [.int p1, .int 0, .int 1]) (rest := []) C h (fun _ _ e => c_FC_within e hφ2) tw_675 ks_X11_within ⟨Nat.le_of_ble_eq_true rfl, Nat.le_of_ble_eq_true rfl⟩ rfl dX11_use_17 rfl (Nat.le_of_ble_eq_true rfl) hφ hφ2 (fun r17 σ17 ta h hφ hφ2 => ?_)
  refine nw_if_eq (tgt := 34) C dX11_use_20 (by decide) h (fun _ h => ?_) (fun _ h => ?_)
  · exact nw_lv (lv' := [(0, .ref (ad 0)), (1, .int p0), (2, .int p1), (3, .int p2)]) [0, 1, 2, 3] rfl (w_FC_use_34 C hr hl hex p0 p1 p2 _ _ hφ hφ2 h)
  · refine nw_iload_n C dX11_use_23 rfl 3 rfl ?_
    refine nx_callSI  (As := [.int p2]) (rest := []) C h (fun _ _ e => c_FC_isDay e hφ2) tw_936 ks_X11_isDay ⟨Nat.le_of_ble_eq_true rfl, Nat.le_of_ble_eq_true rfl⟩ rfl dX11_use_24 rfl (Nat.le_of_ble_eq_true rfl) hφ hφ2 (fun r24 σ24 ta h hφ hφ2 => ?_)
    refine nw_if_eq (tgt := 34) C dX11_use_27 (by decide) h (fun _ h => ?_) (fun _ h => ?_)
    · exact nw_lv (lv' := [(0, .ref (ad 0)), (1, .int p0), (2, .int p1), (3, .int p2)]) [0, 1, 2, 3] rfl (w_FC_use_34 C hr hl hex p0 p1 p2 _ _ hφ hφ2 h)
    · refine nw_iconst (v := 1) C dX11_use_30 (by decide) ?_
      refine nw_goto (tgt := 35) C dX11_use_31 (by decide) ?_
      exact nw_lv (lv' := [(0, .ref (ad 0)), (1, .int p0), (2, .int p1), (3, .int p2)]) [0, 1, 2, 3] rfl (w_FC_use_35 C hr hl hex p0 p1 p2 1 _ _ hφ hφ2 h)
theorem dX11_sure_0 : decode cX11_sure 0 = .ok (.aload_n 0, 1) := by decide +kernel
theorem dX11_sure_1 : decode cX11_sure 1 = .ok (.getfield 55, 3) := by decide +kernel
theorem dX11_sure_4 : decode cX11_sure 4 = .ok (.getfield 251, 3) := by decide +kernel
theorem dX11_sure_7 : decode cX11_sure 7 = .ok (.iload_n 1, 1) := by decide +kernel
theorem dX11_sure_8 : decode cX11_sure 8 = .ok (.invokevirtual 148, 3) := by decide +kernel
theorem dX11_sure_11 : decode cX11_sure 11 = .ok (.invokestatic 151, 3) := by decide +kernel
theorem dX11_sure_14 : decode cX11_sure 14 = .ok (.iload_n 2, 1) := by decide +kernel
theorem dX11_sure_15 : decode cX11_sure 15 = .ok (.invokestatic 134, 3) := by decide +kernel
theorem dX11_sure_18 : decode cX11_sure 18 = .ok (.invokestatic 96, 3) := by decide +kernel
theorem dX11_sure_21 : decode cX11_sure 21 = .ok (.aload_n 0, 1) := by decide +kernel
theorem dX11_sure_22 : decode cX11_sure 22 = .ok (.getfield 55, 3) := by decide +kernel
theorem dX11_sure_25 : decode cX11_sure 25 = .ok (.iload_n 1, 1) := by decide +kernel
theorem dX11_sure_26 : decode cX11_sure 26 = .ok (.iload_n 2, 1) := by decide +kernel
theorem dX11_sure_27 : decode cX11_sure 27 = .ok (.invokevirtual 255, 3) := by decide +kernel
theorem dX11_sure_30 : decode cX11_sure 30 = .ok (.ireturn, 1) := by decide +kernel
def f_FC_sure (p0 : Int32) (p1 : Int32) (σ : CS) : Option ((Int32 × Int32) × CS) := bnd (f_Table_has 7 p0 σ) (fun r8 σ8 => if r8 = 0 then some ((3, 0), σ8) else (bnd (f_FC_isDay p1 σ8) (fun r15 σ15 => if r15 = 0 then some ((1, 0), σ15) else (bnd (f_Claims_sureOn p0 p1 σ15) (fun r27 σ27 => some ((0, r27), σ27))))))
set_option maxHeartbeats 4000000 in
set_option maxRecDepth 100000 in
theorem c_FC_sure {l : Launch} {g : EG} {ad ta : Nat → Nat} {Rr : va_W} {σ : CS} {res : (Int32 × Int32) × CS} {p0 : Int32} {p1 : Int32} (hl : l.stackTraces = false) (h : f_FC_sure p0 p1 σ = some res) (hφ2 : ph σ.2.2 ≤ BB) : CxI l g yX11_sure (.code yX11_sure cX11_sure 3 (some .int)) 13 304 ad ta Rr σ [.ref (ad 0), .int p0, .int p1] res := by
  refine CtX.of rfl (by decide) (Nat.le_of_ble_eq_true rfl) ?_
  intro p e s m args below meth c A C hr hex
  have hφ : ph σ.2.2 ≤ ph σ.2.2 := Nat.le_refl _
  refine nw_zero (ph σ.2.2) ?_
  show NX g p l e s m args below meth c A 13 304 3 ad Rr (ph σ.2.2) res ta σ [(0, .ref (ad 0)), (1, .int p0), (2, .int p1)] 0 []
  unfold f_FC_sure at h
  refine nw_aload_n C dX11_sure_0 rfl 0 rfl ?_
  refine nw_get (v := .ref (ad 6)) C in_X11 0 cl_FC rfl 5 (by decide) tw_515 rfl rfl dX11_sure_1 ?_
  refine nw_get (v := .ref (ad 18)) C in_X0 6 cl_Claims rfl 0 (by decide) tw_327 rfl rfl dX11_sure_4 ?_
  refine nw_iload_n C dX11_sure_7 rfl 1 rfl ?_
  refine nx_callVI (q0 := 18) (As := [.int p0]) (rest := []) C h (fun _ _ e => c_Table_has 7 (by decide) e hφ2) tw_990 kv_X9_has (cl_T 7 (by decide)) rfl ⟨Nat.le_of_ble_eq_true rfl, Nat.le_of_ble_eq_true rfl⟩ rfl dX11_sure_8 rfl (Nat.le_of_ble_eq_true rfl) hφ hφ2 (fun r8 σ8 ta h hφ hφ2 => ?_)
  refine nx_check C hex (by decide) (fun _ => ct_checkIndex hl) (fun _ hb => cr_checkIndex hb) tw_991 ks_X11_checkIndex ⟨Nat.le_of_ble_eq_true rfl, Nat.le_of_ble_eq_true rfl⟩ dX11_sure_11 (Nat.le_of_ble_eq_true rfl) hφ hφ2 h (fun _ h => ?_)
  refine nw_iload_n C dX11_sure_14 rfl 2 rfl ?_
  refine nx_callSI  (As := [.int p1]) (rest := []) C h (fun _ _ e => c_FC_isDay e hφ2) tw_936 ks_X11_isDay ⟨Nat.le_of_ble_eq_true rfl, Nat.le_of_ble_eq_true rfl⟩ rfl dX11_sure_15 rfl (Nat.le_of_ble_eq_true rfl) hφ hφ2 (fun r15 σ15 ta h hφ hφ2 => ?_)
  refine nx_check C hex (by decide) (fun _ => ct_checkArgument hl) (fun _ hb => cr_checkArgument hb) tw_678 ks_X11_checkArgument ⟨Nat.le_of_ble_eq_true rfl, Nat.le_of_ble_eq_true rfl⟩ dX11_sure_18 (Nat.le_of_ble_eq_true rfl) hφ hφ2 h (fun _ h => ?_)
  refine nw_aload_n C dX11_sure_21 rfl 0 rfl ?_
  refine nw_get (v := .ref (ad 6)) C in_X11 0 cl_FC rfl 5 (by decide) tw_515 rfl rfl dX11_sure_22 ?_
  refine nw_iload_n C dX11_sure_25 rfl 1 rfl ?_
  refine nw_iload_n C dX11_sure_26 rfl 2 rfl ?_
  refine nx_callVI (q0 := 6) (As := [.int p0, .int p1]) (rest := []) C h (fun _ _ e => c_Claims_sureOn e hφ2) tw_1445 kv_X0_sureOn cl_Claims rfl ⟨Nat.le_of_ble_eq_true rfl, Nat.le_of_ble_eq_true rfl⟩ rfl dX11_sure_27 rfl (Nat.le_of_ble_eq_true rfl) hφ hφ2 (fun r27 σ27 ta h hφ hφ2 => ?_)
  exact nx_iret C hr dX11_sure_30 hφ hφ2 h
theorem dX11_enter_0 : decode cX11_enter 0 = .ok (.iload_n 1, 1) := by decide +kernel
theorem dX11_enter_1 : decode cX11_enter 1 = .ok (.iconst 0, 1) := by decide +kernel
theorem dX11_enter_2 : decode cX11_enter 2 = .ok (.iconst 3, 1) := by decide +kernel
theorem dX11_enter_3 : decode cX11_enter 3 = .ok (.invokestatic 92, 3) := by decide +kernel
theorem dX11_enter_6 : decode cX11_enter 6 = .ok (.ifCond .eq 21, 3) := by decide +kernel
theorem dX11_enter_9 : decode cX11_enter 9 = .ok (.aload_n 0, 1) := by decide +kernel
theorem dX11_enter_10 : decode cX11_enter 10 = .ok (.getfield 64, 3) := by decide +kernel
theorem dX11_enter_13 : decode cX11_enter 13 = .ok (.getfield 242, 3) := by decide +kernel
theorem dX11_enter_16 : decode cX11_enter 16 = .ok (.iload_n 2, 1) := by decide +kernel
theorem dX11_enter_17 : decode cX11_enter 17 = .ok (.invokevirtual 148, 3) := by decide +kernel
theorem dX11_enter_20 : decode cX11_enter 20 = .ok (.ifCond .eq 7, 3) := by decide +kernel
theorem dX11_enter_23 : decode cX11_enter 23 = .ok (.iconst 1, 1) := by decide +kernel
theorem dX11_enter_24 : decode cX11_enter 24 = .ok (.goto 4, 3) := by decide +kernel
theorem dX11_enter_27 : decode cX11_enter 27 = .ok (.iconst 0, 1) := by decide +kernel
theorem dX11_enter_28 : decode cX11_enter 28 = .ok (.invokestatic 151, 3) := by decide +kernel
theorem dX11_enter_31 : decode cX11_enter 31 = .ok (.iload_n 3, 1) := by decide +kernel
theorem dX11_enter_32 : decode cX11_enter 32 = .ok (.iconst 0, 1) := by decide +kernel
theorem dX11_enter_33 : decode cX11_enter 33 = .ok (.ldc 104, 2) := by decide +kernel
theorem dX11_enter_35 : decode cX11_enter 35 = .ok (.invokestatic 92, 3) := by decide +kernel
theorem dX11_enter_38 : decode cX11_enter 38 = .ok (.invokestatic 96, 3) := by decide +kernel
theorem dX11_enter_41 : decode cX11_enter 41 = .ok (.aload_n 0, 1) := by decide +kernel
theorem dX11_enter_42 : decode cX11_enter 42 = .ok (.getfield 71, 3) := by decide +kernel
theorem dX11_enter_45 : decode cX11_enter 45 = .ok (.iload_n 1, 1) := by decide +kernel
theorem dX11_enter_46 : decode cX11_enter 46 = .ok (.iload_n 2, 1) := by decide +kernel
theorem dX11_enter_47 : decode cX11_enter 47 = .ok (.iload_n 3, 1) := by decide +kernel
theorem dX11_enter_48 : decode cX11_enter 48 = .ok (.invokevirtual 258, 3) := by decide +kernel
theorem dX11_enter_51 : decode cX11_enter 51 = .ok (.ireturn, 1) := by decide +kernel
def B_FC_enter_28   (x1 : Int32) (x2 : Int32) (x3 : Int32) (z0 : Int32) (σ : CS) : Option ((Int32 × Int32) × CS) := if z0 = 0 then some ((3, 0), σ) else (bnd (f_FC_within x3 0 100000 σ) (fun r35 σ35 => if r35 = 0 then some ((1, 0), σ35) else (bnd (f_Rolls_addEntry x1 x2 x3 σ35) (fun r48 σ48 => some ((0, r48), σ48)))))
set_option maxHeartbeats 4000000 in
set_option maxRecDepth 100000 in
theorem w_FC_enter_28 (C : Cx g p s m args meth c A 4 cX11_enter yX11_enter.cls) (hr : meth.sig.returnType = (some .int)) (hl : l.stackTraces = false) (hex : ∀ x ∈ c.exceptionTable.toList, False) {res : (Int32 × Int32) × CS}   (x1 : Int32) (x2 : Int32) (x3 : Int32) (z0 : Int32)  (σ : CS) (ta : Nat → Nat) (hφ : φ0 ≤ ph σ.2.2) (hφ2 : ph σ.2.2 ≤ BB) (h : B_FC_enter_28 x1 x2 x3 z0 σ = some res) : NX g p l e s m args below meth c A 13 304 4 ad Rr φ0 res ta σ [(0, .ref (ad 0)), (1, .int x1), (2, .int x2), (3, .int x3)] 28 [.int z0] := by
  unfold B_FC_enter_28 at h
  refine nx_check C hex (by decide) (fun _ => ct_checkIndex hl) (fun _ hb => cr_checkIndex hb) tw_991 ks_X11_checkIndex ⟨Nat.le_of_ble_eq_true rfl, Nat.le_of_ble_eq_true rfl⟩ dX11_enter_28 (Nat.le_of_ble_eq_true rfl) hφ hφ2 h (fun _ h => ?_)
  refine nw_iload_n C dX11_enter_31 rfl 3 rfl ?_
  refine nw_iconst (v := 0) C dX11_enter_32 (by decide) ?_
  refine nw_ldc (v := 100000) C tw_749 dX11_enter_33 ?_
  refine nx_callSI  (As := [.int x3, .int 0, .int 100000]) (rest := []) C h (fun _ _ e => c_FC_within e hφ2) tw_675 ks_X11_within ⟨Nat.le_of_ble_eq_true rfl, Nat.le_of_ble_eq_true rfl⟩ rfl dX11_enter_35 rfl (Nat.le_of_ble_eq_true rfl) hφ hφ2 (fun r35 σ35 ta h hφ hφ2 => ?_)
  refine nx_check C hex (by decide) (fun _ => ct_checkArgument hl) (fun _ hb => cr_checkArgument hb) tw_678 ks_X11_checkArgument ⟨Nat.le_of_ble_eq_true rfl, Nat.le_of_ble_eq_true rfl⟩ dX11_enter_38 (Nat.le_of_ble_eq_true rfl) hφ hφ2 h (fun _ h => ?_)
  refine nw_aload_n C dX11_enter_41 rfl 0 rfl ?_
  refine nw_get (v := .ref (ad 8)) C in_X11 0 cl_FC rfl 7 (by decide) tw_517 rfl rfl dX11_enter_42 ?_
  refine nw_iload_n C dX11_enter_45 rfl 1 rfl ?_
  refine nw_iload_n C dX11_enter_46 rfl 2 rfl ?_
  refine nw_iload_n C dX11_enter_47 rfl 3 rfl ?_
  refine nx_callVI (q0 := 8) (As := [.int x1, .int x2, .int x3]) (rest := []) C h (fun _ _ e => c_Rolls_addEntry e hφ2) tw_1453 kv_X7_addEntry cl_Rolls rfl ⟨Nat.le_of_ble_eq_true rfl, Nat.le_of_ble_eq_true rfl⟩ rfl dX11_enter_48 rfl (Nat.le_of_ble_eq_true rfl) hφ hφ2 (fun r48 σ48 ta h hφ hφ2 => ?_)
  exact nx_iret C hr dX11_enter_51 hφ hφ2 h
def B_FC_enter_27   (x1 : Int32) (x2 : Int32) (x3 : Int32) (σ : CS) : Option ((Int32 × Int32) × CS) := B_FC_enter_28 x1 x2 x3 0 σ
set_option maxHeartbeats 4000000 in
set_option maxRecDepth 100000 in
theorem w_FC_enter_27 (C : Cx g p s m args meth c A 4 cX11_enter yX11_enter.cls) (hr : meth.sig.returnType = (some .int)) (hl : l.stackTraces = false) (hex : ∀ x ∈ c.exceptionTable.toList, False) {res : (Int32 × Int32) × CS}   (x1 : Int32) (x2 : Int32) (x3 : Int32)  (σ : CS) (ta : Nat → Nat) (hφ : φ0 ≤ ph σ.2.2) (hφ2 : ph σ.2.2 ≤ BB) (h : B_FC_enter_27 x1 x2 x3 σ = some res) : NX g p l e s m args below meth c A 13 304 4 ad Rr φ0 res ta σ [(0, .ref (ad 0)), (1, .int x1), (2, .int x2), (3, .int x3)] 27 [] := by
  unfold B_FC_enter_27 at h
  refine nw_iconst (v := 0) C dX11_enter_27 (by decide) ?_
  exact nw_lv (lv' := [(0, .ref (ad 0)), (1, .int x1), (2, .int x2), (3, .int x3)]) [0, 1, 2, 3] rfl (w_FC_enter_28 C hr hl hex x1 x2 x3 0 _ _ hφ hφ2 h)
def f_FC_enter (p0 : Int32) (p1 : Int32) (p2 : Int32) (σ : CS) : Option ((Int32 × Int32) × CS) := bnd (f_FC_within p0 0 3 σ) (fun r3 σ3 => if r3 = 0 then B_FC_enter_27 p0 p1 p2 σ3 else bnd (f_Table_has 11 p1 σ3) (fun r17 σ17 => if r17 = 0 then B_FC_enter_27 p0 p1 p2 σ17 else B_FC_enter_28 p0 p1 p2 1 σ17))
set_option maxHeartbeats 4000000 in
set_option maxRecDepth 100000 in
theorem c_FC_enter {l : Launch} {g : EG} {ad ta : Nat → Nat} {Rr : va_W} {σ : CS} {res : (Int32 × Int32) × CS} {p0 : Int32} {p1 : Int32} {p2 : Int32} (hl : l.stackTraces = false) (h : f_FC_enter p0 p1 p2 σ = some res) (hφ2 : ph σ.2.2 ≤ BB) : CxI l g yX11_enter (.code yX11_enter cX11_enter 4 (some .int)) 13 304 ad ta Rr σ [.ref (ad 0), .int p0, .int p1, .int p2] res := by
  refine CtX.of rfl (by decide) (Nat.le_of_ble_eq_true rfl) ?_
  intro p e s m args below meth c A C hr hex
  have hφ : ph σ.2.2 ≤ ph σ.2.2 := Nat.le_refl _
  refine nw_zero (ph σ.2.2) ?_
  show NX g p l e s m args below meth c A 13 304 4 ad Rr (ph σ.2.2) res ta σ [(0, .ref (ad 0)), (1, .int p0), (2, .int p1), (3, .int p2)] 0 []
  unfold f_FC_enter at h
  refine nw_iload_n C dX11_enter_0 rfl 1 rfl ?_
  refine nw_iconst (v := 0) C dX11_enter_1 (by decide) ?_
  refine nw_iconst (v := 3) C dX11_enter_2 (by decide) ?_
  refine nx_callSI  (As := [.int p0, .int 0, .int 3]) (rest := []) C h (fun _ _ e => c_FC_within e hφ2) tw_675 ks_X11_within ⟨Nat.le_of_ble_eq_true rfl, Nat.le_of_ble_eq_true rfl⟩ rfl dX11_enter_3 rfl (Nat.le_of_ble_eq_true rfl) hφ hφ2 (fun r3 σ3 ta h hφ hφ2 => ?_)
  refine nw_if_eq (tgt := 27) C dX11_enter_6 (by decide) h (fun _ h => ?_) (fun _ h => ?_)
  · exact nw_lv (lv' := [(0, .ref (ad 0)), (1, .int p0), (2, .int p1), (3, .int p2)]) [0, 1, 2, 3] rfl (w_FC_enter_27 C hr hl hex p0 p1 p2 _ _ hφ hφ2 h)
  · refine nw_aload_n C dX11_enter_9 rfl 0 rfl ?_
    refine nw_get (v := .ref (ad 7)) C in_X11 0 cl_FC rfl 6 (by decide) tw_516 rfl rfl dX11_enter_10 ?_
    refine nw_get (v := .ref (ad 22)) C in_X1 7 cl_Courts rfl 2 (by decide) tw_381 rfl rfl dX11_enter_13 ?_
    refine nw_iload_n C dX11_enter_16 rfl 2 rfl ?_
    refine nx_callVI (q0 := 22) (As := [.int p1]) (rest := []) C h (fun _ _ e => c_Table_has 11 (by decide) e hφ2) tw_990 kv_X9_has (cl_T 11 (by decide)) rfl ⟨Nat.le_of_ble_eq_true rfl, Nat.le_of_ble_eq_true rfl⟩ rfl dX11_enter_17 rfl (Nat.le_of_ble_eq_true rfl) hφ hφ2 (fun r17 σ17 ta h hφ hφ2 => ?_)
    refine nw_if_eq (tgt := 27) C dX11_enter_20 (by decide) h (fun _ h => ?_) (fun _ h => ?_)
    · exact nw_lv (lv' := [(0, .ref (ad 0)), (1, .int p0), (2, .int p1), (3, .int p2)]) [0, 1, 2, 3] rfl (w_FC_enter_27 C hr hl hex p0 p1 p2 _ _ hφ hφ2 h)
    · refine nw_iconst (v := 1) C dX11_enter_23 (by decide) ?_
      refine nw_goto (tgt := 28) C dX11_enter_24 (by decide) ?_
      exact nw_lv (lv' := [(0, .ref (ad 0)), (1, .int p0), (2, .int p1), (3, .int p2)]) [0, 1, 2, 3] rfl (w_FC_enter_28 C hr hl hex p0 p1 p2 1 _ _ hφ hφ2 h)
theorem dX11_joined_0 : decode cX11_joined 0 = .ok (.iload_n 2, 1) := by decide +kernel
theorem dX11_joined_1 : decode cX11_joined 1 = .ok (.iconst 0, 1) := by decide +kernel
theorem dX11_joined_2 : decode cX11_joined 2 = .ok (.iconst 1, 1) := by decide +kernel
theorem dX11_joined_3 : decode cX11_joined 3 = .ok (.invokestatic 92, 3) := by decide +kernel
theorem dX11_joined_6 : decode cX11_joined 6 = .ok (.invokestatic 96, 3) := by decide +kernel
theorem dX11_joined_9 : decode cX11_joined 9 = .ok (.iload_n 2, 1) := by decide +kernel
theorem dX11_joined_10 : decode cX11_joined 10 = .ok (.ifCond .ne 14, 3) := by decide +kernel
theorem dX11_joined_13 : decode cX11_joined 13 = .ok (.aload_n 0, 1) := by decide +kernel
theorem dX11_joined_14 : decode cX11_joined 14 = .ok (.getfield 71, 3) := by decide +kernel
theorem dX11_joined_17 : decode cX11_joined 17 = .ok (.iload_n 1, 1) := by decide +kernel
theorem dX11_joined_18 : decode cX11_joined 18 = .ok (.invokevirtual 264, 3) := by decide +kernel
theorem dX11_joined_21 : decode cX11_joined 21 = .ok (.goto 11, 3) := by decide +kernel
theorem dX11_joined_24 : decode cX11_joined 24 = .ok (.aload_n 0, 1) := by decide +kernel
theorem dX11_joined_25 : decode cX11_joined 25 = .ok (.getfield 71, 3) := by decide +kernel
theorem dX11_joined_28 : decode cX11_joined 28 = .ok (.iload_n 1, 1) := by decide +kernel
theorem dX11_joined_29 : decode cX11_joined 29 = .ok (.invokevirtual 267, 3) := by decide +kernel
theorem dX11_joined_32 : decode cX11_joined 32 = .ok (.ireturn, 1) := by decide +kernel
def f_FC_joined (p0 : Int32) (p1 : Int32) (σ : CS) : Option ((Int32 × Int32) × CS) := bnd (f_FC_within p1 0 1 σ) (fun r3 σ3 => if r3 = 0 then some ((1, 0), σ3) else (if p1 = 0 then bnd (f_Rolls_entryAt p0 σ3) (fun r18 σ18 => some ((0, r18), σ18)) else bnd (f_Rolls_sumAt p0 σ3) (fun r29 σ29 => some ((0, r29), σ29))))
set_option maxHeartbeats 4000000 in
set_option maxRecDepth 100000 in
theorem c_FC_joined {l : Launch} {g : EG} {ad ta : Nat → Nat} {Rr : va_W} {σ : CS} {res : (Int32 × Int32) × CS} {p0 : Int32} {p1 : Int32} (hl : l.stackTraces = false) (h : f_FC_joined p0 p1 σ = some res) (hφ2 : ph σ.2.2 ≤ BB) : CxI l g yX11_joined (.code yX11_joined cX11_joined 3 (some .int)) 13 304 ad ta Rr σ [.ref (ad 0), .int p0, .int p1] res := by
  refine CtX.of rfl (by decide) (Nat.le_of_ble_eq_true rfl) ?_
  intro p e s m args below meth c A C hr hex
  have hφ : ph σ.2.2 ≤ ph σ.2.2 := Nat.le_refl _
  refine nw_zero (ph σ.2.2) ?_
  show NX g p l e s m args below meth c A 13 304 3 ad Rr (ph σ.2.2) res ta σ [(0, .ref (ad 0)), (1, .int p0), (2, .int p1)] 0 []
  unfold f_FC_joined at h
  refine nw_iload_n C dX11_joined_0 rfl 2 rfl ?_
  refine nw_iconst (v := 0) C dX11_joined_1 (by decide) ?_
  refine nw_iconst (v := 1) C dX11_joined_2 (by decide) ?_
  refine nx_callSI  (As := [.int p1, .int 0, .int 1]) (rest := []) C h (fun _ _ e => c_FC_within e hφ2) tw_675 ks_X11_within ⟨Nat.le_of_ble_eq_true rfl, Nat.le_of_ble_eq_true rfl⟩ rfl dX11_joined_3 rfl (Nat.le_of_ble_eq_true rfl) hφ hφ2 (fun r3 σ3 ta h hφ hφ2 => ?_)
  refine nx_check C hex (by decide) (fun _ => ct_checkArgument hl) (fun _ hb => cr_checkArgument hb) tw_678 ks_X11_checkArgument ⟨Nat.le_of_ble_eq_true rfl, Nat.le_of_ble_eq_true rfl⟩ dX11_joined_6 (Nat.le_of_ble_eq_true rfl) hφ hφ2 h (fun _ h => ?_)
  refine nw_iload_n C dX11_joined_9 rfl 2 rfl ?_
  refine nw_if_ne (tgt := 24) C dX11_joined_10 (by decide) h (fun _ h => ?_) (fun _ h => ?_)
  · refine nw_aload_n C dX11_joined_13 rfl 0 rfl ?_
    refine nw_get (v := .ref (ad 8)) C in_X11 0 cl_FC rfl 7 (by decide) tw_517 rfl rfl dX11_joined_14 ?_
    refine nw_iload_n C dX11_joined_17 rfl 1 rfl ?_
    refine nx_callVI (q0 := 8) (As := [.int p0]) (rest := []) C h (fun _ _ e => c_Rolls_entryAt e hφ2) tw_1466 kv_X7_entryAt cl_Rolls rfl ⟨Nat.le_of_ble_eq_true rfl, Nat.le_of_ble_eq_true rfl⟩ rfl dX11_joined_18 rfl (Nat.le_of_ble_eq_true rfl) hφ hφ2 (fun r18 σ18 ta h hφ hφ2 => ?_)
    refine nw_goto (tgt := 32) C dX11_joined_21 (by decide) ?_
    exact nx_iret C hr dX11_joined_32 hφ hφ2 h
  · refine nw_aload_n C dX11_joined_24 rfl 0 rfl ?_
    refine nw_get (v := .ref (ad 8)) C in_X11 0 cl_FC rfl 7 (by decide) tw_517 rfl rfl dX11_joined_25 ?_
    refine nw_iload_n C dX11_joined_28 rfl 1 rfl ?_
    refine nx_callVI (q0 := 8) (As := [.int p0]) (rest := []) C h (fun _ _ e => c_Rolls_sumAt e hφ2) tw_1470 kv_X7_sumAt cl_Rolls rfl ⟨Nat.le_of_ble_eq_true rfl, Nat.le_of_ble_eq_true rfl⟩ rfl dX11_joined_29 rfl (Nat.le_of_ble_eq_true rfl) hφ hφ2 (fun r29 σ29 ta h hφ hφ2 => ?_)
    exact nx_iret C hr dX11_joined_32 hφ hφ2 h
theorem dX11_lodge_0 : decode cX11_lodge 0 = .ok (.aload_n 0, 1) := by decide +kernel
theorem dX11_lodge_1 : decode cX11_lodge 1 = .ok (.getfield 64, 3) := by decide +kernel
theorem dX11_lodge_4 : decode cX11_lodge 4 = .ok (.getfield 77, 3) := by decide +kernel
theorem dX11_lodge_7 : decode cX11_lodge 7 = .ok (.iload_n 1, 1) := by decide +kernel
theorem dX11_lodge_8 : decode cX11_lodge 8 = .ok (.invokevirtual 148, 3) := by decide +kernel
theorem dX11_lodge_11 : decode cX11_lodge 11 = .ok (.invokestatic 151, 3) := by decide +kernel
theorem dX11_lodge_14 : decode cX11_lodge 14 = .ok (.iload_n 2, 1) := by decide +kernel
theorem dX11_lodge_15 : decode cX11_lodge 15 = .ok (.iload_n 3, 1) := by decide +kernel
theorem dX11_lodge_16 : decode cX11_lodge 16 = .ok (.invokestatic 119, 3) := by decide +kernel
theorem dX11_lodge_19 : decode cX11_lodge 19 = .ok (.ifCond .eq 19, 3) := by decide +kernel
theorem dX11_lodge_22 : decode cX11_lodge 22 = .ok (.iload 4, 2) := by decide +kernel
theorem dX11_lodge_24 : decode cX11_lodge 24 = .ok (.iconst 0, 1) := by decide +kernel
theorem dX11_lodge_25 : decode cX11_lodge 25 = .ok (.sipush 4000, 3) := by decide +kernel
theorem dX11_lodge_28 : decode cX11_lodge 28 = .ok (.invokestatic 92, 3) := by decide +kernel
theorem dX11_lodge_31 : decode cX11_lodge 31 = .ok (.ifCond .eq 7, 3) := by decide +kernel
theorem dX11_lodge_34 : decode cX11_lodge 34 = .ok (.iconst 1, 1) := by decide +kernel
theorem dX11_lodge_35 : decode cX11_lodge 35 = .ok (.goto 4, 3) := by decide +kernel
theorem dX11_lodge_38 : decode cX11_lodge 38 = .ok (.iconst 0, 1) := by decide +kernel
theorem dX11_lodge_39 : decode cX11_lodge 39 = .ok (.invokestatic 96, 3) := by decide +kernel
theorem dX11_lodge_42 : decode cX11_lodge 42 = .ok (.aload_n 0, 1) := by decide +kernel
theorem dX11_lodge_43 : decode cX11_lodge 43 = .ok (.getfield 81, 3) := by decide +kernel
theorem dX11_lodge_46 : decode cX11_lodge 46 = .ok (.iload_n 1, 1) := by decide +kernel
theorem dX11_lodge_47 : decode cX11_lodge 47 = .ok (.iload_n 2, 1) := by decide +kernel
theorem dX11_lodge_48 : decode cX11_lodge 48 = .ok (.iload_n 3, 1) := by decide +kernel
theorem dX11_lodge_49 : decode cX11_lodge 49 = .ok (.iload 4, 2) := by decide +kernel
theorem dX11_lodge_51 : decode cX11_lodge 51 = .ok (.invokevirtual 270, 3) := by decide +kernel
theorem dX11_lodge_54 : decode cX11_lodge 54 = .ok (.iconst 1, 1) := by decide +kernel
theorem dX11_lodge_55 : decode cX11_lodge 55 = .ok (.ireturn, 1) := by decide +kernel
def B_FC_lodge_39   (x1 : Int32) (x2 : Int32) (x3 : Int32) (x4 : Int32) (z0 : Int32) (σ : CS) : Option ((Int32 × Int32) × CS) := if z0 = 0 then some ((1, 0), σ) else (bnd (f_Patrols_setLodge x1 x2 x3 x4 σ) (fun _ σ51 => some ((0, 1), σ51)))
set_option maxHeartbeats 4000000 in
set_option maxRecDepth 100000 in
theorem w_FC_lodge_39 (C : Cx g p s m args meth c A 5 cX11_lodge yX11_lodge.cls) (hr : meth.sig.returnType = (some .int)) (hl : l.stackTraces = false) (hex : ∀ x ∈ c.exceptionTable.toList, False) {res : (Int32 × Int32) × CS}   (x1 : Int32) (x2 : Int32) (x3 : Int32) (x4 : Int32) (z0 : Int32)  (σ : CS) (ta : Nat → Nat) (hφ : φ0 ≤ ph σ.2.2) (hφ2 : ph σ.2.2 ≤ BB) (h : B_FC_lodge_39 x1 x2 x3 x4 z0 σ = some res) : NX g p l e s m args below meth c A 13 304 5 ad Rr φ0 res ta σ [(0, .ref (ad 0)), (1, .int x1), (2, .int x2), (3, .int x3), (4, .int x4)] 39 [.int z0] := by
  unfold B_FC_lodge_39 at h
  refine nx_check C hex (by decide) (fun _ => ct_checkArgument hl) (fun _ hb => cr_checkArgument hb) tw_678 ks_X11_checkArgument ⟨Nat.le_of_ble_eq_true rfl, Nat.le_of_ble_eq_true rfl⟩ dX11_lodge_39 (Nat.le_of_ble_eq_true rfl) hφ hφ2 h (fun _ h => ?_)
  refine nw_aload_n C dX11_lodge_42 rfl 0 rfl ?_
  refine nw_get (v := .ref (ad 9)) C in_X11 0 cl_FC rfl 8 (by decide) tw_518 rfl rfl dX11_lodge_43 ?_
  refine nw_iload_n C dX11_lodge_46 rfl 1 rfl ?_
  refine nw_iload_n C dX11_lodge_47 rfl 2 rfl ?_
  refine nw_iload_n C dX11_lodge_48 rfl 3 rfl ?_
  refine nw_iload C dX11_lodge_49 4 rfl ?_
  refine nx_callVV (q0 := 9) (As := [.int x1, .int x2, .int x3, .int x4]) (rest := []) C h (fun _ _ e => c_Patrols_setLodge e hφ2) tw_1487 kv_X4_setLodge cl_Patrols rfl ⟨Nat.le_of_ble_eq_true rfl, Nat.le_of_ble_eq_true rfl⟩ rfl dX11_lodge_51 rfl (Nat.le_of_ble_eq_true rfl) hφ hφ2 (fun r51 σ51 ta h hφ hφ2 => ?_)
  refine nw_iconst (v := 1) C dX11_lodge_54 (by decide) ?_
  exact nx_iret C hr dX11_lodge_55 hφ hφ2 h
def B_FC_lodge_38   (x1 : Int32) (x2 : Int32) (x3 : Int32) (x4 : Int32) (σ : CS) : Option ((Int32 × Int32) × CS) := B_FC_lodge_39 x1 x2 x3 x4 0 σ
set_option maxHeartbeats 4000000 in
set_option maxRecDepth 100000 in
theorem w_FC_lodge_38 (C : Cx g p s m args meth c A 5 cX11_lodge yX11_lodge.cls) (hr : meth.sig.returnType = (some .int)) (hl : l.stackTraces = false) (hex : ∀ x ∈ c.exceptionTable.toList, False) {res : (Int32 × Int32) × CS}   (x1 : Int32) (x2 : Int32) (x3 : Int32) (x4 : Int32)  (σ : CS) (ta : Nat → Nat) (hφ : φ0 ≤ ph σ.2.2) (hφ2 : ph σ.2.2 ≤ BB) (h : B_FC_lodge_38 x1 x2 x3 x4 σ = some res) : NX g p l e s m args below meth c A 13 304 5 ad Rr φ0 res ta σ [(0, .ref (ad 0)), (1, .int x1), (2, .int x2), (3, .int x3), (4, .int x4)] 38 [] := by
  unfold B_FC_lodge_38 at h
  refine nw_iconst (v := 0) C dX11_lodge_38 (by decide) ?_
  exact nw_lv (lv' := [(0, .ref (ad 0)), (1, .int x1), (2, .int x2), (3, .int x3), (4, .int x4)]) [0, 1, 2, 3, 4] rfl (w_FC_lodge_39 C hr hl hex x1 x2 x3 x4 0 _ _ hφ hφ2 h)
def f_FC_lodge (p0 : Int32) (p1 : Int32) (p2 : Int32) (p3 : Int32) (σ : CS) : Option ((Int32 × Int32) × CS) := bnd (f_Table_has 9 p0 σ) (fun r8 σ8 => if r8 = 0 then some ((3, 0), σ8) else (bnd (f_FC_isPlace p1 p2 σ8) (fun r16 σ16 => if r16 = 0 then B_FC_lodge_38 p0 p1 p2 p3 σ16 else bnd (f_FC_within p3 0 4000 σ16) (fun r28 σ28 => if r28 = 0 then B_FC_lodge_38 p0 p1 p2 p3 σ28 else B_FC_lodge_39 p0 p1 p2 p3 1 σ28))))
set_option maxHeartbeats 4000000 in
set_option maxRecDepth 100000 in
theorem c_FC_lodge {l : Launch} {g : EG} {ad ta : Nat → Nat} {Rr : va_W} {σ : CS} {res : (Int32 × Int32) × CS} {p0 : Int32} {p1 : Int32} {p2 : Int32} {p3 : Int32} (hl : l.stackTraces = false) (h : f_FC_lodge p0 p1 p2 p3 σ = some res) (hφ2 : ph σ.2.2 ≤ BB) : CxI l g yX11_lodge (.code yX11_lodge cX11_lodge 5 (some .int)) 13 304 ad ta Rr σ [.ref (ad 0), .int p0, .int p1, .int p2, .int p3] res := by
  refine CtX.of rfl (by decide) (Nat.le_of_ble_eq_true rfl) ?_
  intro p e s m args below meth c A C hr hex
  have hφ : ph σ.2.2 ≤ ph σ.2.2 := Nat.le_refl _
  refine nw_zero (ph σ.2.2) ?_
  show NX g p l e s m args below meth c A 13 304 5 ad Rr (ph σ.2.2) res ta σ [(0, .ref (ad 0)), (1, .int p0), (2, .int p1), (3, .int p2), (4, .int p3)] 0 []
  unfold f_FC_lodge at h
  refine nw_aload_n C dX11_lodge_0 rfl 0 rfl ?_
  refine nw_get (v := .ref (ad 7)) C in_X11 0 cl_FC rfl 6 (by decide) tw_516 rfl rfl dX11_lodge_1 ?_
  refine nw_get (v := .ref (ad 20)) C in_X1 7 cl_Courts rfl 0 (by decide) tw_377 rfl rfl dX11_lodge_4 ?_
  refine nw_iload_n C dX11_lodge_7 rfl 1 rfl ?_
  refine nx_callVI (q0 := 20) (As := [.int p0]) (rest := []) C h (fun _ _ e => c_Table_has 9 (by decide) e hφ2) tw_990 kv_X9_has (cl_T 9 (by decide)) rfl ⟨Nat.le_of_ble_eq_true rfl, Nat.le_of_ble_eq_true rfl⟩ rfl dX11_lodge_8 rfl (Nat.le_of_ble_eq_true rfl) hφ hφ2 (fun r8 σ8 ta h hφ hφ2 => ?_)
  refine nx_check C hex (by decide) (fun _ => ct_checkIndex hl) (fun _ hb => cr_checkIndex hb) tw_991 ks_X11_checkIndex ⟨Nat.le_of_ble_eq_true rfl, Nat.le_of_ble_eq_true rfl⟩ dX11_lodge_11 (Nat.le_of_ble_eq_true rfl) hφ hφ2 h (fun _ h => ?_)
  refine nw_iload_n C dX11_lodge_14 rfl 2 rfl ?_
  refine nw_iload_n C dX11_lodge_15 rfl 3 rfl ?_
  refine nx_callSI  (As := [.int p1, .int p2]) (rest := []) C h (fun _ _ e => c_FC_isPlace e hφ2) tw_919 ks_X11_isPlace ⟨Nat.le_of_ble_eq_true rfl, Nat.le_of_ble_eq_true rfl⟩ rfl dX11_lodge_16 rfl (Nat.le_of_ble_eq_true rfl) hφ hφ2 (fun r16 σ16 ta h hφ hφ2 => ?_)
  refine nw_if_eq (tgt := 38) C dX11_lodge_19 (by decide) h (fun _ h => ?_) (fun _ h => ?_)
  · exact nw_lv (lv' := [(0, .ref (ad 0)), (1, .int p0), (2, .int p1), (3, .int p2), (4, .int p3)]) [0, 1, 2, 3, 4] rfl (w_FC_lodge_38 C hr hl hex p0 p1 p2 p3 _ _ hφ hφ2 h)
  · refine nw_iload C dX11_lodge_22 4 rfl ?_
    refine nw_iconst (v := 0) C dX11_lodge_24 (by decide) ?_
    refine nw_sipush (v := 4000) C dX11_lodge_25 (by decide) ?_
    refine nx_callSI  (As := [.int p3, .int 0, .int 4000]) (rest := []) C h (fun _ _ e => c_FC_within e hφ2) tw_675 ks_X11_within ⟨Nat.le_of_ble_eq_true rfl, Nat.le_of_ble_eq_true rfl⟩ rfl dX11_lodge_28 rfl (Nat.le_of_ble_eq_true rfl) hφ hφ2 (fun r28 σ28 ta h hφ hφ2 => ?_)
    refine nw_if_eq (tgt := 38) C dX11_lodge_31 (by decide) h (fun _ h => ?_) (fun _ h => ?_)
    · exact nw_lv (lv' := [(0, .ref (ad 0)), (1, .int p0), (2, .int p1), (3, .int p2), (4, .int p3)]) [0, 1, 2, 3, 4] rfl (w_FC_lodge_38 C hr hl hex p0 p1 p2 p3 _ _ hφ hφ2 h)
    · refine nw_iconst (v := 1) C dX11_lodge_34 (by decide) ?_
      refine nw_goto (tgt := 39) C dX11_lodge_35 (by decide) ?_
      exact nw_lv (lv' := [(0, .ref (ad 0)), (1, .int p0), (2, .int p1), (3, .int p2), (4, .int p3)]) [0, 1, 2, 3, 4] rfl (w_FC_lodge_39 C hr hl hex p0 p1 p2 p3 1 _ _ hφ hφ2 h)
theorem dX11_spot_0 : decode cX11_spot 0 = .ok (.iload_n 1, 1) := by decide +kernel
theorem dX11_spot_1 : decode cX11_spot 1 = .ok (.iload_n 2, 1) := by decide +kernel
theorem dX11_spot_2 : decode cX11_spot 2 = .ok (.invokestatic 119, 3) := by decide +kernel
theorem dX11_spot_5 : decode cX11_spot 5 = .ok (.ifCond .eq 18, 3) := by decide +kernel
theorem dX11_spot_8 : decode cX11_spot 8 = .ok (.iload_n 3, 1) := by decide +kernel
theorem dX11_spot_9 : decode cX11_spot 9 = .ok (.iconst 1, 1) := by decide +kernel
theorem dX11_spot_10 : decode cX11_spot 10 = .ok (.sipush 1000, 3) := by decide +kernel
theorem dX11_spot_13 : decode cX11_spot 13 = .ok (.invokestatic 92, 3) := by decide +kernel
theorem dX11_spot_16 : decode cX11_spot 16 = .ok (.ifCond .eq 7, 3) := by decide +kernel
theorem dX11_spot_19 : decode cX11_spot 19 = .ok (.iconst 1, 1) := by decide +kernel
theorem dX11_spot_20 : decode cX11_spot 20 = .ok (.goto 4, 3) := by decide +kernel
theorem dX11_spot_23 : decode cX11_spot 23 = .ok (.iconst 0, 1) := by decide +kernel
theorem dX11_spot_24 : decode cX11_spot 24 = .ok (.invokestatic 96, 3) := by decide +kernel
theorem dX11_spot_27 : decode cX11_spot 27 = .ok (.aload_n 0, 1) := by decide +kernel
theorem dX11_spot_28 : decode cX11_spot 28 = .ok (.getfield 81, 3) := by decide +kernel
theorem dX11_spot_31 : decode cX11_spot 31 = .ok (.iload_n 1, 1) := by decide +kernel
theorem dX11_spot_32 : decode cX11_spot 32 = .ok (.iload_n 2, 1) := by decide +kernel
theorem dX11_spot_33 : decode cX11_spot 33 = .ok (.iload_n 3, 1) := by decide +kernel
theorem dX11_spot_34 : decode cX11_spot 34 = .ok (.invokevirtual 274, 3) := by decide +kernel
theorem dX11_spot_37 : decode cX11_spot 37 = .ok (.ireturn, 1) := by decide +kernel
def B_FC_spot_24   (x1 : Int32) (x2 : Int32) (x3 : Int32) (z0 : Int32) (σ : CS) : Option ((Int32 × Int32) × CS) := if z0 = 0 then some ((1, 0), σ) else (bnd (f_Patrols_addSpot x1 x2 x3 σ) (fun r34 σ34 => some ((0, r34), σ34)))
set_option maxHeartbeats 4000000 in
set_option maxRecDepth 100000 in
theorem w_FC_spot_24 (C : Cx g p s m args meth c A 4 cX11_spot yX11_spot.cls) (hr : meth.sig.returnType = (some .int)) (hl : l.stackTraces = false) (hex : ∀ x ∈ c.exceptionTable.toList, False) {res : (Int32 × Int32) × CS}   (x1 : Int32) (x2 : Int32) (x3 : Int32) (z0 : Int32)  (σ : CS) (ta : Nat → Nat) (hφ : φ0 ≤ ph σ.2.2) (hφ2 : ph σ.2.2 ≤ BB) (h : B_FC_spot_24 x1 x2 x3 z0 σ = some res) : NX g p l e s m args below meth c A 13 304 4 ad Rr φ0 res ta σ [(0, .ref (ad 0)), (1, .int x1), (2, .int x2), (3, .int x3)] 24 [.int z0] := by
  unfold B_FC_spot_24 at h
  refine nx_check C hex (by decide) (fun _ => ct_checkArgument hl) (fun _ hb => cr_checkArgument hb) tw_678 ks_X11_checkArgument ⟨Nat.le_of_ble_eq_true rfl, Nat.le_of_ble_eq_true rfl⟩ dX11_spot_24 (Nat.le_of_ble_eq_true rfl) hφ hφ2 h (fun _ h => ?_)
  refine nw_aload_n C dX11_spot_27 rfl 0 rfl ?_
  refine nw_get (v := .ref (ad 9)) C in_X11 0 cl_FC rfl 8 (by decide) tw_518 rfl rfl dX11_spot_28 ?_
  refine nw_iload_n C dX11_spot_31 rfl 1 rfl ?_
  refine nw_iload_n C dX11_spot_32 rfl 2 rfl ?_
  refine nw_iload_n C dX11_spot_33 rfl 3 rfl ?_
  refine nx_callVI (q0 := 9) (As := [.int x1, .int x2, .int x3]) (rest := []) C h (fun _ _ e => c_Patrols_addSpot e hφ2) tw_1499 kv_X4_addSpot cl_Patrols rfl ⟨Nat.le_of_ble_eq_true rfl, Nat.le_of_ble_eq_true rfl⟩ rfl dX11_spot_34 rfl (Nat.le_of_ble_eq_true rfl) hφ hφ2 (fun r34 σ34 ta h hφ hφ2 => ?_)
  exact nx_iret C hr dX11_spot_37 hφ hφ2 h
def B_FC_spot_23   (x1 : Int32) (x2 : Int32) (x3 : Int32) (σ : CS) : Option ((Int32 × Int32) × CS) := B_FC_spot_24 x1 x2 x3 0 σ
set_option maxHeartbeats 4000000 in
set_option maxRecDepth 100000 in
theorem w_FC_spot_23 (C : Cx g p s m args meth c A 4 cX11_spot yX11_spot.cls) (hr : meth.sig.returnType = (some .int)) (hl : l.stackTraces = false) (hex : ∀ x ∈ c.exceptionTable.toList, False) {res : (Int32 × Int32) × CS}   (x1 : Int32) (x2 : Int32) (x3 : Int32)  (σ : CS) (ta : Nat → Nat) (hφ : φ0 ≤ ph σ.2.2) (hφ2 : ph σ.2.2 ≤ BB) (h : B_FC_spot_23 x1 x2 x3 σ = some res) : NX g p l e s m args below meth c A 13 304 4 ad Rr φ0 res ta σ [(0, .ref (ad 0)), (1, .int x1), (2, .int x2), (3, .int x3)] 23 [] := by
  unfold B_FC_spot_23 at h
  refine nw_iconst (v := 0) C dX11_spot_23 (by decide) ?_
  exact nw_lv (lv' := [(0, .ref (ad 0)), (1, .int x1), (2, .int x2), (3, .int x3)]) [0, 1, 2, 3] rfl (w_FC_spot_24 C hr hl hex x1 x2 x3 0 _ _ hφ hφ2 h)
def f_FC_spot (p0 : Int32) (p1 : Int32) (p2 : Int32) (σ : CS) : Option ((Int32 × Int32) × CS) := bnd (f_FC_isPlace p0 p1 σ) (fun r2 σ2 => if r2 = 0 then B_FC_spot_23 p0 p1 p2 σ2 else bnd (f_FC_within p2 1 1000 σ2) (fun r13 σ13 => if r13 = 0 then B_FC_spot_23 p0 p1 p2 σ13 else B_FC_spot_24 p0 p1 p2 1 σ13))
set_option maxHeartbeats 4000000 in
set_option maxRecDepth 100000 in
theorem c_FC_spot {l : Launch} {g : EG} {ad ta : Nat → Nat} {Rr : va_W} {σ : CS} {res : (Int32 × Int32) × CS} {p0 : Int32} {p1 : Int32} {p2 : Int32} (hl : l.stackTraces = false) (h : f_FC_spot p0 p1 p2 σ = some res) (hφ2 : ph σ.2.2 ≤ BB) : CxI l g yX11_spot (.code yX11_spot cX11_spot 4 (some .int)) 13 304 ad ta Rr σ [.ref (ad 0), .int p0, .int p1, .int p2] res := by
  refine CtX.of rfl (by decide) (Nat.le_of_ble_eq_true rfl) ?_
  intro p e s m args below meth c A C hr hex
  have hφ : ph σ.2.2 ≤ ph σ.2.2 := Nat.le_refl _
  refine nw_zero (ph σ.2.2) ?_
  show NX g p l e s m args below meth c A 13 304 4 ad Rr (ph σ.2.2) res ta σ [(0, .ref (ad 0)), (1, .int p0), (2, .int p1), (3, .int p2)] 0 []
  unfold f_FC_spot at h
  refine nw_iload_n C dX11_spot_0 rfl 1 rfl ?_
  refine nw_iload_n C dX11_spot_1 rfl 2 rfl ?_
  refine nx_callSI  (As := [.int p0, .int p1]) (rest := []) C h (fun _ _ e => c_FC_isPlace e hφ2) tw_919 ks_X11_isPlace ⟨Nat.le_of_ble_eq_true rfl, Nat.le_of_ble_eq_true rfl⟩ rfl dX11_spot_2 rfl (Nat.le_of_ble_eq_true rfl) hφ hφ2 (fun r2 σ2 ta h hφ hφ2 => ?_)
  refine nw_if_eq (tgt := 23) C dX11_spot_5 (by decide) h (fun _ h => ?_) (fun _ h => ?_)
  · exact nw_lv (lv' := [(0, .ref (ad 0)), (1, .int p0), (2, .int p1), (3, .int p2)]) [0, 1, 2, 3] rfl (w_FC_spot_23 C hr hl hex p0 p1 p2 _ _ hφ hφ2 h)
  · refine nw_iload_n C dX11_spot_8 rfl 3 rfl ?_
    refine nw_iconst (v := 1) C dX11_spot_9 (by decide) ?_
    refine nw_sipush (v := 1000) C dX11_spot_10 (by decide) ?_
    refine nx_callSI  (As := [.int p2, .int 1, .int 1000]) (rest := []) C h (fun _ _ e => c_FC_within e hφ2) tw_675 ks_X11_within ⟨Nat.le_of_ble_eq_true rfl, Nat.le_of_ble_eq_true rfl⟩ rfl dX11_spot_13 rfl (Nat.le_of_ble_eq_true rfl) hφ hφ2 (fun r13 σ13 ta h hφ hφ2 => ?_)
    refine nw_if_eq (tgt := 23) C dX11_spot_16 (by decide) h (fun _ h => ?_) (fun _ h => ?_)
    · exact nw_lv (lv' := [(0, .ref (ad 0)), (1, .int p0), (2, .int p1), (3, .int p2)]) [0, 1, 2, 3] rfl (w_FC_spot_23 C hr hl hex p0 p1 p2 _ _ hφ hφ2 h)
    · refine nw_iconst (v := 1) C dX11_spot_19 (by decide) ?_
      refine nw_goto (tgt := 24) C dX11_spot_20 (by decide) ?_
      exact nw_lv (lv' := [(0, .ref (ad 0)), (1, .int p0), (2, .int p1), (3, .int p2)]) [0, 1, 2, 3] rfl (w_FC_spot_24 C hr hl hex p0 p1 p2 1 _ _ hφ hφ2 h)
theorem dX11_beat_0 : decode cX11_beat 0 = .ok (.aload_n 0, 1) := by decide +kernel
theorem dX11_beat_1 : decode cX11_beat 1 = .ok (.getfield 81, 3) := by decide +kernel
theorem dX11_beat_4 : decode cX11_beat 4 = .ok (.getfield 283, 3) := by decide +kernel
theorem dX11_beat_7 : decode cX11_beat 7 = .ok (.iload_n 1, 1) := by decide +kernel
theorem dX11_beat_8 : decode cX11_beat 8 = .ok (.invokevirtual 148, 3) := by decide +kernel
theorem dX11_beat_11 : decode cX11_beat 11 = .ok (.invokestatic 151, 3) := by decide +kernel
theorem dX11_beat_14 : decode cX11_beat 14 = .ok (.aload_n 0, 1) := by decide +kernel
theorem dX11_beat_15 : decode cX11_beat 15 = .ok (.getfield 81, 3) := by decide +kernel
theorem dX11_beat_18 : decode cX11_beat 18 = .ok (.invokevirtual 277, 3) := by decide +kernel
theorem dX11_beat_21 : decode cX11_beat 21 = .ok (.aload_n 0, 1) := by decide +kernel
theorem dX11_beat_22 : decode cX11_beat 22 = .ok (.getfield 81, 3) := by decide +kernel
theorem dX11_beat_25 : decode cX11_beat 25 = .ok (.iload_n 1, 1) := by decide +kernel
theorem dX11_beat_26 : decode cX11_beat 26 = .ok (.invokevirtual 286, 3) := by decide +kernel
theorem dX11_beat_29 : decode cX11_beat 29 = .ok (.ireturn, 1) := by decide +kernel
def f_FC_beat (p0 : Int32) (σ : CS) : Option ((Int32 × Int32) × CS) := bnd (f_Table_has 13 p0 σ) (fun r8 σ8 => if r8 = 0 then some ((3, 0), σ8) else (bnd (f_Patrols_plan σ8) (fun _ σ18 => bnd (f_Patrols_wardenOf p0 σ18) (fun r26 σ26 => some ((0, r26), σ26)))))
set_option maxHeartbeats 4000000 in
set_option maxRecDepth 100000 in
theorem c_FC_beat {l : Launch} {g : EG} {ad ta : Nat → Nat} {Rr : va_W} {σ : CS} {res : (Int32 × Int32) × CS} {p0 : Int32} (hl : l.stackTraces = false) (h : f_FC_beat p0 σ = some res) (hφ2 : ph σ.2.2 ≤ BB) : CxI l g yX11_beat (.code yX11_beat cX11_beat 2 (some .int)) 13 304 ad ta Rr σ [.ref (ad 0), .int p0] res := by
  refine CtX.of rfl (by decide) (Nat.le_of_ble_eq_true rfl) ?_
  intro p e s m args below meth c A C hr hex
  have hφ : ph σ.2.2 ≤ ph σ.2.2 := Nat.le_refl _
  refine nw_zero (ph σ.2.2) ?_
  show NX g p l e s m args below meth c A 13 304 2 ad Rr (ph σ.2.2) res ta σ [(0, .ref (ad 0)), (1, .int p0)] 0 []
  unfold f_FC_beat at h
  refine nw_aload_n C dX11_beat_0 rfl 0 rfl ?_
  refine nw_get (v := .ref (ad 9)) C in_X11 0 cl_FC rfl 8 (by decide) tw_518 rfl rfl dX11_beat_1 ?_
  refine nw_get (v := .ref (ad 24)) C in_X4 9 cl_Patrols rfl 1 (by decide) tw_464 rfl rfl dX11_beat_4 ?_
  refine nw_iload_n C dX11_beat_7 rfl 1 rfl ?_
  refine nx_callVI (q0 := 24) (As := [.int p0]) (rest := []) C h (fun _ _ e => c_Table_has 13 (by decide) e hφ2) tw_990 kv_X9_has (cl_T 13 (by decide)) rfl ⟨Nat.le_of_ble_eq_true rfl, Nat.le_of_ble_eq_true rfl⟩ rfl dX11_beat_8 rfl (Nat.le_of_ble_eq_true rfl) hφ hφ2 (fun r8 σ8 ta h hφ hφ2 => ?_)
  refine nx_check C hex (by decide) (fun _ => ct_checkIndex hl) (fun _ hb => cr_checkIndex hb) tw_991 ks_X11_checkIndex ⟨Nat.le_of_ble_eq_true rfl, Nat.le_of_ble_eq_true rfl⟩ dX11_beat_11 (Nat.le_of_ble_eq_true rfl) hφ hφ2 h (fun _ h => ?_)
  refine nw_aload_n C dX11_beat_14 rfl 0 rfl ?_
  refine nw_get (v := .ref (ad 9)) C in_X11 0 cl_FC rfl 8 (by decide) tw_518 rfl rfl dX11_beat_15 ?_
  refine nx_callVV (q0 := 9) (As := []) (rest := []) C h (fun _ _ e => c_Patrols_plan e hφ2) tw_620 kv_X4_plan cl_Patrols rfl ⟨Nat.le_of_ble_eq_true rfl, Nat.le_of_ble_eq_true rfl⟩ rfl dX11_beat_18 rfl (Nat.le_of_ble_eq_true rfl) hφ hφ2 (fun r18 σ18 ta h hφ hφ2 => ?_)
  refine nw_aload_n C dX11_beat_21 rfl 0 rfl ?_
  refine nw_get (v := .ref (ad 9)) C in_X11 0 cl_FC rfl 8 (by decide) tw_518 rfl rfl dX11_beat_22 ?_
  refine nw_iload_n C dX11_beat_25 rfl 1 rfl ?_
  refine nx_callVI (q0 := 9) (As := [.int p0]) (rest := []) C h (fun _ _ e => c_Patrols_wardenOf e hφ2) tw_1511 kv_X4_wardenOf cl_Patrols rfl ⟨Nat.le_of_ble_eq_true rfl, Nat.le_of_ble_eq_true rfl⟩ rfl dX11_beat_26 rfl (Nat.le_of_ble_eq_true rfl) hφ hφ2 (fun r26 σ26 ta h hφ hφ2 => ?_)
  exact nx_iret C hr dX11_beat_29 hφ hφ2 h
end
