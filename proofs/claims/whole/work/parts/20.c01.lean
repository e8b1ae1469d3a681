section
variable {g : EG} {p : Program} {l : Launch} {e : Env} {s : State} {m : MethodId} {args : Array Value} {below : List Frame} {meth : Method} {c : Code} {A : Nat → Prop} {ad am ta : Nat → Nat} {Rr : va_W} {φ0 : Nat}
theorem dX11_addBytes_0 : decode cX11_addBytes 0 = .ok (.bipush 24, 2) := by decide +kernel
theorem dX11_addBytes_2 : decode cX11_addBytes 2 = .ok (.istore_n 2, 1) := by decide +kernel
theorem dX11_addBytes_3 : decode cX11_addBytes 3 = .ok (.iload_n 2, 1) := by decide +kernel
theorem dX11_addBytes_4 : decode cX11_addBytes 4 = .ok (.ifCond .lt 31, 3) := by decide +kernel
theorem dX11_addBytes_7 : decode cX11_addBytes 7 = .ok (.aload_n 0, 1) := by decide +kernel
theorem dX11_addBytes_8 : decode cX11_addBytes 8 = .ok (.getfield 14, 3) := by decide +kernel
theorem dX11_addBytes_11 : decode cX11_addBytes 11 = .ok (.aload_n 0, 1) := by decide +kernel
theorem dX11_addBytes_12 : decode cX11_addBytes 12 = .ok (.getfield 14, 3) := by decide +kernel
theorem dX11_addBytes_15 : decode cX11_addBytes 15 = .ok (.invokevirtual 312, 3) := by decide +kernel
theorem dX11_addBytes_18 : decode cX11_addBytes 18 = .ok (.iconst 0, 1) := by decide +kernel
theorem dX11_addBytes_19 : decode cX11_addBytes 19 = .ok (.iload_n 1, 1) := by decide +kernel
theorem dX11_addBytes_20 : decode cX11_addBytes 20 = .ok (.iload_n 2, 1) := by decide +kernel
theorem dX11_addBytes_21 : decode cX11_addBytes 21 = .ok (.iushr, 1) := by decide +kernel
theorem dX11_addBytes_22 : decode cX11_addBytes 22 = .ok (.sipush 255, 3) := by decide +kernel
theorem dX11_addBytes_25 : decode cX11_addBytes 25 = .ok (.iand, 1) := by decide +kernel
theorem dX11_addBytes_26 : decode cX11_addBytes 26 = .ok (.invokevirtual 203, 3) := by decide +kernel
theorem dX11_addBytes_29 : decode cX11_addBytes 29 = .ok (.iinc 2 (-8), 3) := by decide +kernel
theorem dX11_addBytes_32 : decode cX11_addBytes 32 = .ok (.goto (-29), 3) := by decide +kernel
theorem dX11_addBytes_35 : decode cX11_addBytes 35 = .ok (.return_, 1) := by decide +kernel
def L_FC_addBytes_3  (x1 : Int32) : Nat → Int32 → CS → Option (Int32 × CS)
  | 0, _, _ => none
  | n + 1, x2, σ => if x2 < 0 then some (0, σ) else bnd (f_Table_add 0 σ) (fun r15 σ15 => bnd (f_Table_put 0 r15 0 (((x1.toUInt32 >>> ((x2 : Int32).toUInt32 &&& Int32.toUInt32 31)).toInt32) &&& 255) σ15) (fun _ σ26 => (L_FC_addBytes_3 x1 n) (x2 + (-8)) σ26))
set_option maxHeartbeats 4000000 in
set_option maxRecDepth 100000 in
theorem w_FC_addBytes_3 (C : Cx g p s m args meth c A 3 cX11_addBytes yX11_addBytes.cls) (hr : meth.sig.returnType = none)  {res : Int32 × CS}  (x1 : Int32)  : ∀ (n : Nat) (x2 : Int32) (σ : CS) (ta : Nat → Nat), φ0 ≤ ph σ.2.2 → ph σ.2.2 ≤ BB → L_FC_addBytes_3 x1 n x2 σ = some res → NV g p l e s m args below meth c A 5 222 3 ad Rr φ0 res ta σ [(0, .ref (ad 0)), (1, .int x1), (2, .int x2)] 3 [] := by
  intro n
  induction n with
  | zero =>
    intro x2 σ ta hφ hφ2 h
    exact absurd (show (none : Option (Int32 × CS)) = some res from h) (by intro h9; cases h9)
  | succ n ih =>
    intro x2 σ ta hφ hφ2 h
    rw [L_FC_addBytes_3] at h
    refine nw_iload_n C dX11_addBytes_3 rfl 2 rfl ?_
    refine nw_if_lt (tgt := 35) C dX11_addBytes_4 (by decide) h (fun _ h => ?_) (fun _ h => ?_)
    · exact nc_vret C hr dX11_addBytes_35 hφ hφ2 h
    · refine nw_aload_n C dX11_addBytes_7 rfl 0 rfl ?_
      refine nw_get (v := .ref (ad 11)) C in_X11 0 cl_FC rfl 0 (by decide) tw_510 rfl rfl dX11_addBytes_8 ?_
      refine nw_aload_n C dX11_addBytes_11 rfl 0 rfl ?_
      refine nw_get (v := .ref (ad 11)) C in_X11 0 cl_FC rfl 0 (by decide) tw_510 rfl rfl dX11_addBytes_12 ?_
      refine nc_callVI (q0 := 11) (As := []) (rest := [.ref (ad 11)]) C h (fun _ _ e => c_Table_add 0 (by decide) e hφ2) tw_553 kv_X9_add (cl_T 0 (by decide)) rfl ⟨Nat.le_of_ble_eq_true rfl, Nat.le_of_ble_eq_true rfl⟩ rfl dX11_addBytes_15 rfl (Nat.le_of_ble_eq_true rfl) hφ hφ2 (fun r15 σ15 ta h hφ hφ2 => ?_)
      refine nw_iconst (v := 0) C dX11_addBytes_18 (by decide) ?_
      refine nw_iload_n C dX11_addBytes_19 rfl 1 rfl ?_
      refine nw_iload_n C dX11_addBytes_20 rfl 2 rfl ?_
      refine nw_iushr C dX11_addBytes_21 ?_
      refine nw_sipush (v := 255) C dX11_addBytes_22 (by decide) ?_
      refine nw_iand C dX11_addBytes_25 ?_
      refine nc_callVV (q0 := 11) (As := [.int r15, .int 0, .int (((x1.toUInt32 >>> ((x2 : Int32).toUInt32 &&& Int32.toUInt32 31)).toInt32) &&& 255)]) (rest := []) C h (fun _ _ e => c_Table_put 0 (by decide) e hφ2) tw_554 kv_X9_put (cl_T 0 (by decide)) rfl ⟨Nat.le_of_ble_eq_true rfl, Nat.le_of_ble_eq_true rfl⟩ rfl dX11_addBytes_26 rfl (Nat.le_of_ble_eq_true rfl) hφ hφ2 (fun r26 σ26 ta h hφ hφ2 => ?_)
      refine nw_iinc (lv' := [(2, .int (x2 + (-8))), (0, .ref (ad 0)), (1, .int x1)]) C (x2 + (-8)) dX11_addBytes_29 2 rfl rfl (by decide) rfl ?_
      refine nw_goto (tgt := 3) C dX11_addBytes_32 (by decide) ?_
      exact nw_lv (lv' := [(0, .ref (ad 0)), (1, .int x1), (2, .int (x2 + (-8)))]) [1, 2, 0] rfl (ih (x2 + (-8)) _ _ hφ hφ2 h)
def f_FC_addBytes (p0 : Int32) (σ : CS) : Option (Int32 × CS) := L_FC_addBytes_3 p0 FU 24 σ
set_option maxHeartbeats 4000000 in
set_option maxRecDepth 100000 in
theorem c_FC_addBytes {l : Launch} {g : EG} {ad ta : Nat → Nat} {Rr : va_W} {σ σ' : CS} {r : Int32} {p0 : Int32}  (h : f_FC_addBytes p0 σ = some (r, σ')) (hφ2 : ph σ.2.2 ≤ BB) : CtV l g yX11_addBytes (.code yX11_addBytes cX11_addBytes 3 none) 5 222 ad ta Rr σ [.ref (ad 0), .int p0] r σ' := by
  refine Ct.of rfl (by decide) (Nat.le_of_ble_eq_true rfl) ?_
  intro p e s m args below meth c A C hr
  have hφ : ph σ.2.2 ≤ ph σ.2.2 := Nat.le_refl _
  refine nw_zero (ph σ.2.2) ?_
  show NV g p l e s m args below meth c A 5 222 3 ad Rr (ph σ.2.2) (r, σ') ta σ [(0, .ref (ad 0)), (1, .int p0)] 0 []
  unfold f_FC_addBytes at h
  refine nw_bipush (v := 24) C dX11_addBytes_0 (by decide) ?_
  refine nw_istore_n (lv' := [(2, .int 24), (0, .ref (ad 0)), (1, .int p0)]) C dX11_addBytes_2 rfl (by decide) rfl ?_
  exact nw_lv (lv' := [(0, .ref (ad 0)), (1, .int p0), (2, .int 24)]) [1, 2, 0] rfl (w_FC_addBytes_3 C hr p0 FU 24 _ _ hφ hφ2 h)
theorem dX11_feed_0 : decode cX11_feed 0 = .ok (.aload_n 0, 1) := by decide +kernel
theorem dX11_feed_1 : decode cX11_feed 1 = .ok (.getfield 14, 3) := by decide +kernel
theorem dX11_feed_4 : decode cX11_feed 4 = .ok (.invokevirtual 111, 3) := by decide +kernel
theorem dX11_feed_7 : decode cX11_feed 7 = .ok (.bipush 20, 2) := by decide +kernel
theorem dX11_feed_9 : decode cX11_feed 9 = .ok (.iadd, 1) := by decide +kernel
theorem dX11_feed_10 : decode cX11_feed 10 = .ok (.sipush 400, 3) := by decide +kernel
theorem dX11_feed_13 : decode cX11_feed 13 = .ok (.if_icmp .le 5, 3) := by decide +kernel
theorem dX11_feed_16 : decode cX11_feed 16 = .ok (.iconst (-1), 1) := by decide +kernel
theorem dX11_feed_17 : decode cX11_feed 17 = .ok (.ireturn, 1) := by decide +kernel
theorem dX11_feed_18 : decode cX11_feed 18 = .ok (.aload_n 0, 1) := by decide +kernel
theorem dX11_feed_19 : decode cX11_feed 19 = .ok (.iload_n 1, 1) := by decide +kernel
theorem dX11_feed_20 : decode cX11_feed 20 = .ok (.invokevirtual 115, 3) := by decide +kernel
theorem dX11_feed_23 : decode cX11_feed 23 = .ok (.aload_n 0, 1) := by decide +kernel
theorem dX11_feed_24 : decode cX11_feed 24 = .ok (.iload_n 2, 1) := by decide +kernel
theorem dX11_feed_25 : decode cX11_feed 25 = .ok (.invokevirtual 115, 3) := by decide +kernel
theorem dX11_feed_28 : decode cX11_feed 28 = .ok (.aload_n 0, 1) := by decide +kernel
theorem dX11_feed_29 : decode cX11_feed 29 = .ok (.iload_n 3, 1) := by decide +kernel
theorem dX11_feed_30 : decode cX11_feed 30 = .ok (.invokevirtual 115, 3) := by decide +kernel
theorem dX11_feed_33 : decode cX11_feed 33 = .ok (.aload_n 0, 1) := by decide +kernel
theorem dX11_feed_34 : decode cX11_feed 34 = .ok (.iload 4, 2) := by decide +kernel
theorem dX11_feed_36 : decode cX11_feed 36 = .ok (.invokevirtual 115, 3) := by decide +kernel
theorem dX11_feed_39 : decode cX11_feed 39 = .ok (.aload_n 0, 1) := by decide +kernel
theorem dX11_feed_40 : decode cX11_feed 40 = .ok (.iload 5, 2) := by decide +kernel
theorem dX11_feed_42 : decode cX11_feed 42 = .ok (.invokevirtual 115, 3) := by decide +kernel
theorem dX11_feed_45 : decode cX11_feed 45 = .ok (.aload_n 0, 1) := by decide +kernel
theorem dX11_feed_46 : decode cX11_feed 46 = .ok (.getfield 14, 3) := by decide +kernel
theorem dX11_feed_49 : decode cX11_feed 49 = .ok (.invokevirtual 111, 3) := by decide +kernel
theorem dX11_feed_52 : decode cX11_feed 52 = .ok (.ireturn, 1) := by decide +kernel
def f_FC_feed (p0 : Int32) (p1 : Int32) (p2 : Int32) (p3 : Int32) (p4 : Int32) (σ : CS) : Option (Int32 × CS) := bnd (f_Table_size 0 σ) (fun r4 σ4 => if (r4 + 20) ≤ 400 then bnd (f_FC_addBytes p0 σ4) (fun _ σ20 => bnd (f_FC_addBytes p1 σ20) (fun _ σ25 => bnd (f_FC_addBytes p2 σ25) (fun _ σ30 => bnd (f_FC_addBytes p3 σ30) (fun _ σ36 => bnd (f_FC_addBytes p4 σ36) (fun _ σ42 => bnd (f_Table_size 0 σ42) (fun r49 σ49 => some (r49, σ49))))))) else some ((-1), σ4))
set_option maxHeartbeats 4000000 in
set_option maxRecDepth 100000 in
theorem c_FC_feed {l : Launch} {g : EG} {ad ta : Nat → Nat} {Rr : va_W} {σ σ' : CS} {r : Int32} {p0 : Int32} {p1 : Int32} {p2 : Int32} {p3 : Int32} {p4 : Int32}  (h : f_FC_feed p0 p1 p2 p3 p4 σ = some (r, σ')) (hφ2 : ph σ.2.2 ≤ BB) : CtI l g yX11_feed (.code yX11_feed cX11_feed 6 (some .int)) 6 244 ad ta Rr σ [.ref (ad 0), .int p0, .int p1, .int p2, .int p3, .int p4] r σ' := by
  refine Ct.of rfl (by decide) (Nat.le_of_ble_eq_true rfl) ?_
  intro p e s m args below meth c A C hr
  have hφ : ph σ.2.2 ≤ ph σ.2.2 := Nat.le_refl _
  refine nw_zero (ph σ.2.2) ?_
  show NI g p l e s m args below meth c A 6 244 6 ad Rr (ph σ.2.2) (r, σ') ta σ [(0, .ref (ad 0)), (1, .int p0), (2, .int p1), (3, .int p2), (4, .int p3), (5, .int p4)] 0 []
  unfold f_FC_feed at h
  refine nw_aload_n C dX11_feed_0 rfl 0 rfl ?_
  refine nw_get (v := .ref (ad 11)) C in_X11 0 cl_FC rfl 0 (by decide) tw_510 rfl rfl dX11_feed_1 ?_
  refine nc_callVI (q0 := 11) (As := []) (rest := []) C h (fun _ _ e => c_Table_size 0 (by decide) e hφ2) tw_545 kv_X9_size (cl_T 0 (by decide)) rfl ⟨Nat.le_of_ble_eq_true rfl, Nat.le_of_ble_eq_true rfl⟩ rfl dX11_feed_4 rfl (Nat.le_of_ble_eq_true rfl) hφ hφ2 (fun r4 σ4 ta h hφ hφ2 => ?_)
  refine nw_bipush (v := 20) C dX11_feed_7 (by decide) ?_
  refine nw_iadd C dX11_feed_9 ?_
  refine nw_sipush (v := 400) C dX11_feed_10 (by decide) ?_
  refine nw_icmp_le (tgt := 18) C dX11_feed_13 (by decide) h (fun _ h => ?_) (fun _ h => ?_)
  · refine nw_aload_n C dX11_feed_18 rfl 0 rfl ?_
    refine nw_iload_n C dX11_feed_19 rfl 1 rfl ?_
    refine nc_callVV (q0 := 0) (As := [.int p0]) (rest := []) C h (fun _ _ e => c_FC_addBytes e hφ2) tw_549 kv_X11_addBytes cl_FC rfl ⟨Nat.le_of_ble_eq_true rfl, Nat.le_of_ble_eq_true rfl⟩ rfl dX11_feed_20 rfl (Nat.le_of_ble_eq_true rfl) hφ hφ2 (fun r20 σ20 ta h hφ hφ2 => ?_)
    refine nw_aload_n C dX11_feed_23 rfl 0 rfl ?_
    refine nw_iload_n C dX11_feed_24 rfl 2 rfl ?_
    refine nc_callVV (q0 := 0) (As := [.int p1]) (rest := []) C h (fun _ _ e => c_FC_addBytes e hφ2) tw_549 kv_X11_addBytes cl_FC rfl ⟨Nat.le_of_ble_eq_true rfl, Nat.le_of_ble_eq_true rfl⟩ rfl dX11_feed_25 rfl (Nat.le_of_ble_eq_true rfl) hφ hφ2 (fun r25 σ25 ta h hφ hφ2 => ?_)
    refine nw_aload_n C dX11_feed_28 rfl 0 rfl ?_
    refine nw_iload_n C dX11_feed_29 rfl 3 rfl ?_
    refine nc_callVV (q0 := 0) (As := [.int p2]) (rest := []) C h (fun _ _ e => c_FC_addBytes e hφ2) tw_549 kv_X11_addBytes cl_FC rfl ⟨Nat.le_of_ble_eq_true rfl, Nat.le_of_ble_eq_true rfl⟩ rfl dX11_feed_30 rfl (Nat.le_of_ble_eq_true rfl) hφ hφ2 (fun r30 σ30 ta h hφ hφ2 => ?_)
    refine nw_aload_n C dX11_feed_33 rfl 0 rfl ?_
    refine nw_iload C dX11_feed_34 4 rfl ?_
    refine nc_callVV (q0 := 0) (As := [.int p3]) (rest := []) C h (fun _ _ e => c_FC_addBytes e hφ2) tw_549 kv_X11_addBytes cl_FC rfl ⟨Nat.le_of_ble_eq_true rfl, Nat.le_of_ble_eq_true rfl⟩ rfl dX11_feed_36 rfl (Nat.le_of_ble_eq_true rfl) hφ hφ2 (fun r36 σ36 ta h hφ hφ2 => ?_)
    refine nw_aload_n C dX11_feed_39 rfl 0 rfl ?_
    refine nw_iload C dX11_feed_40 5 rfl ?_
    refine nc_callVV (q0 := 0) (As := [.int p4]) (rest := []) C h (fun _ _ e => c_FC_addBytes e hφ2) tw_549 kv_X11_addBytes cl_FC rfl ⟨Nat.le_of_ble_eq_true rfl, Nat.le_of_ble_eq_true rfl⟩ rfl dX11_feed_42 rfl (Nat.le_of_ble_eq_true rfl) hφ hφ2 (fun r42 σ42 ta h hφ hφ2 => ?_)
    refine nw_aload_n C dX11_feed_45 rfl 0 rfl ?_
    refine nw_get (v := .ref (ad 11)) C in_X11 0 cl_FC rfl 0 (by decide) tw_510 rfl rfl dX11_feed_46 ?_
    refine nc_callVI (q0 := 11) (As := []) (rest := []) C h (fun _ _ e => c_Table_size 0 (by decide) e hφ2) tw_545 kv_X9_size (cl_T 0 (by decide)) rfl ⟨Nat.le_of_ble_eq_true rfl, Nat.le_of_ble_eq_true rfl⟩ rfl dX11_feed_49 rfl (Nat.le_of_ble_eq_true rfl) hφ hφ2 (fun r49 σ49 ta h hφ hφ2 => ?_)
    exact nc_iret C hr dX11_feed_52 hφ hφ2 h
  · refine nw_iconst (v := (-1)) C dX11_feed_16 (by decide) ?_
    exact nc_iret C hr dX11_feed_17 hφ hφ2 h
theorem dX8_markAt_0 : decode cX8_markAt 0 = .ok (.aload_n 0, 1) := by decide +kernel
theorem dX8_markAt_1 : decode cX8_markAt 1 = .ok (.getfield 31, 3) := by decide +kernel
theorem dX8_markAt_4 : decode cX8_markAt 4 = .ok (.ifCond .le 33, 3) := by decide +kernel
theorem dX8_markAt_7 : decode cX8_markAt 7 = .ok (.iload_n 1, 1) := by decide +kernel
theorem dX8_markAt_8 : decode cX8_markAt 8 = .ok (.ifCond .lt 29, 3) := by decide +kernel
theorem dX8_markAt_11 : decode cX8_markAt 11 = .ok (.iload_n 1, 1) := by decide +kernel
theorem dX8_markAt_12 : decode cX8_markAt 12 = .ok (.aload_n 0, 1) := by decide +kernel
theorem dX8_markAt_13 : decode cX8_markAt 13 = .ok (.getfield 35, 3) := by decide +kernel
theorem dX8_markAt_16 : decode cX8_markAt 16 = .ok (.if_icmp .ge 21, 3) := by decide +kernel
theorem dX8_markAt_19 : decode cX8_markAt 19 = .ok (.iload_n 1, 1) := by decide +kernel
theorem dX8_markAt_20 : decode cX8_markAt 20 = .ok (.aload_n 0, 1) := by decide +kernel
theorem dX8_markAt_21 : decode cX8_markAt 21 = .ok (.getfield 22, 3) := by decide +kernel
theorem dX8_markAt_24 : decode cX8_markAt 24 = .ok (.arraylength, 1) := by decide +kernel
theorem dX8_markAt_25 : decode cX8_markAt 25 = .ok (.if_icmp .ge 12, 3) := by decide +kernel
theorem dX8_markAt_28 : decode cX8_markAt 28 = .ok (.aload_n 0, 1) := by decide +kernel
theorem dX8_markAt_29 : decode cX8_markAt 29 = .ok (.getfield 22, 3) := by decide +kernel
theorem dX8_markAt_32 : decode cX8_markAt 32 = .ok (.iload_n 1, 1) := by decide +kernel
theorem dX8_markAt_33 : decode cX8_markAt 33 = .ok (.iaload, 1) := by decide +kernel
theorem dX8_markAt_34 : decode cX8_markAt 34 = .ok (.goto 4, 3) := by decide +kernel
theorem dX8_markAt_37 : decode cX8_markAt 37 = .ok (.iconst (-1), 1) := by decide +kernel
theorem dX8_markAt_38 : decode cX8_markAt 38 = .ok (.ireturn, 1) := by decide +kernel
def f_Search_markAt (p0 : Int32) (σ : CS) : Option (Int32 × CS) := if (σ.1 51) ≤ 0 then some ((-1), σ) else if p0 < 0 then some ((-1), σ) else if (σ.1 49) ≤ p0 then some ((-1), σ) else if 6 ≤ p0 then some ((-1), σ) else gix p0 6 (some ((rd σ 19 p0), σ))
set_option maxHeartbeats 4000000 in
set_option maxRecDepth 100000 in
theorem c_Search_markAt {l : Launch} {g : EG} {ad ta : Nat → Nat} {Rr : va_W} {σ σ' : CS} {r : Int32} {p0 : Int32}  (h : f_Search_markAt p0 σ = some (r, σ')) (hφ2 : ph σ.2.2 ≤ BB) : CtI l g yX8_markAt (.code yX8_markAt cX8_markAt 2 (some .int)) 0 0 ad ta Rr σ [.ref (ad 2), .int p0] r σ' := by
  refine Ct.of rfl (by decide) (Nat.le_of_ble_eq_true rfl) ?_
  intro p e s m args below meth c A C hr
  have hφ : ph σ.2.2 ≤ ph σ.2.2 := Nat.le_refl _
  refine nw_zero (ph σ.2.2) ?_
  show NI g p l e s m args below meth c A 0 0 2 ad Rr (ph σ.2.2) (r, σ') ta σ [(0, .ref (ad 2)), (1, .int p0)] 0 []
  unfold f_Search_markAt at h
  refine nw_aload_n C dX8_markAt_0 rfl 0 rfl ?_
  refine nw_get (v := .int (σ.1 51)) C in_X8 2 cl_Search rfl 6 (by decide) tw_218 rfl rfl dX8_markAt_1 ?_
  refine nw_if_le (tgt := 37) C dX8_markAt_4 (by decide) h (fun _ h => ?_) (fun _ h => ?_)
  · refine nw_iconst (v := (-1)) C dX8_markAt_37 (by decide) ?_
    exact nc_iret C hr dX8_markAt_38 hφ hφ2 h
  · refine nw_iload_n C dX8_markAt_7 rfl 1 rfl ?_
    refine nw_if_lt (tgt := 37) C dX8_markAt_8 (by decide) h (fun _ h => ?_) (fun _ h => ?_)
    · refine nw_iconst (v := (-1)) C dX8_markAt_37 (by decide) ?_
      exact nc_iret C hr dX8_markAt_38 hφ hφ2 h
    · refine nw_iload_n C dX8_markAt_11 rfl 1 rfl ?_
      refine nw_aload_n C dX8_markAt_12 rfl 0 rfl ?_
      refine nw_get (v := .int (σ.1 49)) C in_X8 2 cl_Search rfl 4 (by decide) tw_216 rfl rfl dX8_markAt_13 ?_
      refine nw_icmp_ge (tgt := 37) C dX8_markAt_16 (by decide) h (fun _ h => ?_) (fun _ h => ?_)
      · refine nw_iconst (v := (-1)) C dX8_markAt_37 (by decide) ?_
        exact nc_iret C hr dX8_markAt_38 hφ hφ2 h
      · refine nw_iload_n C dX8_markAt_19 rfl 1 rfl ?_
        refine nw_aload_n C dX8_markAt_20 rfl 0 rfl ?_
        refine nw_get (v := .ref (ad 46)) C in_X8 2 cl_Search rfl 3 (by decide) tw_215 rfl rfl dX8_markAt_21 ?_
        refine nw_alenI C 46 (cl_I 19 rfl) dX8_markAt_24 ?_
        refine nw_st (st' := [.int 6, .int p0]) rfl ?_
        refine nw_icmp_ge (tgt := 37) C dX8_markAt_25 (by decide) h (fun _ h => ?_) (fun _ h => ?_)
        · refine nw_iconst (v := (-1)) C dX8_markAt_37 (by decide) ?_
          exact nc_iret C hr dX8_markAt_38 hφ hφ2 h
        · refine nw_aload_n C dX8_markAt_28 rfl 0 rfl ?_
          refine nw_get (v := .ref (ad 46)) C in_X8 2 cl_Search rfl 3 (by decide) tw_215 rfl rfl dX8_markAt_29 ?_
          refine nw_iload_n C dX8_markAt_32 rfl 1 rfl ?_
          refine nw_iald C 46 (cl_I 19 rfl) dX8_markAt_33 h (fun h => ?_)
          refine nw_goto (tgt := 38) C dX8_markAt_34 (by decide) ?_
          exact nc_iret C hr dX8_markAt_38 hφ hφ2 h
theorem dX11_walked_0 : decode cX11_walked 0 = .ok (.aload_n 0, 1) := by decide +kernel
theorem dX11_walked_1 : decode cX11_walked 1 = .ok (.getfield 30, 3) := by decide +kernel
theorem dX11_walked_4 : decode cX11_walked 4 = .ok (.iload_n 1, 1) := by decide +kernel
theorem dX11_walked_5 : decode cX11_walked 5 = .ok (.invokevirtual 171, 3) := by decide +kernel
theorem dX11_walked_8 : decode cX11_walked 8 = .ok (.ireturn, 1) := by decide +kernel
def f_FC_walked (p0 : Int32) (σ : CS) : Option (Int32 × CS) := bnd (f_Search_markAt p0 σ) (fun r5 σ5 => some (r5, σ5))
set_option maxHeartbeats 4000000 in
set_option maxRecDepth 100000 in
theorem c_FC_walked {l : Launch} {g : EG} {ad ta : Nat → Nat} {Rr : va_W} {σ σ' : CS} {r : Int32} {p0 : Int32}  (h : f_FC_walked p0 σ = some (r, σ')) (hφ2 : ph σ.2.2 ≤ BB) : CtI l g yX11_walked (.code yX11_walked cX11_walked 2 (some .int)) 1 21 ad ta Rr σ [.ref (ad 0), .int p0] r σ' := by
  refine Ct.of rfl (by decide) (Nat.le_of_ble_eq_true rfl) ?_
  intro p e s m args below meth c A C hr
  have hφ : ph σ.2.2 ≤ ph σ.2.2 := Nat.le_refl _
  refine nw_zero (ph σ.2.2) ?_
  show NI g p l e s m args below meth c A 1 21 2 ad Rr (ph σ.2.2) (r, σ') ta σ [(0, .ref (ad 0)), (1, .int p0)] 0 []
  unfold f_FC_walked at h
  refine nw_aload_n C dX11_walked_0 rfl 0 rfl ?_
  refine nw_get (v := .ref (ad 2)) C in_X11 0 cl_FC rfl 2 (by decide) tw_512 rfl rfl dX11_walked_1 ?_
  refine nw_iload_n C dX11_walked_4 rfl 1 rfl ?_
  refine nc_callVI (q0 := 2) (As := [.int p0]) (rest := []) C h (fun _ _ e => c_Search_markAt e hφ2) tw_559 kv_X8_markAt cl_Search rfl ⟨Nat.le_of_ble_eq_true rfl, Nat.le_of_ble_eq_true rfl⟩ rfl dX11_walked_5 rfl (Nat.le_of_ble_eq_true rfl) hφ hφ2 (fun r5 σ5 ta h hφ hφ2 => ?_)
  exact nc_iret C hr dX11_walked_8 hφ hφ2 h
theorem dX11_rivals_0 : decode cX11_rivals 0 = .ok (.aload_n 0, 1) := by decide +kernel
theorem dX11_rivals_1 : decode cX11_rivals 1 = .ok (.getfield 30, 3) := by decide +kernel
theorem dX11_rivals_4 : decode cX11_rivals 4 = .ok (.getfield 174, 3) := by decide +kernel
theorem dX11_rivals_7 : decode cX11_rivals 7 = .ok (.ifCond .le 15, 3) := by decide +kernel
theorem dX11_rivals_10 : decode cX11_rivals 10 = .ok (.aload_n 0, 1) := by decide +kernel
theorem dX11_rivals_11 : decode cX11_rivals 11 = .ok (.getfield 30, 3) := by decide +kernel
theorem dX11_rivals_14 : decode cX11_rivals 14 = .ok (.getfield 174, 3) := by decide +kernel
theorem dX11_rivals_17 : decode cX11_rivals 17 = .ok (.iconst 1, 1) := by decide +kernel
theorem dX11_rivals_18 : decode cX11_rivals 18 = .ok (.isub, 1) := by decide +kernel
theorem dX11_rivals_19 : decode cX11_rivals 19 = .ok (.goto 4, 3) := by decide +kernel
theorem dX11_rivals_22 : decode cX11_rivals 22 = .ok (.iconst (-1), 1) := by decide +kernel
theorem dX11_rivals_23 : decode cX11_rivals 23 = .ok (.ireturn, 1) := by decide +kernel
def f_FC_rivals  (σ : CS) : Option (Int32 × CS) := if (σ.1 51) ≤ 0 then some ((-1), σ) else some (((σ.1 51) - 1), σ)
set_option maxHeartbeats 4000000 in
set_option maxRecDepth 100000 in
theorem c_FC_rivals {l : Launch} {g : EG} {ad ta : Nat → Nat} {Rr : va_W} {σ σ' : CS} {r : Int32}   (h : f_FC_rivals σ = some (r, σ')) (hφ2 : ph σ.2.2 ≤ BB) : CtI l g yX11_rivals (.code yX11_rivals cX11_rivals 1 (some .int)) 0 0 ad ta Rr σ [.ref (ad 0)] r σ' := by
  refine Ct.of rfl (by decide) (Nat.le_of_ble_eq_true rfl) ?_
  intro p e s m args below meth c A C hr
  have hφ : ph σ.2.2 ≤ ph σ.2.2 := Nat.le_refl _
  refine nw_zero (ph σ.2.2) ?_
  show NI g p l e s m args below meth c A 0 0 1 ad Rr (ph σ.2.2) (r, σ') ta σ [(0, .ref (ad 0))] 0 []
  unfold f_FC_rivals at h
  refine nw_aload_n C dX11_rivals_0 rfl 0 rfl ?_
  refine nw_get (v := .ref (ad 2)) C in_X11 0 cl_FC rfl 2 (by decide) tw_512 rfl rfl dX11_rivals_1 ?_
  refine nw_getN (v := .int (σ.1 51)) C in_X8 2 cl_Search rfl 6 (by decide) tw_219 rfl rfl dX11_rivals_4 ?_
  refine nw_if_le (tgt := 22) C dX11_rivals_7 (by decide) h (fun _ h => ?_) (fun _ h => ?_)
  · refine nw_iconst (v := (-1)) C dX11_rivals_22 (by decide) ?_
    exact nc_iret C hr dX11_rivals_23 hφ hφ2 h
  · refine nw_aload_n C dX11_rivals_10 rfl 0 rfl ?_
    refine nw_get (v := .ref (ad 2)) C in_X11 0 cl_FC rfl 2 (by decide) tw_512 rfl rfl dX11_rivals_11 ?_
    refine nw_getN (v := .int (σ.1 51)) C in_X8 2 cl_Search rfl 6 (by decide) tw_219 rfl rfl dX11_rivals_14 ?_
    refine nw_iconst (v := 1) C dX11_rivals_17 (by decide) ?_
    refine nw_isub C dX11_rivals_18 ?_
    refine nw_goto (tgt := 23) C dX11_rivals_19 (by decide) ?_
    exact nc_iret C hr dX11_rivals_23 hφ hφ2 h
theorem dX11_fault_0 : decode cX11_fault 0 = .ok (.aload_n 0, 1) := by decide +kernel
theorem dX11_fault_1 : decode cX11_fault 1 = .ok (.getfield 39, 3) := by decide +kernel
theorem dX11_fault_4 : decode cX11_fault 4 = .ok (.getfield 180, 3) := by decide +kernel
theorem dX11_fault_7 : decode cX11_fault 7 = .ok (.ireturn, 1) := by decide +kernel
def f_FC_fault  (σ : CS) : Option (Int32 × CS) := some ((σ.1 52), σ)
set_option maxHeartbeats 4000000 in
set_option maxRecDepth 100000 in
theorem c_FC_fault {l : Launch} {g : EG} {ad ta : Nat → Nat} {Rr : va_W} {σ σ' : CS} {r : Int32}   (h : f_FC_fault σ = some (r, σ')) (hφ2 : ph σ.2.2 ≤ BB) : CtI l g yX11_fault (.code yX11_fault cX11_fault 1 (some .int)) 0 0 ad ta Rr σ [.ref (ad 0)] r σ' := by
  refine Ct.of rfl (by decide) (Nat.le_of_ble_eq_true rfl) ?_
  intro p e s m args below meth c A C hr
  have hφ : ph σ.2.2 ≤ ph σ.2.2 := Nat.le_refl _
  refine nw_zero (ph σ.2.2) ?_
  show NI g p l e s m args below meth c A 0 0 1 ad Rr (ph σ.2.2) (r, σ') ta σ [(0, .ref (ad 0))] 0 []
  unfold f_FC_fault at h
  refine nw_aload_n C dX11_fault_0 rfl 0 rfl ?_
  refine nw_get (v := .ref (ad 3)) C in_X11 0 cl_FC rfl 3 (by decide) tw_513 rfl rfl dX11_fault_1 ?_
  refine nw_getN (v := .int (σ.1 52)) C in_X3 3 cl_Laws rfl 5 (by decide) tw_284 rfl rfl dX11_fault_4 ?_
  exact nc_iret C hr dX11_fault_7 hφ hφ2 h
theorem dX7_list_0 : decode cX7_list 0 = .ok (.aload_n 0, 1) := by decide +kernel
theorem dX7_list_1 : decode cX7_list 1 = .ok (.iconst 0, 1) := by decide +kernel
theorem dX7_list_2 : decode cX7_list 2 = .ok (.putfield 58, 3) := by decide +kernel
theorem dX7_list_5 : decode cX7_list 5 = .ok (.aload_n 0, 1) := by decide +kernel
theorem dX7_list_6 : decode cX7_list 6 = .ok (.iconst 0, 1) := by decide +kernel
theorem dX7_list_7 : decode cX7_list 7 = .ok (.putfield 55, 3) := by decide +kernel
theorem dX7_list_10 : decode cX7_list 10 = .ok (.iconst 0, 1) := by decide +kernel
theorem dX7_list_11 : decode cX7_list 11 = .ok (.istore_n 1, 1) := by decide +kernel
theorem dX7_list_12 : decode cX7_list 12 = .ok (.iload_n 1, 1) := by decide +kernel
theorem dX7_list_13 : decode cX7_list 13 = .ok (.bipush 40, 2) := by decide +kernel
theorem dX7_list_15 : decode cX7_list 15 = .ok (.if_icmp .ge 99, 3) := by decide +kernel
theorem dX7_list_18 : decode cX7_list 18 = .ok (.iconst 0, 1) := by decide +kernel
theorem dX7_list_19 : decode cX7_list 19 = .ok (.istore_n 2, 1) := by decide +kernel
theorem dX7_list_20 : decode cX7_list 20 = .ok (.iconst 0, 1) := by decide +kernel
theorem dX7_list_21 : decode cX7_list 21 = .ok (.istore_n 3, 1) := by decide +kernel
theorem dX7_list_22 : decode cX7_list 22 = .ok (.iload_n 3, 1) := by decide +kernel
theorem dX7_list_23 : decode cX7_list 23 = .ok (.aload_n 0, 1) := by decide +kernel
theorem dX7_list_24 : decode cX7_list 24 = .ok (.getfield 16, 3) := by decide +kernel
theorem dX7_list_27 : decode cX7_list 27 = .ok (.invokevirtual 33, 3) := by decide +kernel
theorem dX7_list_30 : decode cX7_list 30 = .ok (.if_icmp .ge 30, 3) := by decide +kernel
theorem dX7_list_33 : decode cX7_list 33 = .ok (.iload_n 2, 1) := by decide +kernel
theorem dX7_list_34 : decode cX7_list 34 = .ok (.aload_n 0, 1) := by decide +kernel
theorem dX7_list_35 : decode cX7_list 35 = .ok (.getfield 16, 3) := by decide +kernel
theorem dX7_list_38 : decode cX7_list 38 = .ok (.iload_n 3, 1) := by decide +kernel
theorem dX7_list_39 : decode cX7_list 39 = .ok (.iconst 1, 1) := by decide +kernel
theorem dX7_list_40 : decode cX7_list 40 = .ok (.invokevirtual 37, 3) := by decide +kernel
theorem dX7_list_43 : decode cX7_list 43 = .ok (.iload_n 1, 1) := by decide +kernel
theorem dX7_list_44 : decode cX7_list 44 = .ok (.if_icmp .ne 7, 3) := by decide +kernel
theorem dX7_list_47 : decode cX7_list 47 = .ok (.iconst 1, 1) := by decide +kernel
theorem dX7_list_48 : decode cX7_list 48 = .ok (.goto 4, 3) := by decide +kernel
theorem dX7_list_51 : decode cX7_list 51 = .ok (.iconst 0, 1) := by decide +kernel
theorem dX7_list_52 : decode cX7_list 52 = .ok (.ior, 1) := by decide +kernel
theorem dX7_list_53 : decode cX7_list 53 = .ok (.istore_n 2, 1) := by decide +kernel
theorem dX7_list_54 : decode cX7_list 54 = .ok (.iinc 3 1, 3) := by decide +kernel
theorem dX7_list_57 : decode cX7_list 57 = .ok (.goto (-35), 3) := by decide +kernel
theorem dX7_list_60 : decode cX7_list 60 = .ok (.iload_n 2, 1) := by decide +kernel
theorem dX7_list_61 : decode cX7_list 61 = .ok (.ifCond .eq 38, 3) := by decide +kernel
theorem dX7_list_64 : decode cX7_list 64 = .ok (.aload_n 0, 1) := by decide +kernel
theorem dX7_list_65 : decode cX7_list 65 = .ok (.getfield 58, 3) := by decide +kernel
theorem dX7_list_68 : decode cX7_list 68 = .ok (.aload_n 0, 1) := by decide +kernel
theorem dX7_list_69 : decode cX7_list 69 = .ok (.getfield 20, 3) := by decide +kernel
theorem dX7_list_72 : decode cX7_list 72 = .ok (.arraylength, 1) := by decide +kernel
theorem dX7_list_73 : decode cX7_list 73 = .ok (.if_icmp .ge 26, 3) := by decide +kernel
theorem dX7_list_76 : decode cX7_list 76 = .ok (.aload_n 0, 1) := by decide +kernel
theorem dX7_list_77 : decode cX7_list 77 = .ok (.getfield 20, 3) := by decide +kernel
theorem dX7_list_80 : decode cX7_list 80 = .ok (.aload_n 0, 1) := by decide +kernel
theorem dX7_list_81 : decode cX7_list 81 = .ok (.getfield 58, 3) := by decide +kernel
theorem dX7_list_84 : decode cX7_list 84 = .ok (.iload_n 1, 1) := by decide +kernel
theorem dX7_list_85 : decode cX7_list 85 = .ok (.iastore, 1) := by decide +kernel
theorem dX7_list_86 : decode cX7_list 86 = .ok (.aload_n 0, 1) := by decide +kernel
theorem dX7_list_87 : decode cX7_list 87 = .ok (.dup, 1) := by decide +kernel
theorem dX7_list_88 : decode cX7_list 88 = .ok (.getfield 58, 3) := by decide +kernel
theorem dX7_list_91 : decode cX7_list 91 = .ok (.iconst 1, 1) := by decide +kernel
theorem dX7_list_92 : decode cX7_list 92 = .ok (.iadd, 1) := by decide +kernel
theorem dX7_list_93 : decode cX7_list 93 = .ok (.putfield 58, 3) := by decide +kernel
theorem dX7_list_96 : decode cX7_list 96 = .ok (.goto 12, 3) := by decide +kernel
theorem dX7_list_99 : decode cX7_list 99 = .ok (.iload_n 2, 1) := by decide +kernel
theorem dX7_list_100 : decode cX7_list 100 = .ok (.ifCond .eq 8, 3) := by decide +kernel
theorem dX7_list_103 : decode cX7_list 103 = .ok (.aload_n 0, 1) := by decide +kernel
theorem dX7_list_104 : decode cX7_list 104 = .ok (.iconst 1, 1) := by decide +kernel
theorem dX7_list_105 : decode cX7_list 105 = .ok (.putfield 55, 3) := by decide +kernel
theorem dX7_list_108 : decode cX7_list 108 = .ok (.iinc 1 1, 3) := by decide +kernel
theorem dX7_list_111 : decode cX7_list 111 = .ok (.goto (-99), 3) := by decide +kernel
theorem dX7_list_114 : decode cX7_list 114 = .ok (.return_, 1) := by decide +kernel
def B_Rolls_list_52 (k22 : Int32 → Int32 → CS → Option (Int32 × CS)) (x1 : Int32) (x3 : Int32) (z0 : Int32) (z1 : Int32) (σ : CS) : Option (Int32 × CS) := k22 (z0 ||| z1) (x3 + 1) σ
set_option maxHeartbeats 4000000 in
set_option maxRecDepth 100000 in
theorem w_Rolls_list_52 (C : Cx g p s m args meth c A 4 cX7_list yX7_list.cls) (hr : meth.sig.returnType = none)  {res : Int32 × CS}  (x1 : Int32) (x3 : Int32) (z0 : Int32) (z1 : Int32) {k22 : Int32 → Int32 → CS → Option (Int32 × CS)} (hk22 : ∀ (x2 : Int32) (x3 : Int32) (σ : CS) (ta : Nat → Nat), φ0 ≤ ph σ.2.2 → ph σ.2.2 ≤ BB → k22 x2 x3 σ = some res → NV g p l e s m args below meth c A 1 23 4 ad Rr φ0 res ta σ [(0, .ref (ad 8)), (1, .int x1), (2, .int x2), (3, .int x3)] 22 []) (σ : CS) (ta : Nat → Nat) (hφ : φ0 ≤ ph σ.2.2) (hφ2 : ph σ.2.2 ≤ BB) (h : B_Rolls_list_52 k22 x1 x3 z0 z1 σ = some res) : NV g p l e s m args below meth c A 1 23 4 ad Rr φ0 res ta σ [(0, .ref (ad 8)), (1, .int x1), (3, .int x3)] 52 [.int z1, .int z0] := by
  unfold B_Rolls_list_52 at h
  refine nw_ior C dX7_list_52 ?_
  refine nw_istore_n (lv' := [(2, .int (z0 ||| z1)), (0, .ref (ad 8)), (1, .int x1), (3, .int x3)]) C dX7_list_53 rfl (by decide) rfl ?_
  refine nw_iinc (lv' := [(3, .int (x3 + 1)), (2, .int (z0 ||| z1)), (0, .ref (ad 8)), (1, .int x1)]) C (x3 + 1) dX7_list_54 3 rfl rfl (by decide) rfl ?_
  refine nw_goto (tgt := 22) C dX7_list_57 (by decide) ?_
  exact nw_lv (lv' := [(0, .ref (ad 8)), (1, .int x1), (2, .int (z0 ||| z1)), (3, .int (x3 + 1))]) [2, 3, 1, 0] rfl (hk22 (z0 ||| z1) (x3 + 1) _ _ hφ hφ2 h)
def L_Rolls_list_22 (k60 : Int32 → Int32 → CS → Option (Int32 × CS)) (x1 : Int32) : Nat → Int32 → Int32 → CS → Option (Int32 × CS)
  | 0, _, _, _ => none
  | n + 1, x2, x3, σ => bnd (f_Table_size 12 σ) (fun r27 σ27 => if r27 ≤ x3 then k60 x1 x2 σ27 else bnd (f_Table_get 12 x3 1 σ27) (fun r40 σ40 => if r40 = x1 then B_Rolls_list_52 (L_Rolls_list_22 k60 x1 n) x1 x3 x2 1 σ40 else B_Rolls_list_52 (L_Rolls_list_22 k60 x1 n) x1 x3 x2 0 σ40))
set_option maxHeartbeats 4000000 in
set_option maxRecDepth 100000 in
theorem w_Rolls_list_22 (C : Cx g p s m args meth c A 4 cX7_list yX7_list.cls) (hr : meth.sig.returnType = none)  {res : Int32 × CS}  (x1 : Int32) {k60 : Int32 → Int32 → CS → Option (Int32 × CS)} (hk60 : ∀ (x1 : Int32) (x2 : Int32) (σ : CS) (ta : Nat → Nat), φ0 ≤ ph σ.2.2 → ph σ.2.2 ≤ BB → k60 x1 x2 σ = some res → NV g p l e s m args below meth c A 1 23 4 ad Rr φ0 res ta σ [(0, .ref (ad 8)), (1, .int x1), (2, .int x2)] 60 []) : ∀ (n : Nat) (x2 : Int32) (x3 : Int32) (σ : CS) (ta : Nat → Nat), φ0 ≤ ph σ.2.2 → ph σ.2.2 ≤ BB → L_Rolls_list_22 k60 x1 n x2 x3 σ = some res → NV g p l e s m args below meth c A 1 23 4 ad Rr φ0 res ta σ [(0, .ref (ad 8)), (1, .int x1), (2, .int x2), (3, .int x3)] 22 [] := by
  intro n
  induction n with
  | zero =>
    intro x2 x3 σ ta hφ hφ2 h
    exact absurd (show (none : Option (Int32 × CS)) = some res from h) (by intro h9; cases h9)
  | succ n ih =>
    intro x2 x3 σ ta hφ hφ2 h
    rw [L_Rolls_list_22] at h
    refine nw_iload_n C dX7_list_22 rfl 3 rfl ?_
    refine nw_aload_n C dX7_list_23 rfl 0 rfl ?_
    refine nw_get (v := .ref (ad 23)) C in_X7 8 cl_Rolls rfl 0 (by decide) tw_429 rfl rfl dX7_list_24 ?_
    refine nc_callVI (q0 := 23) (As := []) (rest := [.int x3]) C h (fun _ _ e => c_Table_size 12 (by decide) e hφ2) tw_587 kv_X9_size (cl_T 12 (by decide)) rfl ⟨Nat.le_of_ble_eq_true rfl, Nat.le_of_ble_eq_true rfl⟩ rfl dX7_list_27 rfl (Nat.le_of_ble_eq_true rfl) hφ hφ2 (fun r27 σ27 ta h hφ hφ2 => ?_)
    refine nw_icmp_ge (tgt := 60) C dX7_list_30 (by decide) h (fun _ h => ?_) (fun _ h => ?_)
    · exact nw_lv (lv' := [(0, .ref (ad 8)), (1, .int x1), (2, .int x2)]) [0, 1, 2] rfl (hk60 x1 x2 _ _ hφ hφ2 h)
    · refine nw_iload_n C dX7_list_33 rfl 2 rfl ?_
      refine nw_aload_n C dX7_list_34 rfl 0 rfl ?_
      refine nw_get (v := .ref (ad 23)) C in_X7 8 cl_Rolls rfl 0 (by decide) tw_429 rfl rfl dX7_list_35 ?_
      refine nw_iload_n C dX7_list_38 rfl 3 rfl ?_
      refine nw_iconst (v := 1) C dX7_list_39 (by decide) ?_
      refine nc_callVI (q0 := 23) (As := [.int x3, .int 1]) (rest := [.int x2]) C h (fun _ _ e => c_Table_get 12 (by decide) e hφ2) tw_588 kv_X9_get (cl_T 12 (by decide)) rfl ⟨Nat.le_of_ble_eq_true rfl, Nat.le_of_ble_eq_true rfl⟩ rfl dX7_list_40 rfl (Nat.le_of_ble_eq_true rfl) hφ hφ2 (fun r40 σ40 ta h hφ hφ2 => ?_)
      refine nw_iload_n C dX7_list_43 rfl 1 rfl ?_
      refine nw_icmp_ne (tgt := 51) C dX7_list_44 (by decide) h (fun _ h => ?_) (fun _ h => ?_)
      · refine nw_iconst (v := 1) C dX7_list_47 (by decide) ?_
        refine nw_goto (tgt := 52) C dX7_list_48 (by decide) ?_
        exact nw_lv (lv' := [(0, .ref (ad 8)), (1, .int x1), (3, .int x3)]) [0, 1, 3] rfl (w_Rolls_list_52 C hr x1 x3 x2 1 ih _ _ hφ hφ2 h)
      · refine nw_iconst (v := 0) C dX7_list_51 (by decide) ?_
        exact nw_lv (lv' := [(0, .ref (ad 8)), (1, .int x1), (3, .int x3)]) [0, 1, 3] rfl (w_Rolls_list_52 C hr x1 x3 x2 0 ih _ _ hφ hφ2 h)
def B_Rolls_list_99 (k12 : Int32 → CS → Option (Int32 × CS))  (x1 : Int32) (x2 : Int32) (σ : CS) : Option (Int32 × CS) := if x2 = 0 then k12 (x1 + 1) σ else k12 (x1 + 1) (sF σ 65 1)
set_option maxHeartbeats 4000000 in
set_option maxRecDepth 100000 in
theorem w_Rolls_list_99 (C : Cx g p s m args meth c A 4 cX7_list yX7_list.cls) (hr : meth.sig.returnType = none)  {res : Int32 × CS}   (x1 : Int32) (x2 : Int32) {k12 : Int32 → CS → Option (Int32 × CS)} (hk12 : ∀ (x1 : Int32) (σ : CS) (ta : Nat → Nat), φ0 ≤ ph σ.2.2 → ph σ.2.2 ≤ BB → k12 x1 σ = some res → NV g p l e s m args below meth c A 1 23 4 ad Rr φ0 res ta σ [(0, .ref (ad 8)), (1, .int x1)] 12 []) (σ : CS) (ta : Nat → Nat) (hφ : φ0 ≤ ph σ.2.2) (hφ2 : ph σ.2.2 ≤ BB) (h : B_Rolls_list_99 k12 x1 x2 σ = some res) : NV g p l e s m args below meth c A 1 23 4 ad Rr φ0 res ta σ [(0, .ref (ad 8)), (1, .int x1), (2, .int x2)] 99 [] := by
  unfold B_Rolls_list_99 at h
  refine nw_iload_n C dX7_list_99 rfl 2 rfl ?_
  refine nw_if_eq (tgt := 108) C dX7_list_100 (by decide) h (fun _ h => ?_) (fun _ h => ?_)
  · refine nw_iinc (lv' := [(1, .int (x1 + 1)), (0, .ref (ad 8)), (2, .int x2)]) C (x1 + 1) dX7_list_108 1 rfl rfl (by decide) rfl ?_
    refine nw_goto (tgt := 12) C dX7_list_111 (by decide) ?_
    exact nw_lv (lv' := [(0, .ref (ad 8)), (1, .int (x1 + 1))]) [1, 0] rfl (hk12 (x1 + 1) _ _ hφ hφ2 h)
  · refine nw_aload_n C dX7_list_103 rfl 0 rfl ?_
    refine nw_iconst (v := 1) C dX7_list_104 (by decide) ?_
    refine nw_put (ty := .boolean) C in_X7 8 cl_Rolls rfl 6 (by decide) tyX7 tyX7_ok nmX7 tw_435 rfl rfl (by decide +kernel) (nar_b (Or.inr rfl)) (fit_b (Or.inr rfl)) (Nat.le_of_ble_eq_true rfl) dX7_list_105 cs_Rolls_tooMany ?_
    refine nw_iinc (lv' := [(1, .int (x1 + 1)), (0, .ref (ad 8)), (2, .int x2)]) C (x1 + 1) dX7_list_108 1 rfl rfl (by decide) rfl ?_
    refine nw_goto (tgt := 12) C dX7_list_111 (by decide) ?_
    exact nw_lv (lv' := [(0, .ref (ad 8)), (1, .int (x1 + 1))]) [1, 0] rfl (hk12 (x1 + 1) _ _ hφ hφ2 h)
def B_Rolls_list_60 (k12 : Int32 → CS → Option (Int32 × CS))  (x1 : Int32) (x2 : Int32) (σ : CS) : Option (Int32 × CS) := if x2 = 0 then B_Rolls_list_99 k12 x1 x2 σ else if 8 ≤ (σ.1 64) then B_Rolls_list_99 k12 x1 x2 σ else gix (σ.1 64) 8 (k12 (x1 + 1) (sF (wr σ 23 (σ.1 64) x1) 64 ((σ.1 64) + 1)))
set_option maxHeartbeats 4000000 in
set_option maxRecDepth 100000 in
theorem w_Rolls_list_60 (C : Cx g p s m args meth c A 4 cX7_list yX7_list.cls) (hr : meth.sig.returnType = none)  {res : Int32 × CS}   (x1 : Int32) (x2 : Int32) {k12 : Int32 → CS → Option (Int32 × CS)} (hk12 : ∀ (x1 : Int32) (σ : CS) (ta : Nat → Nat), φ0 ≤ ph σ.2.2 → ph σ.2.2 ≤ BB → k12 x1 σ = some res → NV g p l e s m args below meth c A 1 23 4 ad Rr φ0 res ta σ [(0, .ref (ad 8)), (1, .int x1)] 12 []) (σ : CS) (ta : Nat → Nat) (hφ : φ0 ≤ ph σ.2.2) (hφ2 : ph σ.2.2 ≤ BB) (h : B_Rolls_list_60 k12 x1 x2 σ = some res) : NV g p l e s m args below meth c A 1 23 4 ad Rr φ0 res ta σ [(0, .ref (ad 8)), (1, .int x1), (2, .int x2)] 60 [] := by
  unfold B_Rolls_list_60 at h
  refine nw_iload_n C dX7_list_60 rfl 2 rfl ?_
  refine nw_if_eq (tgt := 99) C dX7_list_61 (by decide) h (fun _ h => ?_) (fun _ h => ?_)
  · exact nw_lv (lv' := [(0, .ref (ad 8)), (1, .int x1), (2, .int x2)]) [0, 1, 2] rfl (w_Rolls_list_99 C hr x1 x2 hk12 _ _ hφ hφ2 h)
  · refine nw_aload_n C dX7_list_64 rfl 0 rfl ?_
    refine nw_get (v := .int (σ.1 64)) C in_X7 8 cl_Rolls rfl 5 (by decide) tw_434 rfl rfl dX7_list_65 ?_
    refine nw_aload_n C dX7_list_68 rfl 0 rfl ?_
    refine nw_get (v := .ref (ad 50)) C in_X7 8 cl_Rolls rfl 1 (by decide) tw_430 rfl rfl dX7_list_69 ?_
    refine nw_alenI C 50 (cl_I 23 rfl) dX7_list_72 ?_
    refine nw_st (st' := [.int 8, .int (σ.1 64)]) rfl ?_
    refine nw_icmp_ge (tgt := 99) C dX7_list_73 (by decide) h (fun _ h => ?_) (fun _ h => ?_)
    · exact nw_lv (lv' := [(0, .ref (ad 8)), (1, .int x1), (2, .int x2)]) [0, 1, 2] rfl (w_Rolls_list_99 C hr x1 x2 hk12 _ _ hφ hφ2 h)
    · refine nw_aload_n C dX7_list_76 rfl 0 rfl ?_
      refine nw_get (v := .ref (ad 50)) C in_X7 8 cl_Rolls rfl 1 (by decide) tw_430 rfl rfl dX7_list_77 ?_
      refine nw_aload_n C dX7_list_80 rfl 0 rfl ?_
      refine nw_get (v := .int (σ.1 64)) C in_X7 8 cl_Rolls rfl 5 (by decide) tw_434 rfl rfl dX7_list_81 ?_
      refine nw_iload_n C dX7_list_84 rfl 1 rfl ?_
      refine nw_iast C 50 (cl_I 23 rfl) dX7_list_85 h (cs_I 23 rfl) (fun h => ?_)
      refine nw_aload_n C dX7_list_86 rfl 0 rfl ?_
      refine nw_dup C dX7_list_87 rfl ?_
      refine nw_get (v := .int (σ.1 64)) C in_X7 8 cl_Rolls rfl 5 (by decide) tw_434 rfl rfl dX7_list_88 ?_
      refine nw_iconst (v := 1) C dX7_list_91 (by decide) ?_
      refine nw_iadd C dX7_list_92 ?_
      refine nw_put (ty := .int) C in_X7 8 cl_Rolls rfl 5 (by decide) tyX7 tyX7_ok nmX7 tw_434 rfl rfl (by decide +kernel) rfl rfl (Nat.le_of_ble_eq_true rfl) dX7_list_93 cs_Rolls_size ?_
      refine nw_goto (tgt := 108) C dX7_list_96 (by decide) ?_
      refine nw_iinc (lv' := [(1, .int (x1 + 1)), (0, .ref (ad 8)), (2, .int x2)]) C (x1 + 1) dX7_list_108 1 rfl rfl (by decide) rfl ?_
      refine nw_goto (tgt := 12) C dX7_list_111 (by decide) ?_
      exact nw_lv (lv' := [(0, .ref (ad 8)), (1, .int (x1 + 1))]) [1, 0] rfl (hk12 (x1 + 1) _ _ hφ hφ2 h)
def L_Rolls_list_12   : Nat → Int32 → CS → Option (Int32 × CS)
  | 0, _, _ => none
  | n + 1, x1, σ => if 40 ≤ x1 then some (0, σ) else L_Rolls_list_22 (B_Rolls_list_60 (L_Rolls_list_12 n)) x1 FU 0 0 σ
set_option maxHeartbeats 4000000 in
set_option maxRecDepth 100000 in
theorem w_Rolls_list_12 (C : Cx g p s m args meth c A 4 cX7_list yX7_list.cls) (hr : meth.sig.returnType = none)  {res : Int32 × CS}    : ∀ (n : Nat) (x1 : Int32) (σ : CS) (ta : Nat → Nat), φ0 ≤ ph σ.2.2 → ph σ.2.2 ≤ BB → L_Rolls_list_12 n x1 σ = some res → NV g p l e s m args below meth c A 1 23 4 ad Rr φ0 res ta σ [(0, .ref (ad 8)), (1, .int x1)] 12 [] := by
  intro n
  induction n with
  | zero =>
    intro x1 σ ta hφ hφ2 h
    exact absurd (show (none : Option (Int32 × CS)) = some res from h) (by intro h9; cases h9)
  | succ n ih =>
    intro x1 σ ta hφ hφ2 h
    rw [L_Rolls_list_12] at h
    refine nw_iload_n C dX7_list_12 rfl 1 rfl ?_
    refine nw_bipush (v := 40) C dX7_list_13 (by decide) ?_
    refine nw_icmp_ge (tgt := 114) C dX7_list_15 (by decide) h (fun _ h => ?_) (fun _ h => ?_)
    · exact nc_vret C hr dX7_list_114 hφ hφ2 h
    · refine nw_iconst (v := 0) C dX7_list_18 (by decide) ?_
      refine nw_istore_n (lv' := [(2, .int 0), (0, .ref (ad 8)), (1, .int x1)]) C dX7_list_19 rfl (by decide) rfl ?_
      refine nw_iconst (v := 0) C dX7_list_20 (by decide) ?_
      refine nw_istore_n (lv' := [(3, .int 0), (2, .int 0), (0, .ref (ad 8)), (1, .int x1)]) C dX7_list_21 rfl (by decide) rfl ?_
      exact nw_lv (lv' := [(0, .ref (ad 8)), (1, .int x1), (2, .int 0), (3, .int 0)]) [2, 3, 1, 0] rfl (w_Rolls_list_22 C hr x1 (fun x1_ x2_ σ_ ta_ hφ_ hφ2_ h_ => w_Rolls_list_60 C hr x1_ x2_ ih σ_ ta_ hφ_ hφ2_ h_) FU 0 0 _ _ hφ hφ2 h)
def f_Rolls_list  (σ : CS) : Option (Int32 × CS) := L_Rolls_list_12 FU 0 (sF (sF σ 64 0) 65 0)
set_option maxHeartbeats 4000000 in
set_option maxRecDepth 100000 in
theorem c_Rolls_list {l : Launch} {g : EG} {ad ta : Nat → Nat} {Rr : va_W} {σ σ' : CS} {r : Int32}   (h : f_Rolls_list σ = some (r, σ')) (hφ2 : ph σ.2.2 ≤ BB) : CtV l g yX7_list (.code yX7_list cX7_list 4 none) 1 23 ad ta Rr σ [.ref (ad 8)] r σ' := by
  refine Ct.of rfl (by decide) (Nat.le_of_ble_eq_true rfl) ?_
  intro p e s m args below meth c A C hr
  have hφ : ph σ.2.2 ≤ ph σ.2.2 := Nat.le_refl _
  refine nw_zero (ph σ.2.2) ?_
  show NV g p l e s m args below meth c A 1 23 4 ad Rr (ph σ.2.2) (r, σ') ta σ [(0, .ref (ad 8))] 0 []
  unfold f_Rolls_list at h
  refine nw_aload_n C dX7_list_0 rfl 0 rfl ?_
  refine nw_iconst (v := 0) C dX7_list_1 (by decide) ?_
  refine nw_put (ty := .int) C in_X7 8 cl_Rolls rfl 5 (by decide) tyX7 tyX7_ok nmX7 tw_434 rfl rfl (by decide +kernel) rfl rfl (Nat.le_of_ble_eq_true rfl) dX7_list_2 cs_Rolls_size ?_
  refine nw_aload_n C dX7_list_5 rfl 0 rfl ?_
  refine nw_iconst (v := 0) C dX7_list_6 (by decide) ?_
  refine nw_put (ty := .boolean) C in_X7 8 cl_Rolls rfl 6 (by decide) tyX7 tyX7_ok nmX7 tw_435 rfl rfl (by decide +kernel) (nar_b (Or.inl rfl)) (fit_b (Or.inl rfl)) (Nat.le_of_ble_eq_true rfl) dX7_list_7 cs_Rolls_tooMany ?_
  refine nw_iconst (v := 0) C dX7_list_10 (by decide) ?_
  refine nw_istore_n (lv' := [(1, .int 0), (0, .ref (ad 8))]) C dX7_list_11 rfl (by decide) rfl ?_
  exact nw_lv (lv' := [(0, .ref (ad 8)), (1, .int 0)]) [1, 0] rfl (w_Rolls_list_12 C hr FU 0 _ _ hφ hφ2 h)
theorem dX7_placeOf_0 : decode cX7_placeOf 0 = .ok (.iconst 0, 1) := by decide +kernel
theorem dX7_placeOf_1 : decode cX7_placeOf 1 = .ok (.istore_n 2, 1) := by decide +kernel
theorem dX7_placeOf_2 : decode cX7_placeOf 2 = .ok (.iload_n 2, 1) := by decide +kernel
theorem dX7_placeOf_3 : decode cX7_placeOf 3 = .ok (.aload_n 0, 1) := by decide +kernel
theorem dX7_placeOf_4 : decode cX7_placeOf 4 = .ok (.getfield 58, 3) := by decide +kernel
theorem dX7_placeOf_7 : decode cX7_placeOf 7 = .ok (.if_icmp .ge 38, 3) := by decide +kernel
theorem dX7_placeOf_10 : decode cX7_placeOf 10 = .ok (.iload_n 2, 1) := by decide +kernel
theorem dX7_placeOf_11 : decode cX7_placeOf 11 = .ok (.aload_n 0, 1) := by decide +kernel
theorem dX7_placeOf_12 : decode cX7_placeOf 12 = .ok (.getfield 20, 3) := by decide +kernel
theorem dX7_placeOf_15 : decode cX7_placeOf 15 = .ok (.arraylength, 1) := by decide +kernel
theorem dX7_placeOf_16 : decode cX7_placeOf 16 = .ok (.if_icmp .ge 29, 3) := by decide +kernel
theorem dX7_placeOf_19 : decode cX7_placeOf 19 = .ok (.aload_n 0, 1) := by decide +kernel
theorem dX7_placeOf_20 : decode cX7_placeOf 20 = .ok (.getfield 20, 3) := by decide +kernel
theorem dX7_placeOf_23 : decode cX7_placeOf 23 = .ok (.iload_n 2, 1) := by decide +kernel
theorem dX7_placeOf_24 : decode cX7_placeOf 24 = .ok (.iaload, 1) := by decide +kernel
theorem dX7_placeOf_25 : decode cX7_placeOf 25 = .ok (.aload_n 0, 1) := by decide +kernel
theorem dX7_placeOf_26 : decode cX7_placeOf 26 = .ok (.getfield 16, 3) := by decide +kernel
theorem dX7_placeOf_29 : decode cX7_placeOf 29 = .ok (.iload_n 1, 1) := by decide +kernel
theorem dX7_placeOf_30 : decode cX7_placeOf 30 = .ok (.iconst 1, 1) := by decide +kernel
theorem dX7_placeOf_31 : decode cX7_placeOf 31 = .ok (.invokevirtual 37, 3) := by decide +kernel
theorem dX7_placeOf_34 : decode cX7_placeOf 34 = .ok (.if_icmp .ne 5, 3) := by decide +kernel
theorem dX7_placeOf_37 : decode cX7_placeOf 37 = .ok (.iload_n 2, 1) := by decide +kernel
theorem dX7_placeOf_38 : decode cX7_placeOf 38 = .ok (.ireturn, 1) := by decide +kernel
theorem dX7_placeOf_39 : decode cX7_placeOf 39 = .ok (.iinc 2 1, 3) := by decide +kernel
theorem dX7_placeOf_42 : decode cX7_placeOf 42 = .ok (.goto (-40), 3) := by decide +kernel
theorem dX7_placeOf_45 : decode cX7_placeOf 45 = .ok (.iconst (-1), 1) := by decide +kernel
theorem dX7_placeOf_46 : decode cX7_placeOf 46 = .ok (.ireturn, 1) := by decide +kernel
def L_Rolls_placeOf_2  (x1 : Int32) : Nat → Int32 → CS → Option (Int32 × CS)
  | 0, _, _ => none
  | n + 1, x2, σ => if (σ.1 64) ≤ x2 then some ((-1), σ) else if 8 ≤ x2 then some ((-1), σ) else gix x2 8 (bnd (f_Table_get 12 x1 1 σ) (fun r31 σ31 => if (rd σ 23 x2) = r31 then some (x2, σ31) else (L_Rolls_placeOf_2 x1 n) (x2 + 1) σ31))
set_option maxHeartbeats 4000000 in
set_option maxRecDepth 100000 in
theorem w_Rolls_placeOf_2 (C : Cx g p s m args meth c A 3 cX7_placeOf yX7_placeOf.cls) (hr : meth.sig.returnType = (some .int))  {res : Int32 × CS}  (x1 : Int32)  : ∀ (n : Nat) (x2 : Int32) (σ : CS) (ta : Nat → Nat), φ0 ≤ ph σ.2.2 → ph σ.2.2 ≤ BB → L_Rolls_placeOf_2 x1 n x2 σ = some res → NI g p l e s m args below meth c A 1 23 3 ad Rr φ0 res ta σ [(0, .ref (ad 8)), (1, .int x1), (2, .int x2)] 2 [] := by
  intro n
  induction n with
  | zero =>
    intro x2 σ ta hφ hφ2 h
    exact absurd (show (none : Option (Int32 × CS)) = some res from h) (by intro h9; cases h9)
  | succ n ih =>
    intro x2 σ ta hφ hφ2 h
    rw [L_Rolls_placeOf_2] at h
    refine nw_iload_n C dX7_placeOf_2 rfl 2 rfl ?_
    refine nw_aload_n C dX7_placeOf_3 rfl 0 rfl ?_
    refine nw_get (v := .int (σ.1 64)) C in_X7 8 cl_Rolls rfl 5 (by decide) tw_434 rfl rfl dX7_placeOf_4 ?_
    refine nw_icmp_ge (tgt := 45) C dX7_placeOf_7 (by decide) h (fun _ h => ?_) (fun _ h => ?_)
    · refine nw_iconst (v := (-1)) C dX7_placeOf_45 (by decide) ?_
      exact nc_iret C hr dX7_placeOf_46 hφ hφ2 h
    · refine nw_iload_n C dX7_placeOf_10 rfl 2 rfl ?_
      refine nw_aload_n C dX7_placeOf_11 rfl 0 rfl ?_
      refine nw_get (v := .ref (ad 50)) C in_X7 8 cl_Rolls rfl 1 (by decide) tw_430 rfl rfl dX7_placeOf_12 ?_
      refine nw_alenI C 50 (cl_I 23 rfl) dX7_placeOf_15 ?_
      refine nw_st (st' := [.int 8, .int x2]) rfl ?_
      refine nw_icmp_ge (tgt := 45) C dX7_placeOf_16 (by decide) h (fun _ h => ?_) (fun _ h => ?_)
      · refine nw_iconst (v := (-1)) C dX7_placeOf_45 (by decide) ?_
        exact nc_iret C hr dX7_placeOf_46 hφ hφ2 h
      · refine nw_aload_n C dX7_placeOf_19 rfl 0 rfl ?_
        refine nw_get (v := .ref (ad 50)) C in_X7 8 cl_Rolls rfl 1 (by decide) tw_430 rfl rfl dX7_placeOf_20 ?_
        refine nw_iload_n C dX7_placeOf_23 rfl 2 rfl ?_
        refine nw_iald C 50 (cl_I 23 rfl) dX7_placeOf_24 h (fun h => ?_)
        refine nw_aload_n C dX7_placeOf_25 rfl 0 rfl ?_
        refine nw_get (v := .ref (ad 23)) C in_X7 8 cl_Rolls rfl 0 (by decide) tw_429 rfl rfl dX7_placeOf_26 ?_
        refine nw_iload_n C dX7_placeOf_29 rfl 1 rfl ?_
        refine nw_iconst (v := 1) C dX7_placeOf_30 (by decide) ?_
        refine nc_callVI (q0 := 23) (As := [.int x1, .int 1]) (rest := [.int (rd σ 23 x2)]) C h (fun _ _ e => c_Table_get 12 (by decide) e hφ2) tw_588 kv_X9_get (cl_T 12 (by decide)) rfl ⟨Nat.le_of_ble_eq_true rfl, Nat.le_of_ble_eq_true rfl⟩ rfl dX7_placeOf_31 rfl (Nat.le_of_ble_eq_true rfl) hφ hφ2 (fun r31 σ31 ta h hφ hφ2 => ?_)
        refine nw_icmp_ne (tgt := 39) C dX7_placeOf_34 (by decide) h (fun _ h => ?_) (fun _ h => ?_)
        · refine nw_iload_n C dX7_placeOf_37 rfl 2 rfl ?_
          exact nc_iret C hr dX7_placeOf_38 hφ hφ2 h
        · refine nw_iinc (lv' := [(2, .int (x2 + 1)), (0, .ref (ad 8)), (1, .int x1)]) C (x2 + 1) dX7_placeOf_39 2 rfl rfl (by decide) rfl ?_
          refine nw_goto (tgt := 2) C dX7_placeOf_42 (by decide) ?_
          exact nw_lv (lv' := [(0, .ref (ad 8)), (1, .int x1), (2, .int (x2 + 1))]) [1, 2, 0] rfl (ih (x2 + 1) _ _ hφ hφ2 h)
def f_Rolls_placeOf (p0 : Int32) (σ : CS) : Option (Int32 × CS) := L_Rolls_placeOf_2 p0 FU 0 σ
set_option maxHeartbeats 4000000 in
set_option maxRecDepth 100000 in
theorem c_Rolls_placeOf {l : Launch} {g : EG} {ad ta : Nat → Nat} {Rr : va_W} {σ σ' : CS} {r : Int32} {p0 : Int32}  (h : f_Rolls_placeOf p0 σ = some (r, σ')) (hφ2 : ph σ.2.2 ≤ BB) : CtI l g yX7_placeOf (.code yX7_placeOf cX7_placeOf 3 (some .int)) 1 23 ad ta Rr σ [.ref (ad 8), .int p0] r σ' := by
  refine Ct.of rfl (by decide) (Nat.le_of_ble_eq_true rfl) ?_
  intro p e s m args below meth c A C hr
  have hφ : ph σ.2.2 ≤ ph σ.2.2 := Nat.le_refl _
  refine nw_zero (ph σ.2.2) ?_
  show NI g p l e s m args below meth c A 1 23 3 ad Rr (ph σ.2.2) (r, σ') ta σ [(0, .ref (ad 8)), (1, .int p0)] 0 []
  unfold f_Rolls_placeOf at h
  refine nw_iconst (v := 0) C dX7_placeOf_0 (by decide) ?_
  refine nw_istore_n (lv' := [(2, .int 0), (0, .ref (ad 8)), (1, .int p0)]) C dX7_placeOf_1 rfl (by decide) rfl ?_
  exact nw_lv (lv' := [(0, .ref (ad 8)), (1, .int p0), (2, .int 0)]) [1, 2, 0] rfl (w_Rolls_placeOf_2 C hr p0 FU 0 _ _ hφ hφ2 h)
theorem dX7_weigh_0 : decode cX7_weigh 0 = .ok (.aload_n 0, 1) := by decide +kernel
theorem dX7_weigh_1 : decode cX7_weigh 1 = .ok (.getfield 24, 3) := by decide +kernel
theorem dX7_weigh_4 : decode cX7_weigh 4 = .ok (.iconst 0, 1) := by decide +kernel
theorem dX7_weigh_5 : decode cX7_weigh 5 = .ok (.invokestatic 87, 3) := by decide +kernel
theorem dX7_weigh_8 : decode cX7_weigh 8 = .ok (.iconst 0, 1) := by decide +kernel
theorem dX7_weigh_9 : decode cX7_weigh 9 = .ok (.istore_n 1, 1) := by decide +kernel
theorem dX7_weigh_10 : decode cX7_weigh 10 = .ok (.iload_n 1, 1) := by decide +kernel
theorem dX7_weigh_11 : decode cX7_weigh 11 = .ok (.aload_n 0, 1) := by decide +kernel
theorem dX7_weigh_12 : decode cX7_weigh 12 = .ok (.getfield 16, 3) := by decide +kernel
theorem dX7_weigh_15 : decode cX7_weigh 15 = .ok (.invokevirtual 33, 3) := by decide +kernel
theorem dX7_weigh_18 : decode cX7_weigh 18 = .ok (.if_icmp .ge 92, 3) := by decide +kernel
theorem dX7_weigh_21 : decode cX7_weigh 21 = .ok (.iload_n 1, 1) := by decide +kernel
theorem dX7_weigh_22 : decode cX7_weigh 22 = .ok (.iconst 1, 1) := by decide +kernel
theorem dX7_weigh_23 : decode cX7_weigh 23 = .ok (.iadd, 1) := by decide +kernel
theorem dX7_weigh_24 : decode cX7_weigh 24 = .ok (.istore_n 2, 1) := by decide +kernel
theorem dX7_weigh_25 : decode cX7_weigh 25 = .ok (.iload_n 2, 1) := by decide +kernel
theorem dX7_weigh_26 : decode cX7_weigh 26 = .ok (.aload_n 0, 1) := by decide +kernel
theorem dX7_weigh_27 : decode cX7_weigh 27 = .ok (.getfield 16, 3) := by decide +kernel
theorem dX7_weigh_30 : decode cX7_weigh 30 = .ok (.invokevirtual 33, 3) := by decide +kernel
theorem dX7_weigh_33 : decode cX7_weigh 33 = .ok (.if_icmp .ge 71, 3) := by decide +kernel
theorem dX7_weigh_36 : decode cX7_weigh 36 = .ok (.aload_n 0, 1) := by decide +kernel
theorem dX7_weigh_37 : decode cX7_weigh 37 = .ok (.getfield 16, 3) := by decide +kernel
theorem dX7_weigh_40 : decode cX7_weigh 40 = .ok (.iload_n 1, 1) := by decide +kernel
theorem dX7_weigh_41 : decode cX7_weigh 41 = .ok (.iconst 0, 1) := by decide +kernel
theorem dX7_weigh_42 : decode cX7_weigh 42 = .ok (.invokevirtual 37, 3) := by decide +kernel
theorem dX7_weigh_45 : decode cX7_weigh 45 = .ok (.aload_n 0, 1) := by decide +kernel
theorem dX7_weigh_46 : decode cX7_weigh 46 = .ok (.getfield 16, 3) := by decide +kernel
theorem dX7_weigh_49 : decode cX7_weigh 49 = .ok (.iload_n 2, 1) := by decide +kernel
theorem dX7_weigh_50 : decode cX7_weigh 50 = .ok (.iconst 0, 1) := by decide +kernel
theorem dX7_weigh_51 : decode cX7_weigh 51 = .ok (.invokevirtual 37, 3) := by decide +kernel
theorem dX7_weigh_54 : decode cX7_weigh 54 = .ok (.if_icmp .eq 6, 3) := by decide +kernel
theorem dX7_weigh_57 : decode cX7_weigh 57 = .ok (.goto 41, 3) := by decide +kernel
theorem dX7_weigh_60 : decode cX7_weigh 60 = .ok (.aload_n 0, 1) := by decide +kernel
theorem dX7_weigh_61 : decode cX7_weigh 61 = .ok (.iload_n 2, 1) := by decide +kernel
theorem dX7_weigh_62 : decode cX7_weigh 62 = .ok (.invokevirtual 93, 3) := by decide +kernel
theorem dX7_weigh_65 : decode cX7_weigh 65 = .ok (.bipush 8, 2) := by decide +kernel
theorem dX7_weigh_67 : decode cX7_weigh 67 = .ok (.imul, 1) := by decide +kernel
theorem dX7_weigh_68 : decode cX7_weigh 68 = .ok (.aload_n 0, 1) := by decide +kernel
theorem dX7_weigh_69 : decode cX7_weigh 69 = .ok (.iload_n 1, 1) := by decide +kernel
theorem dX7_weigh_70 : decode cX7_weigh 70 = .ok (.invokevirtual 93, 3) := by decide +kernel
theorem dX7_weigh_73 : decode cX7_weigh 73 = .ok (.iadd, 1) := by decide +kernel
theorem dX7_weigh_74 : decode cX7_weigh 74 = .ok (.istore_n 3, 1) := by decide +kernel
theorem dX7_weigh_75 : decode cX7_weigh 75 = .ok (.iload_n 3, 1) := by decide +kernel
theorem dX7_weigh_76 : decode cX7_weigh 76 = .ok (.ifCond .lt 22, 3) := by decide +kernel
theorem dX7_weigh_79 : decode cX7_weigh 79 = .ok (.iload_n 3, 1) := by decide +kernel
theorem dX7_weigh_80 : decode cX7_weigh 80 = .ok (.aload_n 0, 1) := by decide +kernel
theorem dX7_weigh_81 : decode cX7_weigh 81 = .ok (.getfield 24, 3) := by decide +kernel
theorem dX7_weigh_84 : decode cX7_weigh 84 = .ok (.arraylength, 1) := by decide +kernel
theorem dX7_weigh_85 : decode cX7_weigh 85 = .ok (.if_icmp .ge 13, 3) := by decide +kernel
theorem dX7_weigh_88 : decode cX7_weigh 88 = .ok (.aload_n 0, 1) := by decide +kernel
theorem dX7_weigh_89 : decode cX7_weigh 89 = .ok (.getfield 24, 3) := by decide +kernel
theorem dX7_weigh_92 : decode cX7_weigh 92 = .ok (.iload_n 3, 1) := by decide +kernel
theorem dX7_weigh_93 : decode cX7_weigh 93 = .ok (.dup2, 1) := by decide +kernel
theorem dX7_weigh_94 : decode cX7_weigh 94 = .ok (.iaload, 1) := by decide +kernel
theorem dX7_weigh_95 : decode cX7_weigh 95 = .ok (.iconst 1, 1) := by decide +kernel
theorem dX7_weigh_96 : decode cX7_weigh 96 = .ok (.iadd, 1) := by decide +kernel
theorem dX7_weigh_97 : decode cX7_weigh 97 = .ok (.iastore, 1) := by decide +kernel
theorem dX7_weigh_98 : decode cX7_weigh 98 = .ok (.iinc 2 1, 3) := by decide +kernel
theorem dX7_weigh_101 : decode cX7_weigh 101 = .ok (.goto (-76), 3) := by decide +kernel
theorem dX7_weigh_104 : decode cX7_weigh 104 = .ok (.iinc 1 1, 3) := by decide +kernel
theorem dX7_weigh_107 : decode cX7_weigh 107 = .ok (.goto (-97), 3) := by decide +kernel
theorem dX7_weigh_110 : decode cX7_weigh 110 = .ok (.return_, 1) := by decide +kernel
def L_Rolls_weigh_25 (k10 : Int32 → CS → Option (Int32 × CS)) (x1 : Int32) : Nat → Int32 → CS → Option (Int32 × CS)
  | 0, _, _ => none
  | n + 1, x2, σ => bnd (f_Table_size 12 σ) (fun r30 σ30 => if r30 ≤ x2 then k10 (x1 + 1) σ30 else bnd (f_Table_get 12 x1 0 σ30) (fun r42 σ42 => bnd (f_Table_get 12 x2 0 σ42) (fun r51 σ51 => if r42 = r51 then bnd (f_Rolls_placeOf x2 σ51) (fun r62 σ62 => bnd (f_Rolls_placeOf x1 σ62) (fun r70 σ70 => if ((r62 * 8) + r70) < 0 then (L_Rolls_weigh_25 k10 x1 n) (x2 + 1) σ70 else if 64 ≤ ((r62 * 8) + r70) then (L_Rolls_weigh_25 k10 x1 n) (x2 + 1) σ70 else gix ((r62 * 8) + r70) 64 (gix ((r62 * 8) + r70) 64 ((L_Rolls_weigh_25 k10 x1 n) (x2 + 1) (wr σ70 24 ((r62 * 8) + r70) ((rd σ70 24 ((r62 * 8) + r70)) + 1)))))) else (L_Rolls_weigh_25 k10 x1 n) (x2 + 1) σ51)))
set_option maxHeartbeats 4000000 in
set_option maxRecDepth 100000 in
theorem w_Rolls_weigh_25 (C : Cx g p s m args meth c A 4 cX7_weigh yX7_weigh.cls) (hr : meth.sig.returnType = none)  {res : Int32 × CS}  (x1 : Int32) {k10 : Int32 → CS → Option (Int32 × CS)} (hk10 : ∀ (x1 : Int32) (σ : CS) (ta : Nat → Nat), φ0 ≤ ph σ.2.2 → ph σ.2.2 ≤ BB → k10 x1 σ = some res → NV g p l e s m args below meth c A 2 45 4 ad Rr φ0 res ta σ [(0, .ref (ad 8)), (1, .int x1)] 10 []) : ∀ (n : Nat) (x2 : Int32) (σ : CS) (ta : Nat → Nat), φ0 ≤ ph σ.2.2 → ph σ.2.2 ≤ BB → L_Rolls_weigh_25 k10 x1 n x2 σ = some res → NV g p l e s m args below meth c A 2 45 4 ad Rr φ0 res ta σ [(0, .ref (ad 8)), (1, .int x1), (2, .int x2)] 25 [] := by
  intro n
  induction n with
  | zero =>
    intro x2 σ ta hφ hφ2 h
    exact absurd (show (none : Option (Int32 × CS)) = some res from h) (by intro h9; cases h9)
  | succ n ih =>
    intro x2 σ ta hφ hφ2 h
    rw [L_Rolls_weigh_25] at h
    refine nw_iload_n C dX7_weigh_25 rfl 2 rfl ?_
    refine nw_aload_n C dX7_weigh_26 rfl 0 rfl ?_
    refine nw_get (v := .ref (ad 23)) C in_X7 8 cl_Rolls rfl 0 (by decide) tw_429 rfl rfl dX7_weigh_27 ?_
    refine nc_callVI (q0 := 23) (As := []) (rest := [.int x2]) C h (fun _ _ e => c_Table_size 12 (by decide) e hφ2) tw_587 kv_X9_size (cl_T 12 (by decide)) rfl ⟨Nat.le_of_ble_eq_true rfl, Nat.le_of_ble_eq_true rfl⟩ rfl dX7_weigh_30 rfl (Nat.le_of_ble_eq_true rfl) hφ hφ2 (fun r30 σ30 ta h hφ hφ2 => ?_)
    refine nw_icmp_ge (tgt := 104) C dX7_weigh_33 (by decide) h (fun _ h => ?_) (fun _ h => ?_)
    · refine nw_iinc (lv' := [(1, .int (x1 + 1)), (0, .ref (ad 8)), (2, .int x2)]) C (x1 + 1) dX7_weigh_104 1 rfl rfl (by decide) rfl ?_
      refine nw_goto (tgt := 10) C dX7_weigh_107 (by decide) ?_
      exact nw_lv (lv' := [(0, .ref (ad 8)), (1, .int (x1 + 1))]) [1, 0] rfl (hk10 (x1 + 1) _ _ hφ hφ2 h)
    · refine nw_aload_n C dX7_weigh_36 rfl 0 rfl ?_
      refine nw_get (v := .ref (ad 23)) C in_X7 8 cl_Rolls rfl 0 (by decide) tw_429 rfl rfl dX7_weigh_37 ?_
      refine nw_iload_n C dX7_weigh_40 rfl 1 rfl ?_
      refine nw_iconst (v := 0) C dX7_weigh_41 (by decide) ?_
      refine nc_callVI (q0 := 23) (As := [.int x1, .int 0]) (rest := []) C h (fun _ _ e => c_Table_get 12 (by decide) e hφ2) tw_588 kv_X9_get (cl_T 12 (by decide)) rfl ⟨Nat.le_of_ble_eq_true rfl, Nat.le_of_ble_eq_true rfl⟩ rfl dX7_weigh_42 rfl (Nat.le_of_ble_eq_true rfl) hφ hφ2 (fun r42 σ42 ta h hφ hφ2 => ?_)
      refine nw_aload_n C dX7_weigh_45 rfl 0 rfl ?_
      refine nw_get (v := .ref (ad 23)) C in_X7 8 cl_Rolls rfl 0 (by decide) tw_429 rfl rfl dX7_weigh_46 ?_
      refine nw_iload_n C dX7_weigh_49 rfl 2 rfl ?_
      refine nw_iconst (v := 0) C dX7_weigh_50 (by decide) ?_
      refine nc_callVI (q0 := 23) (As := [.int x2, .int 0]) (rest := [.int r42]) C h (fun _ _ e => c_Table_get 12 (by decide) e hφ2) tw_588 kv_X9_get (cl_T 12 (by decide)) rfl ⟨Nat.le_of_ble_eq_true rfl, Nat.le_of_ble_eq_true rfl⟩ rfl dX7_weigh_51 rfl (Nat.le_of_ble_eq_true rfl) hφ hφ2 (fun r51 σ51 ta h hφ hφ2 => ?_)
      refine nw_icmp_eq (tgt := 60) C dX7_weigh_54 (by decide) h (fun _ h => ?_) (fun _ h => ?_)
      · refine nw_aload_n C dX7_weigh_60 rfl 0 rfl ?_
        refine nw_iload_n C dX7_weigh_61 rfl 2 rfl ?_
        refine nc_callVI (q0 := 8) (As := [.int x2]) (rest := []) C h (fun _ _ e => c_Rolls_placeOf e hφ2) tw_599 kv_X7_placeOf cl_Rolls rfl ⟨Nat.le_of_ble_eq_true rfl, Nat.le_of_ble_eq_true rfl⟩ rfl dX7_weigh_62 rfl (Nat.le_of_ble_eq_true rfl) hφ hφ2 (fun r62 σ62 ta h hφ hφ2 => ?_)
        refine nw_bipush (v := 8) C dX7_weigh_65 (by decide) ?_
        refine nw_imul C dX7_weigh_67 ?_
        refine nw_aload_n C dX7_weigh_68 rfl 0 rfl ?_
        refine nw_iload_n C dX7_weigh_69 rfl 1 rfl ?_
        refine nc_callVI (q0 := 8) (As := [.int x1]) (rest := [.int (r62 * 8)]) C h (fun _ _ e => c_Rolls_placeOf e hφ2) tw_599 kv_X7_placeOf cl_Rolls rfl ⟨Nat.le_of_ble_eq_true rfl, Nat.le_of_ble_eq_true rfl⟩ rfl dX7_weigh_70 rfl (Nat.le_of_ble_eq_true rfl) hφ hφ2 (fun r70 σ70 ta h hφ hφ2 => ?_)
        refine nw_iadd C dX7_weigh_73 ?_
        refine nw_istore_n (lv' := [(3, .int ((r62 * 8) + r70)), (0, .ref (ad 8)), (1, .int x1), (2, .int x2)]) C dX7_weigh_74 rfl (by decide) rfl ?_
        refine nw_iload_n C dX7_weigh_75 rfl 0 rfl ?_
        refine nw_if_lt (tgt := 98) C dX7_weigh_76 (by decide) h (fun _ h => ?_) (fun _ h => ?_)
        · refine nw_iinc (lv' := [(2, .int (x2 + 1)), (3, .int ((r62 * 8) + r70)), (0, .ref (ad 8)), (1, .int x1)]) C (x2 + 1) dX7_weigh_98 3 rfl rfl (by decide) rfl ?_
          refine nw_goto (tgt := 25) C dX7_weigh_101 (by decide) ?_
          exact nw_lv (lv' := [(0, .ref (ad 8)), (1, .int x1), (2, .int (x2 + 1))]) [2, 3, 0] rfl (ih (x2 + 1) _ _ hφ hφ2 h)
        · refine nw_iload_n C dX7_weigh_79 rfl 0 rfl ?_
          refine nw_aload_n C dX7_weigh_80 rfl 1 rfl ?_
          refine nw_get (v := .ref (ad 51)) C in_X7 8 cl_Rolls rfl 2 (by decide) tw_431 rfl rfl dX7_weigh_81 ?_
          refine nw_alenI C 51 (cl_I 24 rfl) dX7_weigh_84 ?_
          refine nw_st (st' := [.int 64, .int ((r62 * 8) + r70)]) rfl ?_
          refine nw_icmp_ge (tgt := 98) C dX7_weigh_85 (by decide) h (fun _ h => ?_) (fun _ h => ?_)
          · refine nw_iinc (lv' := [(2, .int (x2 + 1)), (3, .int ((r62 * 8) + r70)), (0, .ref (ad 8)), (1, .int x1)]) C (x2 + 1) dX7_weigh_98 3 rfl rfl (by decide) rfl ?_
            refine nw_goto (tgt := 25) C dX7_weigh_101 (by decide) ?_
            exact nw_lv (lv' := [(0, .ref (ad 8)), (1, .int x1), (2, .int (x2 + 1))]) [2, 3, 0] rfl (ih (x2 + 1) _ _ hφ hφ2 h)
          · refine nw_aload_n C dX7_weigh_88 rfl 1 rfl ?_
            refine nw_get (v := .ref (ad 51)) C in_X7 8 cl_Rolls rfl 2 (by decide) tw_431 rfl rfl dX7_weigh_89 ?_
            refine nw_iload_n C dX7_weigh_92 rfl 0 rfl ?_
            refine nw_dup2 C dX7_weigh_93 rfl rfl ?_
            refine nw_iald C 51 (cl_I 24 rfl) dX7_weigh_94 h (fun h => ?_)
            refine nw_iconst (v := 1) C dX7_weigh_95 (by decide) ?_
            refine nw_iadd C dX7_weigh_96 ?_
            refine nw_iast C 51 (cl_I 24 rfl) dX7_weigh_97 h (cs_I 24 rfl) (fun h => ?_)
            refine nw_iinc (lv' := [(2, .int (x2 + 1)), (3, .int ((r62 * 8) + r70)), (0, .ref (ad 8)), (1, .int x1)]) C (x2 + 1) dX7_weigh_98 3 rfl rfl (by decide) rfl ?_
            refine nw_goto (tgt := 25) C dX7_weigh_101 (by decide) ?_
            exact nw_lv (lv' := [(0, .ref (ad 8)), (1, .int x1), (2, .int (x2 + 1))]) [2, 3, 0] rfl (ih (x2 + 1) _ _ hφ hφ2 h)
      · refine nw_goto (tgt := 98) C dX7_weigh_57 (by decide) ?_
        refine nw_iinc (lv' := [(2, .int (x2 + 1)), (0, .ref (ad 8)), (1, .int x1)]) C (x2 + 1) dX7_weigh_98 2 rfl rfl (by decide) rfl ?_
        refine nw_goto (tgt := 25) C dX7_weigh_101 (by decide) ?_
        exact nw_lv (lv' := [(0, .ref (ad 8)), (1, .int x1), (2, .int (x2 + 1))]) [1, 2, 0] rfl (ih (x2 + 1) _ _ hφ hφ2 h)
def L_Rolls_weigh_10   : Nat → Int32 → CS → Option (Int32 × CS)
  | 0, _, _ => none
  | n + 1, x1, σ => bnd (f_Table_size 12 σ) (fun r15 σ15 => if r15 ≤ x1 then some (0, σ15) else L_Rolls_weigh_25 (L_Rolls_weigh_10 n) x1 FU (x1 + 1) σ15)
set_option maxHeartbeats 4000000 in
set_option maxRecDepth 100000 in
theorem w_Rolls_weigh_10 (C : Cx g p s m args meth c A 4 cX7_weigh yX7_weigh.cls) (hr : meth.sig.returnType = none)  {res : Int32 × CS}    : ∀ (n : Nat) (x1 : Int32) (σ : CS) (ta : Nat → Nat), φ0 ≤ ph σ.2.2 → ph σ.2.2 ≤ BB → L_Rolls_weigh_10 n x1 σ = some res → NV g p l e s m args below meth c A 2 45 4 ad Rr φ0 res ta σ [(0, .ref (ad 8)), (1, .int x1)] 10 [] := by
  intro n
  induction n with
  | zero =>
    intro x1 σ ta hφ hφ2 h
    exact absurd (show (none : Option (Int32 × CS)) = some res from h) (by intro h9; cases h9)
  | succ n ih =>
    intro x1 σ ta hφ hφ2 h
    rw [L_Rolls_weigh_10] at h
    refine nw_iload_n C dX7_weigh_10 rfl 1 rfl ?_
    refine nw_aload_n C dX7_weigh_11 rfl 0 rfl ?_
    refine nw_get (v := .ref (ad 23)) C in_X7 8 cl_Rolls rfl 0 (by decide) tw_429 rfl rfl dX7_weigh_12 ?_
    refine nc_callVI (q0 := 23) (As := []) (rest := [.int x1]) C h (fun _ _ e => c_Table_size 12 (by decide) e hφ2) tw_587 kv_X9_size (cl_T 12 (by decide)) rfl ⟨Nat.le_of_ble_eq_true rfl, Nat.le_of_ble_eq_true rfl⟩ rfl dX7_weigh_15 rfl (Nat.le_of_ble_eq_true rfl) hφ hφ2 (fun r15 σ15 ta h hφ hφ2 => ?_)
    refine nw_icmp_ge (tgt := 110) C dX7_weigh_18 (by decide) h (fun _ h => ?_) (fun _ h => ?_)
    · exact nc_vret C hr dX7_weigh_110 hφ hφ2 h
    · refine nw_iload_n C dX7_weigh_21 rfl 1 rfl ?_
      refine nw_iconst (v := 1) C dX7_weigh_22 (by decide) ?_
      refine nw_iadd C dX7_weigh_23 ?_
      refine nw_istore_n (lv' := [(2, .int (x1 + 1)), (0, .ref (ad 8)), (1, .int x1)]) C dX7_weigh_24 rfl (by decide) rfl ?_
      exact nw_lv (lv' := [(0, .ref (ad 8)), (1, .int x1), (2, .int (x1 + 1))]) [1, 2, 0] rfl (w_Rolls_weigh_25 C hr x1 ih FU (x1 + 1) _ _ hφ hφ2 h)
def f_Rolls_weigh  (σ : CS) : Option (Int32 × CS) := bnd (f_java_util_Arrays_fill 24 0 σ) (fun _ σ5 => L_Rolls_weigh_10 FU 0 σ5)
set_option maxHeartbeats 4000000 in
set_option maxRecDepth 100000 in
theorem c_Rolls_weigh {l : Launch} {g : EG} {ad ta : Nat → Nat} {Rr : va_W} {σ σ' : CS} {r : Int32}   (h : f_Rolls_weigh σ = some (r, σ')) (hφ2 : ph σ.2.2 ≤ BB) : CtV l g yX7_weigh (.code yX7_weigh cX7_weigh 4 none) 2 45 ad ta Rr σ [.ref (ad 8)] r σ' := by
  refine Ct.of rfl (by decide) (Nat.le_of_ble_eq_true rfl) ?_
  intro p e s m args below meth c A C hr
  have hφ : ph σ.2.2 ≤ ph σ.2.2 := Nat.le_refl _
  refine nw_zero (ph σ.2.2) ?_
  show NV g p l e s m args below meth c A 2 45 4 ad Rr (ph σ.2.2) (r, σ') ta σ [(0, .ref (ad 8))] 0 []
  unfold f_Rolls_weigh at h
  refine nw_aload_n C dX7_weigh_0 rfl 0 rfl ?_
  refine nw_get (v := .ref (ad 51)) C in_X7 8 cl_Rolls rfl 2 (by decide) tw_431 rfl rfl dX7_weigh_1 ?_
  refine nw_iconst (v := 0) C dX7_weigh_4 (by decide) ?_
  refine nc_callSV  (As := [.ref (ad 51), .int 0]) (rest := []) C h (fun _ _ e => c_java_util_Arrays_fill 24 rfl e hφ2) tw_596 ks_J7_fill_53178 ⟨Nat.le_of_ble_eq_true rfl, Nat.le_of_ble_eq_true rfl⟩ rfl dX7_weigh_5 rfl (Nat.le_of_ble_eq_true rfl) hφ hφ2 (fun r5 σ5 ta h hφ hφ2 => ?_)
  refine nw_iconst (v := 0) C dX7_weigh_8 (by decide) ?_
  refine nw_istore_n (lv' := [(1, .int 0), (0, .ref (ad 8))]) C dX7_weigh_9 rfl (by decide) rfl ?_
  exact nw_lv (lv' := [(0, .ref (ad 8)), (1, .int 0)]) [1, 0] rfl (w_Rolls_weigh_10 C hr FU 0 _ _ hφ hφ2 h)
theorem dX7_quarrelOf_0 : decode cX7_quarrelOf 0 = .ok (.iload_n 2, 1) := by decide +kernel
theorem dX7_quarrelOf_1 : decode cX7_quarrelOf 1 = .ok (.iconst 1, 1) := by decide +kernel
theorem dX7_quarrelOf_2 : decode cX7_quarrelOf 2 = .ok (.iload_n 1, 1) := by decide +kernel
theorem dX7_quarrelOf_3 : decode cX7_quarrelOf 3 = .ok (.ishl, 1) := by decide +kernel
theorem dX7_quarrelOf_4 : decode cX7_quarrelOf 4 = .ok (.ior, 1) := by decide +kernel
theorem dX7_quarrelOf_5 : decode cX7_quarrelOf 5 = .ok (.istore_n 3, 1) := by decide +kernel
theorem dX7_quarrelOf_6 : decode cX7_quarrelOf 6 = .ok (.iload_n 3, 1) := by decide +kernel
theorem dX7_quarrelOf_7 : decode cX7_quarrelOf 7 = .ok (.aload_n 0, 1) := by decide +kernel
theorem dX7_quarrelOf_8 : decode cX7_quarrelOf 8 = .ok (.getfield 27, 3) := by decide +kernel
theorem dX7_quarrelOf_11 : decode cX7_quarrelOf 11 = .ok (.arraylength, 1) := by decide +kernel
theorem dX7_quarrelOf_12 : decode cX7_quarrelOf 12 = .ok (.if_icmp .ge 12, 3) := by decide +kernel
theorem dX7_quarrelOf_15 : decode cX7_quarrelOf 15 = .ok (.aload_n 0, 1) := by decide +kernel
theorem dX7_quarrelOf_16 : decode cX7_quarrelOf 16 = .ok (.getfield 27, 3) := by decide +kernel
theorem dX7_quarrelOf_19 : decode cX7_quarrelOf 19 = .ok (.iload_n 3, 1) := by decide +kernel
theorem dX7_quarrelOf_20 : decode cX7_quarrelOf 20 = .ok (.iaload, 1) := by decide +kernel
theorem dX7_quarrelOf_21 : decode cX7_quarrelOf 21 = .ok (.goto 4, 3) := by decide +kernel
theorem dX7_quarrelOf_24 : decode cX7_quarrelOf 24 = .ok (.iconst 0, 1) := by decide +kernel
theorem dX7_quarrelOf_25 : decode cX7_quarrelOf 25 = .ok (.istore 4, 2) := by decide +kernel
theorem dX7_quarrelOf_27 : decode cX7_quarrelOf 27 = .ok (.iconst 0, 1) := by decide +kernel
theorem dX7_quarrelOf_28 : decode cX7_quarrelOf 28 = .ok (.istore 5, 2) := by decide +kernel
theorem dX7_quarrelOf_30 : decode cX7_quarrelOf 30 = .ok (.iload 5, 2) := by decide +kernel
theorem dX7_quarrelOf_32 : decode cX7_quarrelOf 32 = .ok (.aload_n 0, 1) := by decide +kernel
theorem dX7_quarrelOf_33 : decode cX7_quarrelOf 33 = .ok (.getfield 58, 3) := by decide +kernel
theorem dX7_quarrelOf_36 : decode cX7_quarrelOf 36 = .ok (.if_icmp .ge 49, 3) := by decide +kernel
theorem dX7_quarrelOf_39 : decode cX7_quarrelOf 39 = .ok (.iload_n 1, 1) := by decide +kernel
theorem dX7_quarrelOf_40 : decode cX7_quarrelOf 40 = .ok (.bipush 8, 2) := by decide +kernel
theorem dX7_quarrelOf_42 : decode cX7_quarrelOf 42 = .ok (.imul, 1) := by decide +kernel
theorem dX7_quarrelOf_43 : decode cX7_quarrelOf 43 = .ok (.iload 5, 2) := by decide +kernel
theorem dX7_quarrelOf_45 : decode cX7_quarrelOf 45 = .ok (.iadd, 1) := by decide +kernel
theorem dX7_quarrelOf_46 : decode cX7_quarrelOf 46 = .ok (.istore 6, 2) := by decide +kernel
theorem dX7_quarrelOf_48 : decode cX7_quarrelOf 48 = .ok (.iload_n 3, 1) := by decide +kernel
theorem dX7_quarrelOf_49 : decode cX7_quarrelOf 49 = .ok (.iload 5, 2) := by decide +kernel
theorem dX7_quarrelOf_51 : decode cX7_quarrelOf 51 = .ok (.ishr, 1) := by decide +kernel
theorem dX7_quarrelOf_52 : decode cX7_quarrelOf 52 = .ok (.iconst 1, 1) := by decide +kernel
theorem dX7_quarrelOf_53 : decode cX7_quarrelOf 53 = .ok (.iand, 1) := by decide +kernel
theorem dX7_quarrelOf_54 : decode cX7_quarrelOf 54 = .ok (.ifCond .ne 25, 3) := by decide +kernel
theorem dX7_quarrelOf_57 : decode cX7_quarrelOf 57 = .ok (.iload 6, 2) := by decide +kernel
theorem dX7_quarrelOf_59 : decode cX7_quarrelOf 59 = .ok (.aload_n 0, 1) := by decide +kernel
theorem dX7_quarrelOf_60 : decode cX7_quarrelOf 60 = .ok (.getfield 24, 3) := by decide +kernel
theorem dX7_quarrelOf_63 : decode cX7_quarrelOf 63 = .ok (.arraylength, 1) := by decide +kernel
theorem dX7_quarrelOf_64 : decode cX7_quarrelOf 64 = .ok (.if_icmp .ge 15, 3) := by decide +kernel
theorem dX7_quarrelOf_67 : decode cX7_quarrelOf 67 = .ok (.iload 4, 2) := by decide +kernel
theorem dX7_quarrelOf_69 : decode cX7_quarrelOf 69 = .ok (.aload_n 0, 1) := by decide +kernel
theorem dX7_quarrelOf_70 : decode cX7_quarrelOf 70 = .ok (.getfield 24, 3) := by decide +kernel
theorem dX7_quarrelOf_73 : decode cX7_quarrelOf 73 = .ok (.iload 6, 2) := by decide +kernel
theorem dX7_quarrelOf_75 : decode cX7_quarrelOf 75 = .ok (.iaload, 1) := by decide +kernel
theorem dX7_quarrelOf_76 : decode cX7_quarrelOf 76 = .ok (.iadd, 1) := by decide +kernel
theorem dX7_quarrelOf_77 : decode cX7_quarrelOf 77 = .ok (.istore 4, 2) := by decide +kernel
theorem dX7_quarrelOf_79 : decode cX7_quarrelOf 79 = .ok (.iinc 5 1, 3) := by decide +kernel
theorem dX7_quarrelOf_82 : decode cX7_quarrelOf 82 = .ok (.goto (-52), 3) := by decide +kernel
theorem dX7_quarrelOf_85 : decode cX7_quarrelOf 85 = .ok (.iload 4, 2) := by decide +kernel
theorem dX7_quarrelOf_87 : decode cX7_quarrelOf 87 = .ok (.ireturn, 1) := by decide +kernel
def L_Rolls_quarrelOf_30  (x1 : Int32) (x3 : Int32) : Nat → Int32 → Int32 → CS → Option (Int32 × CS)
  | 0, _, _, _ => none
  | n + 1, x4, x5, σ => if (σ.1 64) ≤ x5 then some (x4, σ) else if ((x3 >>> (x5 &&& 31)) &&& 1) = 0 then if 64 ≤ ((x1 * 8) + x5) then (L_Rolls_quarrelOf_30 x1 x3 n) x4 (x5 + 1) σ else gix ((x1 * 8) + x5) 64 ((L_Rolls_quarrelOf_30 x1 x3 n) (x4 + (rd σ 24 ((x1 * 8) + x5))) (x5 + 1) σ) else (L_Rolls_quarrelOf_30 x1 x3 n) x4 (x5 + 1) σ
set_option maxHeartbeats 4000000 in
set_option maxRecDepth 100000 in
theorem w_Rolls_quarrelOf_30 (C : Cx g p s m args meth c A 7 cX7_quarrelOf yX7_quarrelOf.cls) (hr : meth.sig.returnType = (some .int))  {res : Int32 × CS}  (x1 : Int32) (x3 : Int32)  : ∀ (n : Nat) (x4 : Int32) (x5 : Int32) (σ : CS) (ta : Nat → Nat), φ0 ≤ ph σ.2.2 → ph σ.2.2 ≤ BB → L_Rolls_quarrelOf_30 x1 x3 n x4 x5 σ = some res → NI g p l e s m args below meth c A 0 0 7 ad Rr φ0 res ta σ [(0, .ref (ad 8)), (1, .int x1), (3, .int x3), (4, .int x4), (5, .int x5)] 30 [] := by
  intro n
  induction n with
  | zero =>
    intro x4 x5 σ ta hφ hφ2 h
    exact absurd (show (none : Option (Int32 × CS)) = some res from h) (by intro h9; cases h9)
  | succ n ih =>
    intro x4 x5 σ ta hφ hφ2 h
    rw [L_Rolls_quarrelOf_30] at h
    refine nw_iload C dX7_quarrelOf_30 4 rfl ?_
    refine nw_aload_n C dX7_quarrelOf_32 rfl 0 rfl ?_
    refine nw_get (v := .int (σ.1 64)) C in_X7 8 cl_Rolls rfl 5 (by decide) tw_434 rfl rfl dX7_quarrelOf_33 ?_
    refine nw_icmp_ge (tgt := 85) C dX7_quarrelOf_36 (by decide) h (fun _ h => ?_) (fun _ h => ?_)
    · refine nw_iload C dX7_quarrelOf_85 3 rfl ?_
      exact nc_iret C hr dX7_quarrelOf_87 hφ hφ2 h
    · refine nw_iload_n C dX7_quarrelOf_39 rfl 1 rfl ?_
      refine nw_bipush (v := 8) C dX7_quarrelOf_40 (by decide) ?_
      refine nw_imul C dX7_quarrelOf_42 ?_
      refine nw_iload C dX7_quarrelOf_43 4 rfl ?_
      refine nw_iadd C dX7_quarrelOf_45 ?_
      refine nw_istore (lv' := [(6, .int ((x1 * 8) + x5)), (0, .ref (ad 8)), (1, .int x1), (3, .int x3), (4, .int x4), (5, .int x5)]) C dX7_quarrelOf_46 (by decide) rfl ?_
      refine nw_iload_n C dX7_quarrelOf_48 rfl 3 rfl ?_
      refine nw_iload C dX7_quarrelOf_49 5 rfl ?_
      refine nw_ishr C dX7_quarrelOf_51 ?_
      refine nw_iconst (v := 1) C dX7_quarrelOf_52 (by decide) ?_
      refine nw_iand C dX7_quarrelOf_53 ?_
      refine nw_if_ne (tgt := 79) C dX7_quarrelOf_54 (by decide) h (fun _ h => ?_) (fun _ h => ?_)
      · refine nw_iload C dX7_quarrelOf_57 0 rfl ?_
        refine nw_aload_n C dX7_quarrelOf_59 rfl 1 rfl ?_
        refine nw_get (v := .ref (ad 51)) C in_X7 8 cl_Rolls rfl 2 (by decide) tw_431 rfl rfl dX7_quarrelOf_60 ?_
        refine nw_alenI C 51 (cl_I 24 rfl) dX7_quarrelOf_63 ?_
        refine nw_st (st' := [.int 64, .int ((x1 * 8) + x5)]) rfl ?_
        refine nw_icmp_ge (tgt := 79) C dX7_quarrelOf_64 (by decide) h (fun _ h => ?_) (fun _ h => ?_)
        · refine nw_iinc (lv' := [(5, .int (x5 + 1)), (6, .int ((x1 * 8) + x5)), (0, .ref (ad 8)), (1, .int x1), (3, .int x3), (4, .int x4)]) C (x5 + 1) dX7_quarrelOf_79 5 rfl rfl (by decide) rfl ?_
          refine nw_goto (tgt := 30) C dX7_quarrelOf_82 (by decide) ?_
          exact nw_lv (lv' := [(0, .ref (ad 8)), (1, .int x1), (3, .int x3), (4, .int x4), (5, .int (x5 + 1))]) [2, 3, 4, 5, 0] rfl (ih x4 (x5 + 1) _ _ hφ hφ2 h)
        · refine nw_iload C dX7_quarrelOf_67 4 rfl ?_
          refine nw_aload_n C dX7_quarrelOf_69 rfl 1 rfl ?_
          refine nw_get (v := .ref (ad 51)) C in_X7 8 cl_Rolls rfl 2 (by decide) tw_431 rfl rfl dX7_quarrelOf_70 ?_
          refine nw_iload C dX7_quarrelOf_73 0 rfl ?_
          refine nw_iald C 51 (cl_I 24 rfl) dX7_quarrelOf_75 h (fun h => ?_)
          refine nw_iadd C dX7_quarrelOf_76 ?_
          refine nw_istore (lv' := [(4, .int (x4 + (rd σ 24 ((x1 * 8) + x5)))), (6, .int ((x1 * 8) + x5)), (0, .ref (ad 8)), (1, .int x1), (3, .int x3), (5, .int x5)]) C dX7_quarrelOf_77 (by decide) rfl ?_
          refine nw_iinc (lv' := [(5, .int (x5 + 1)), (4, .int (x4 + (rd σ 24 ((x1 * 8) + x5)))), (6, .int ((x1 * 8) + x5)), (0, .ref (ad 8)), (1, .int x1), (3, .int x3)]) C (x5 + 1) dX7_quarrelOf_79 5 rfl rfl (by decide) rfl ?_
          refine nw_goto (tgt := 30) C dX7_quarrelOf_82 (by decide) ?_
          exact nw_lv (lv' := [(0, .ref (ad 8)), (1, .int x1), (3, .int x3), (4, .int (x4 + (rd σ 24 ((x1 * 8) + x5)))), (5, .int (x5 + 1))]) [3, 4, 5, 1, 0] rfl (ih (x4 + (rd σ 24 ((x1 * 8) + x5))) (x5 + 1) _ _ hφ hφ2 h)
      · refine nw_iinc (lv' := [(5, .int (x5 + 1)), (6, .int ((x1 * 8) + x5)), (0, .ref (ad 8)), (1, .int x1), (3, .int x3), (4, .int x4)]) C (x5 + 1) dX7_quarrelOf_79 5 rfl rfl (by decide) rfl ?_
        refine nw_goto (tgt := 30) C dX7_quarrelOf_82 (by decide) ?_
        exact nw_lv (lv' := [(0, .ref (ad 8)), (1, .int x1), (3, .int x3), (4, .int x4), (5, .int (x5 + 1))]) [2, 3, 4, 5, 0] rfl (ih x4 (x5 + 1) _ _ hφ hφ2 h)
def f_Rolls_quarrelOf (p0 : Int32) (p1 : Int32) (σ : CS) : Option (Int32 × CS) := if 256 ≤ (p1 ||| ((1 : Int32) <<< (p0 &&& 31))) then L_Rolls_quarrelOf_30 p0 (p1 ||| ((1 : Int32) <<< (p0 &&& 31))) FU 0 0 σ else gix (p1 ||| ((1 : Int32) <<< (p0 &&& 31))) 256 (L_Rolls_quarrelOf_30 p0 (p1 ||| ((1 : Int32) <<< (p0 &&& 31))) FU (rd σ 25 (p1 ||| ((1 : Int32) <<< (p0 &&& 31)))) 0 σ)
set_option maxHeartbeats 4000000 in
set_option maxRecDepth 100000 in
theorem c_Rolls_quarrelOf {l : Launch} {g : EG} {ad ta : Nat → Nat} {Rr : va_W} {σ σ' : CS} {r : Int32} {p0 : Int32} {p1 : Int32}  (h : f_Rolls_quarrelOf p0 p1 σ = some (r, σ')) (hφ2 : ph σ.2.2 ≤ BB) : CtI l g yX7_quarrelOf (.code yX7_quarrelOf cX7_quarrelOf 7 (some .int)) 0 0 ad ta Rr σ [.ref (ad 8), .int p0, .int p1] r σ' := by
  refine Ct.of rfl (by decide) (Nat.le_of_ble_eq_true rfl) ?_
  intro p e s m args below meth c A C hr
  have hφ : ph σ.2.2 ≤ ph σ.2.2 := Nat.le_refl _
  refine nw_zero (ph σ.2.2) ?_
  show NI g p l e s m args below meth c A 0 0 7 ad Rr (ph σ.2.2) (r, σ') ta σ [(0, .ref (ad 8)), (1, .int p0), (2, .int p1)] 0 []
  unfold f_Rolls_quarrelOf at h
  refine nw_iload_n C dX7_quarrelOf_0 rfl 2 rfl ?_
  refine nw_iconst (v := 1) C dX7_quarrelOf_1 (by decide) ?_
  refine nw_iload_n C dX7_quarrelOf_2 rfl 1 rfl ?_
  refine nw_ishl C dX7_quarrelOf_3 ?_
  refine nw_ior C dX7_quarrelOf_4 ?_
  refine nw_istore_n (lv' := [(3, .int (p1 ||| ((1 : Int32) <<< (p0 &&& 31)))), (0, .ref (ad 8)), (1, .int p0), (2, .int p1)]) C dX7_quarrelOf_5 rfl (by decide) rfl ?_
  refine nw_iload_n C dX7_quarrelOf_6 rfl 0 rfl ?_
  refine nw_aload_n C dX7_quarrelOf_7 rfl 1 rfl ?_
  refine nw_get (v := .ref (ad 52)) C in_X7 8 cl_Rolls rfl 3 (by decide) tw_432 rfl rfl dX7_quarrelOf_8 ?_
  refine nw_alenI C 52 (cl_I 25 rfl) dX7_quarrelOf_11 ?_
  refine nw_st (st' := [.int 256, .int (p1 ||| ((1 : Int32) <<< (p0 &&& 31)))]) rfl ?_
  refine nw_icmp_ge (tgt := 24) C dX7_quarrelOf_12 (by decide) h (fun _ h => ?_) (fun _ h => ?_)
  · refine nw_iconst (v := 0) C dX7_quarrelOf_24 (by decide) ?_
    refine nw_istore (lv' := [(4, .int 0), (3, .int (p1 ||| ((1 : Int32) <<< (p0 &&& 31)))), (0, .ref (ad 8)), (1, .int p0), (2, .int p1)]) C dX7_quarrelOf_25 (by decide) rfl ?_
    refine nw_iconst (v := 0) C dX7_quarrelOf_27 (by decide) ?_
    refine nw_istore (lv' := [(5, .int 0), (4, .int 0), (3, .int (p1 ||| ((1 : Int32) <<< (p0 &&& 31)))), (0, .ref (ad 8)), (1, .int p0), (2, .int p1)]) C dX7_quarrelOf_28 (by decide) rfl ?_
    exact nw_lv (lv' := [(0, .ref (ad 8)), (1, .int p0), (3, .int (p1 ||| ((1 : Int32) <<< (p0 &&& 31)))), (4, .int 0), (5, .int 0)]) [3, 4, 2, 1, 0] rfl (w_Rolls_quarrelOf_30 C hr p0 (p1 ||| ((1 : Int32) <<< (p0 &&& 31))) FU 0 0 _ _ hφ hφ2 h)
  · refine nw_aload_n C dX7_quarrelOf_15 rfl 1 rfl ?_
    refine nw_get (v := .ref (ad 52)) C in_X7 8 cl_Rolls rfl 3 (by decide) tw_432 rfl rfl dX7_quarrelOf_16 ?_
    refine nw_iload_n C dX7_quarrelOf_19 rfl 0 rfl ?_
    refine nw_iald C 52 (cl_I 25 rfl) dX7_quarrelOf_20 h (fun h => ?_)
    refine nw_goto (tgt := 25) C dX7_quarrelOf_21 (by decide) ?_
    refine nw_istore (lv' := [(4, .int (rd σ 25 (p1 ||| ((1 : Int32) <<< (p0 &&& 31))))), (3, .int (p1 ||| ((1 : Int32) <<< (p0 &&& 31)))), (0, .ref (ad 8)), (1, .int p0), (2, .int p1)]) C dX7_quarrelOf_25 (by decide) rfl ?_
    refine nw_iconst (v := 0) C dX7_quarrelOf_27 (by decide) ?_
    refine nw_istore (lv' := [(5, .int 0), (4, .int (rd σ 25 (p1 ||| ((1 : Int32) <<< (p0 &&& 31))))), (3, .int (p1 ||| ((1 : Int32) <<< (p0 &&& 31)))), (0, .ref (ad 8)), (1, .int p0), (2, .int p1)]) C dX7_quarrelOf_28 (by decide) rfl ?_
    exact nw_lv (lv' := [(0, .ref (ad 8)), (1, .int p0), (3, .int (p1 ||| ((1 : Int32) <<< (p0 &&& 31)))), (4, .int (rd σ 25 (p1 ||| ((1 : Int32) <<< (p0 &&& 31))))), (5, .int 0)]) [3, 4, 2, 1, 0] rfl (w_Rolls_quarrelOf_30 C hr p0 (p1 ||| ((1 : Int32) <<< (p0 &&& 31))) FU (rd σ 25 (p1 ||| ((1 : Int32) <<< (p0 &&& 31)))) 0 _ _ hφ hφ2 h)
theorem dX7_measure_0 : decode cX7_measure 0 = .ok (.iconst 1, 1) := by decide +kernel
theorem dX7_measure_1 : decode cX7_measure 1 = .ok (.aload_n 0, 1) := by decide +kernel
theorem dX7_measure_2 : decode cX7_measure 2 = .ok (.getfield 58, 3) := by decide +kernel
theorem dX7_measure_5 : decode cX7_measure 5 = .ok (.ishl, 1) := by decide +kernel
theorem dX7_measure_6 : decode cX7_measure 6 = .ok (.iconst 1, 1) := by decide +kernel
theorem dX7_measure_7 : decode cX7_measure 7 = .ok (.isub, 1) := by decide +kernel
theorem dX7_measure_8 : decode cX7_measure 8 = .ok (.istore_n 1, 1) := by decide +kernel
theorem dX7_measure_9 : decode cX7_measure 9 = .ok (.iload_n 1, 1) := by decide +kernel
theorem dX7_measure_10 : decode cX7_measure 10 = .ok (.aload_n 0, 1) := by decide +kernel
theorem dX7_measure_11 : decode cX7_measure 11 = .ok (.getfield 27, 3) := by decide +kernel
theorem dX7_measure_14 : decode cX7_measure 14 = .ok (.arraylength, 1) := by decide +kernel
theorem dX7_measure_15 : decode cX7_measure 15 = .ok (.iconst 1, 1) := by decide +kernel
theorem dX7_measure_16 : decode cX7_measure 16 = .ok (.isub, 1) := by decide +kernel
theorem dX7_measure_17 : decode cX7_measure 17 = .ok (.invokestatic 96, 3) := by decide +kernel
theorem dX7_measure_20 : decode cX7_measure 20 = .ok (.istore_n 2, 1) := by decide +kernel
theorem dX7_measure_21 : decode cX7_measure 21 = .ok (.iload_n 2, 1) := by decide +kernel
theorem dX7_measure_22 : decode cX7_measure 22 = .ok (.ifCond .lt 89, 3) := by decide +kernel
theorem dX7_measure_25 : decode cX7_measure 25 = .ok (.aload_n 0, 1) := by decide +kernel
theorem dX7_measure_26 : decode cX7_measure 26 = .ok (.getfield 27, 3) := by decide +kernel
theorem dX7_measure_29 : decode cX7_measure 29 = .ok (.iload_n 2, 1) := by decide +kernel
theorem dX7_measure_30 : decode cX7_measure 30 = .ok (.iload_n 2, 1) := by decide +kernel
theorem dX7_measure_31 : decode cX7_measure 31 = .ok (.iload_n 1, 1) := by decide +kernel
theorem dX7_measure_32 : decode cX7_measure 32 = .ok (.if_icmp .ne 7, 3) := by decide +kernel
theorem dX7_measure_35 : decode cX7_measure 35 = .ok (.iconst 0, 1) := by decide +kernel
theorem dX7_measure_36 : decode cX7_measure 36 = .ok (.goto 4, 3) := by decide +kernel
theorem dX7_measure_39 : decode cX7_measure 39 = .ok (.iconst (-1), 1) := by decide +kernel
theorem dX7_measure_40 : decode cX7_measure 40 = .ok (.iastore, 1) := by decide +kernel
theorem dX7_measure_41 : decode cX7_measure 41 = .ok (.iconst 0, 1) := by decide +kernel
theorem dX7_measure_42 : decode cX7_measure 42 = .ok (.istore_n 3, 1) := by decide +kernel
theorem dX7_measure_43 : decode cX7_measure 43 = .ok (.iload_n 3, 1) := by decide +kernel
theorem dX7_measure_44 : decode cX7_measure 44 = .ok (.aload_n 0, 1) := by decide +kernel
theorem dX7_measure_45 : decode cX7_measure 45 = .ok (.getfield 58, 3) := by decide +kernel
theorem dX7_measure_48 : decode cX7_measure 48 = .ok (.if_icmp .ge 57, 3) := by decide +kernel
theorem dX7_measure_51 : decode cX7_measure 51 = .ok (.iload_n 2, 1) := by decide +kernel
theorem dX7_measure_52 : decode cX7_measure 52 = .ok (.iload_n 3, 1) := by decide +kernel
theorem dX7_measure_53 : decode cX7_measure 53 = .ok (.ishr, 1) := by decide +kernel
theorem dX7_measure_54 : decode cX7_measure 54 = .ok (.iconst 1, 1) := by decide +kernel
theorem dX7_measure_55 : decode cX7_measure 55 = .ok (.iand, 1) := by decide +kernel
theorem dX7_measure_56 : decode cX7_measure 56 = .ok (.ifCond .ne 43, 3) := by decide +kernel
theorem dX7_measure_59 : decode cX7_measure 59 = .ok (.aload_n 0, 1) := by decide +kernel
theorem dX7_measure_60 : decode cX7_measure 60 = .ok (.iload_n 3, 1) := by decide +kernel
theorem dX7_measure_61 : decode cX7_measure 61 = .ok (.iload_n 2, 1) := by decide +kernel
theorem dX7_measure_62 : decode cX7_measure 62 = .ok (.invokevirtual 99, 3) := by decide +kernel
theorem dX7_measure_65 : decode cX7_measure 65 = .ok (.istore 4, 2) := by decide +kernel
theorem dX7_measure_67 : decode cX7_measure 67 = .ok (.aload_n 0, 1) := by decide +kernel
theorem dX7_measure_68 : decode cX7_measure 68 = .ok (.getfield 27, 3) := by decide +kernel
theorem dX7_measure_71 : decode cX7_measure 71 = .ok (.iload_n 2, 1) := by decide +kernel
theorem dX7_measure_72 : decode cX7_measure 72 = .ok (.aload_n 0, 1) := by decide +kernel
theorem dX7_measure_73 : decode cX7_measure 73 = .ok (.getfield 27, 3) := by decide +kernel
theorem dX7_measure_76 : decode cX7_measure 76 = .ok (.iload_n 2, 1) := by decide +kernel
theorem dX7_measure_77 : decode cX7_measure 77 = .ok (.iaload, 1) := by decide +kernel
theorem dX7_measure_78 : decode cX7_measure 78 = .ok (.iconst (-1), 1) := by decide +kernel
theorem dX7_measure_79 : decode cX7_measure 79 = .ok (.if_icmp .ne 8, 3) := by decide +kernel
theorem dX7_measure_82 : decode cX7_measure 82 = .ok (.iload 4, 2) := by decide +kernel
theorem dX7_measure_84 : decode cX7_measure 84 = .ok (.goto 14, 3) := by decide +kernel
theorem dX7_measure_87 : decode cX7_measure 87 = .ok (.aload_n 0, 1) := by decide +kernel
theorem dX7_measure_88 : decode cX7_measure 88 = .ok (.getfield 27, 3) := by decide +kernel
theorem dX7_measure_91 : decode cX7_measure 91 = .ok (.iload_n 2, 1) := by decide +kernel
theorem dX7_measure_92 : decode cX7_measure 92 = .ok (.iaload, 1) := by decide +kernel
theorem dX7_measure_93 : decode cX7_measure 93 = .ok (.iload 4, 2) := by decide +kernel
theorem dX7_measure_95 : decode cX7_measure 95 = .ok (.invokestatic 96, 3) := by decide +kernel
theorem dX7_measure_98 : decode cX7_measure 98 = .ok (.iastore, 1) := by decide +kernel
theorem dX7_measure_99 : decode cX7_measure 99 = .ok (.iinc 3 1, 3) := by decide +kernel
theorem dX7_measure_102 : decode cX7_measure 102 = .ok (.goto (-59), 3) := by decide +kernel
theorem dX7_measure_105 : decode cX7_measure 105 = .ok (.iinc 2 (-1), 3) := by decide +kernel
theorem dX7_measure_108 : decode cX7_measure 108 = .ok (.goto (-87), 3) := by decide +kernel
theorem dX7_measure_111 : decode cX7_measure 111 = .ok (.return_, 1) := by decide +kernel
def B_Rolls_measure_98 (k43 : Int32 → CS → Option (Int32 × CS)) (x1 : Int32) (x2 : Int32) (x3 : Int32) (z1 : Int32) (z2 : Int32) (σ : CS) : Option (Int32 × CS) := gix z1 256 (k43 (x3 + 1) (wr σ 25 z1 z2))
set_option maxHeartbeats 4000000 in
set_option maxRecDepth 100000 in
theorem w_Rolls_measure_98 (C : Cx g p s m args meth c A 5 cX7_measure yX7_measure.cls) (hr : meth.sig.returnType = none)  {res : Int32 × CS}  (x1 : Int32) (x2 : Int32) (x3 : Int32) (z1 : Int32) (z2 : Int32) {k43 : Int32 → CS → Option (Int32 × CS)} (hk43 : ∀ (x3 : Int32) (σ : CS) (ta : Nat → Nat), φ0 ≤ ph σ.2.2 → ph σ.2.2 ≤ BB → k43 x3 σ = some res → NV g p l e s m args below meth c A 1 40 5 ad Rr φ0 res ta σ [(0, .ref (ad 8)), (1, .int x1), (2, .int x2), (3, .int x3)] 43 []) (σ : CS) (ta : Nat → Nat) (hφ : φ0 ≤ ph σ.2.2) (hφ2 : ph σ.2.2 ≤ BB) (h : B_Rolls_measure_98 k43 x1 x2 x3 z1 z2 σ = some res) : NV g p l e s m args below meth c A 1 40 5 ad Rr φ0 res ta σ [(0, .ref (ad 8)), (1, .int x1), (2, .int x2), (3, .int x3)] 98 [.int z2, .int z1, .ref (ad 52)] := by
  unfold B_Rolls_measure_98 at h
  refine nw_iast C 52 (cl_I 25 rfl) dX7_measure_98 h (cs_I 25 rfl) (fun h => ?_)
  refine nw_iinc (lv' := [(3, .int (x3 + 1)), (0, .ref (ad 8)), (1, .int x1), (2, .int x2)]) C (x3 + 1) dX7_measure_99 3 rfl rfl (by decide) rfl ?_
  refine nw_goto (tgt := 43) C dX7_measure_102 (by decide) ?_
  exact nw_lv (lv' := [(0, .ref (ad 8)), (1, .int x1), (2, .int x2), (3, .int (x3 + 1))]) [1, 2, 3, 0] rfl (hk43 (x3 + 1) _ _ hφ hφ2 h)
def L_Rolls_measure_43 (k21 : Int32 → CS → Option (Int32 × CS)) (x1 : Int32) (x2 : Int32) : Nat → Int32 → CS → Option (Int32 × CS)
  | 0, _, _ => none
  | n + 1, x3, σ => if (σ.1 64) ≤ x3 then k21 (x2 + (-1)) σ else if ((x2 >>> (x3 &&& 31)) &&& 1) = 0 then bnd (f_Rolls_quarrelOf x3 x2 σ) (fun r62 σ62 => gix x2 256 (if (rd σ62 25 x2) = (-1) then B_Rolls_measure_98 (L_Rolls_measure_43 k21 x1 x2 n) x1 x2 x3 x2 r62 σ62 else gix x2 256 (B_Rolls_measure_98 (L_Rolls_measure_43 k21 x1 x2 n) x1 x2 x3 x2 (if r62 < (rd σ62 25 x2) then r62 else (rd σ62 25 x2)) σ62))) else (L_Rolls_measure_43 k21 x1 x2 n) (x3 + 1) σ
set_option maxHeartbeats 4000000 in
set_option maxRecDepth 100000 in
theorem w_Rolls_measure_43 (C : Cx g p s m args meth c A 5 cX7_measure yX7_measure.cls) (hr : meth.sig.returnType = none)  {res : Int32 × CS}  (x1 : Int32) (x2 : Int32) {k21 : Int32 → CS → Option (Int32 × CS)} (hk21 : ∀ (x2 : Int32) (σ : CS) (ta : Nat → Nat), φ0 ≤ ph σ.2.2 → ph σ.2.2 ≤ BB → k21 x2 σ = some res → NV g p l e s m args below meth c A 1 40 5 ad Rr φ0 res ta σ [(0, .ref (ad 8)), (1, .int x1), (2, .int x2)] 21 []) : ∀ (n : Nat) (x3 : Int32) (σ : CS) (ta : Nat → Nat), φ0 ≤ ph σ.2.2 → ph σ.2.2 ≤ BB → L_Rolls_measure_43 k21 x1 x2 n x3 σ = some res → NV g p l e s m args below meth c A 1 40 5 ad Rr φ0 res ta σ [(0, .ref (ad 8)), (1, .int x1), (2, .int x2), (3, .int x3)] 43 [] := by
  intro n
  induction n with
  | zero =>
    intro x3 σ ta hφ hφ2 h
    exact absurd (show (none : Option (Int32 × CS)) = some res from h) (by intro h9; cases h9)
  | succ n ih =>
    intro x3 σ ta hφ hφ2 h
    rw [L_Rolls_measure_43] at h
    refine nw_iload_n C dX7_measure_43 rfl 3 rfl ?_
    refine nw_aload_n C dX7_measure_44 rfl 0 rfl ?_
    refine nw_get (v := .int (σ.1 64)) C in_X7 8 cl_Rolls rfl 5 (by decide) tw_434 rfl rfl dX7_measure_45 ?_
    refine nw_icmp_ge (tgt := 105) C dX7_measure_48 (by decide) h (fun _ h => ?_) (fun _ h => ?_)
    · refine nw_iinc (lv' := [(2, .int (x2 + (-1))), (0, .ref (ad 8)), (1, .int x1), (3, .int x3)]) C (x2 + (-1)) dX7_measure_105 2 rfl rfl (by decide) rfl ?_
      refine nw_goto (tgt := 21) C dX7_measure_108 (by decide) ?_
      exact nw_lv (lv' := [(0, .ref (ad 8)), (1, .int x1), (2, .int (x2 + (-1)))]) [1, 2, 0] rfl (hk21 (x2 + (-1)) _ _ hφ hφ2 h)
    · refine nw_iload_n C dX7_measure_51 rfl 2 rfl ?_
      refine nw_iload_n C dX7_measure_52 rfl 3 rfl ?_
      refine nw_ishr C dX7_measure_53 ?_
      refine nw_iconst (v := 1) C dX7_measure_54 (by decide) ?_
      refine nw_iand C dX7_measure_55 ?_
      refine nw_if_ne (tgt := 99) C dX7_measure_56 (by decide) h (fun _ h => ?_) (fun _ h => ?_)
      · refine nw_aload_n C dX7_measure_59 rfl 0 rfl ?_
        refine nw_iload_n C dX7_measure_60 rfl 3 rfl ?_
        refine nw_iload_n C dX7_measure_61 rfl 2 rfl ?_
        refine nc_callVI (q0 := 8) (As := [.int x3, .int x2]) (rest := []) C h (fun _ _ e => c_Rolls_quarrelOf e hφ2) tw_608 kv_X7_quarrelOf cl_Rolls rfl ⟨Nat.le_of_ble_eq_true rfl, Nat.le_of_ble_eq_true rfl⟩ rfl dX7_measure_62 rfl (Nat.le_of_ble_eq_true rfl) hφ hφ2 (fun r62 σ62 ta h hφ hφ2 => ?_)
        refine nw_istore (lv' := [(4, .int r62), (0, .ref (ad 8)), (1, .int x1), (2, .int x2), (3, .int x3)]) C dX7_measure_65 (by decide) rfl ?_
        refine nw_aload_n C dX7_measure_67 rfl 1 rfl ?_
        refine nw_get (v := .ref (ad 52)) C in_X7 8 cl_Rolls rfl 3 (by decide) tw_432 rfl rfl dX7_measure_68 ?_
        refine nw_iload_n C dX7_measure_71 rfl 3 rfl ?_
        refine nw_aload_n C dX7_measure_72 rfl 1 rfl ?_
        refine nw_get (v := .ref (ad 52)) C in_X7 8 cl_Rolls rfl 3 (by decide) tw_432 rfl rfl dX7_measure_73 ?_
        refine nw_iload_n C dX7_measure_76 rfl 3 rfl ?_
        refine nw_iald C 52 (cl_I 25 rfl) dX7_measure_77 h (fun h => ?_)
        refine nw_iconst (v := (-1)) C dX7_measure_78 (by decide) ?_
        refine nw_icmp_ne (tgt := 87) C dX7_measure_79 (by decide) h (fun _ h => ?_) (fun _ h => ?_)
        · refine nw_iload C dX7_measure_82 0 rfl ?_
          refine nw_goto (tgt := 98) C dX7_measure_84 (by decide) ?_
          exact nw_lv (lv' := [(0, .ref (ad 8)), (1, .int x1), (2, .int x2), (3, .int x3)]) [1, 2, 3, 4] rfl (w_Rolls_measure_98 C hr x1 x2 x3 x2 r62 ih _ _ hφ hφ2 h)
        · refine nw_aload_n C dX7_measure_87 rfl 1 rfl ?_
          refine nw_get (v := .ref (ad 52)) C in_X7 8 cl_Rolls rfl 3 (by decide) tw_432 rfl rfl dX7_measure_88 ?_
          refine nw_iload_n C dX7_measure_91 rfl 3 rfl ?_
          refine nw_iald C 52 (cl_I 25 rfl) dX7_measure_92 h (fun h => ?_)
          refine nw_iload C dX7_measure_93 0 rfl ?_
          refine nw_mmin C tw_607 tw_367 tw_125 tm_min (Nat.le_of_ble_eq_true rfl) (Nat.le_of_ble_eq_true rfl) (Nat.sub_le_sub_right hφ2 _) (Nat.mul_le_mul_left 2 (Nat.sub_le_sub_right hφ2 _)) dX7_measure_95 ?_
          exact nw_lv (lv' := [(0, .ref (ad 8)), (1, .int x1), (2, .int x2), (3, .int x3)]) [1, 2, 3, 4] rfl (w_Rolls_measure_98 C hr x1 x2 x3 x2 (if r62 < (rd σ62 25 x2) then r62 else (rd σ62 25 x2)) ih _ _ hφ hφ2 h)
      · refine nw_iinc (lv' := [(3, .int (x3 + 1)), (0, .ref (ad 8)), (1, .int x1), (2, .int x2)]) C (x3 + 1) dX7_measure_99 3 rfl rfl (by decide) rfl ?_
        refine nw_goto (tgt := 43) C dX7_measure_102 (by decide) ?_
        exact nw_lv (lv' := [(0, .ref (ad 8)), (1, .int x1), (2, .int x2), (3, .int (x3 + 1))]) [1, 2, 3, 0] rfl (ih (x3 + 1) _ _ hφ hφ2 h)
def B_Rolls_measure_40 (k21 : Int32 → CS → Option (Int32 × CS)) (x1 : Int32) (x2 : Int32) (z1 : Int32) (z2 : Int32) (σ : CS) : Option (Int32 × CS) := gix z1 256 (L_Rolls_measure_43 k21 x1 x2 FU 0 (wr σ 25 z1 z2))
set_option maxHeartbeats 4000000 in
set_option maxRecDepth 100000 in
theorem w_Rolls_measure_40 (C : Cx g p s m args meth c A 5 cX7_measure yX7_measure.cls) (hr : meth.sig.returnType = none)  {res : Int32 × CS}  (x1 : Int32) (x2 : Int32) (z1 : Int32) (z2 : Int32) {k21 : Int32 → CS → Option (Int32 × CS)} (hk21 : ∀ (x2 : Int32) (σ : CS) (ta : Nat → Nat), φ0 ≤ ph σ.2.2 → ph σ.2.2 ≤ BB → k21 x2 σ = some res → NV g p l e s m args below meth c A 1 40 5 ad Rr φ0 res ta σ [(0, .ref (ad 8)), (1, .int x1), (2, .int x2)] 21 []) (σ : CS) (ta : Nat → Nat) (hφ : φ0 ≤ ph σ.2.2) (hφ2 : ph σ.2.2 ≤ BB) (h : B_Rolls_measure_40 k21 x1 x2 z1 z2 σ = some res) : NV g p l e s m args below meth c A 1 40 5 ad Rr φ0 res ta σ [(0, .ref (ad 8)), (1, .int x1), (2, .int x2)] 40 [.int z2, .int z1, .ref (ad 52)] := by
  unfold B_Rolls_measure_40 at h
  refine nw_iast C 52 (cl_I 25 rfl) dX7_measure_40 h (cs_I 25 rfl) (fun h => ?_)
  refine nw_iconst (v := 0) C dX7_measure_41 (by decide) ?_
  refine nw_istore_n (lv' := [(3, .int 0), (0, .ref (ad 8)), (1, .int x1), (2, .int x2)]) C dX7_measure_42 rfl (by decide) rfl ?_
  exact nw_lv (lv' := [(0, .ref (ad 8)), (1, .int x1), (2, .int x2), (3, .int 0)]) [1, 2, 3, 0] rfl (w_Rolls_measure_43 C hr x1 x2 hk21 FU 0 _ _ hφ hφ2 h)
def L_Rolls_measure_21  (x1 : Int32) : Nat → Int32 → CS → Option (Int32 × CS)
  | 0, _, _ => none
  | n + 1, x2, σ => if x2 < 0 then some (0, σ) else if x2 = x1 then B_Rolls_measure_40 (L_Rolls_measure_21 x1 n) x1 x2 x2 0 σ else B_Rolls_measure_40 (L_Rolls_measure_21 x1 n) x1 x2 x2 (-1) σ
set_option maxHeartbeats 4000000 in
set_option maxRecDepth 100000 in
theorem w_Rolls_measure_21 (C : Cx g p s m args meth c A 5 cX7_measure yX7_measure.cls) (hr : meth.sig.returnType = none)  {res : Int32 × CS}  (x1 : Int32)  : ∀ (n : Nat) (x2 : Int32) (σ : CS) (ta : Nat → Nat), φ0 ≤ ph σ.2.2 → ph σ.2.2 ≤ BB → L_Rolls_measure_21 x1 n x2 σ = some res → NV g p l e s m args below meth c A 1 40 5 ad Rr φ0 res ta σ [(0, .ref (ad 8)), (1, .int x1), (2, .int x2)] 21 [] := by
  intro n
  induction n with
  | zero =>
    intro x2 σ ta hφ hφ2 h
    exact absurd (show (none : Option (Int32 × CS)) = some res from h) (by intro h9; cases h9)
  | succ n ih =>
    intro x2 σ ta hφ hφ2 h
    rw [L_Rolls_measure_21] at h
    refine nw_iload_n C dX7_measure_21 rfl 2 rfl ?_
    refine nw_if_lt (tgt := 111) C dX7_measure_22 (by decide) h (fun _ h => ?_) (fun _ h => ?_)
    · exact nc_vret C hr dX7_measure_111 hφ hφ2 h
    · refine nw_aload_n C dX7_measure_25 rfl 0 rfl ?_
      refine nw_get (v := .ref (ad 52)) C in_X7 8 cl_Rolls rfl 3 (by decide) tw_432 rfl rfl dX7_measure_26 ?_
      refine nw_iload_n C dX7_measure_29 rfl 2 rfl ?_
      refine nw_iload_n C dX7_measure_30 rfl 2 rfl ?_
      refine nw_iload_n C dX7_measure_31 rfl 1 rfl ?_
      refine nw_icmp_ne (tgt := 39) C dX7_measure_32 (by decide) h (fun _ h => ?_) (fun _ h => ?_)
      · refine nw_iconst (v := 0) C dX7_measure_35 (by decide) ?_
        refine nw_goto (tgt := 40) C dX7_measure_36 (by decide) ?_
        exact nw_lv (lv' := [(0, .ref (ad 8)), (1, .int x1), (2, .int x2)]) [0, 1, 2] rfl (w_Rolls_measure_40 C hr x1 x2 x2 0 ih _ _ hφ hφ2 h)
      · refine nw_iconst (v := (-1)) C dX7_measure_39 (by decide) ?_
        exact nw_lv (lv' := [(0, .ref (ad 8)), (1, .int x1), (2, .int x2)]) [0, 1, 2] rfl (w_Rolls_measure_40 C hr x1 x2 x2 (-1) ih _ _ hφ hφ2 h)
def f_Rolls_measure  (σ : CS) : Option (Int32 × CS) := L_Rolls_measure_21 (((1 : Int32) <<< ((σ.1 64) &&& 31)) - 1) FU (if (256 - 1) < (((1 : Int32) <<< ((σ.1 64) &&& 31)) - 1) then (256 - 1) else (((1 : Int32) <<< ((σ.1 64) &&& 31)) - 1)) σ
set_option maxHeartbeats 4000000 in
set_option maxRecDepth 100000 in
theorem c_Rolls_measure {l : Launch} {g : EG} {ad ta : Nat → Nat} {Rr : va_W} {σ σ' : CS} {r : Int32}   (h : f_Rolls_measure σ = some (r, σ')) (hφ2 : ph σ.2.2 ≤ BB) : CtV l g yX7_measure (.code yX7_measure cX7_measure 5 none) 1 40 ad ta Rr σ [.ref (ad 8)] r σ' := by
  refine Ct.of rfl (by decide) (Nat.le_of_ble_eq_true rfl) ?_
  intro p e s m args below meth c A C hr
  have hφ : ph σ.2.2 ≤ ph σ.2.2 := Nat.le_refl _
  refine nw_zero (ph σ.2.2) ?_
  show NV g p l e s m args below meth c A 1 40 5 ad Rr (ph σ.2.2) (r, σ') ta σ [(0, .ref (ad 8))] 0 []
  unfold f_Rolls_measure at h
  refine nw_iconst (v := 1) C dX7_measure_0 (by decide) ?_
  refine nw_aload_n C dX7_measure_1 rfl 0 rfl ?_
  refine nw_get (v := .int (σ.1 64)) C in_X7 8 cl_Rolls rfl 5 (by decide) tw_434 rfl rfl dX7_measure_2 ?_
  refine nw_ishl C dX7_measure_5 ?_
  refine nw_iconst (v := 1) C dX7_measure_6 (by decide) ?_
  refine nw_isub C dX7_measure_7 ?_
  refine nw_istore_n (lv' := [(1, .int (((1 : Int32) <<< ((σ.1 64) &&& 31)) - 1)), (0, .ref (ad 8))]) C dX7_measure_8 rfl (by decide) rfl ?_
  refine nw_iload_n C dX7_measure_9 rfl 0 rfl ?_
  refine nw_aload_n C dX7_measure_10 rfl 1 rfl ?_
  refine nw_get (v := .ref (ad 52)) C in_X7 8 cl_Rolls rfl 3 (by decide) tw_432 rfl rfl dX7_measure_11 ?_
  refine nw_alenI C 52 (cl_I 25 rfl) dX7_measure_14 ?_
  refine nw_st (st' := [.int 256, .int (((1 : Int32) <<< ((σ.1 64) &&& 31)) - 1)]) rfl ?_
  refine nw_iconst (v := 1) C dX7_measure_15 (by decide) ?_
  refine nw_isub C dX7_measure_16 ?_
  refine nw_mmin C tw_607 tw_367 tw_125 tm_min (Nat.le_of_ble_eq_true rfl) (Nat.le_of_ble_eq_true rfl) (Nat.sub_le_sub_right hφ2 _) (Nat.mul_le_mul_left 2 (Nat.sub_le_sub_right hφ2 _)) dX7_measure_17 ?_
  refine nw_istore_n (lv' := [(2, .int (if (256 - 1) < (((1 : Int32) <<< ((σ.1 64) &&& 31)) - 1) then (256 - 1) else (((1 : Int32) <<< ((σ.1 64) &&& 31)) - 1))), (1, .int (((1 : Int32) <<< ((σ.1 64) &&& 31)) - 1)), (0, .ref (ad 8))]) C dX7_measure_20 rfl (by decide) rfl ?_
  exact nw_lv (lv' := [(0, .ref (ad 8)), (1, .int (((1 : Int32) <<< ((σ.1 64) &&& 31)) - 1)), (2, .int (if (256 - 1) < (((1 : Int32) <<< ((σ.1 64) &&& 31)) - 1) then (256 - 1) else (((1 : Int32) <<< ((σ.1 64) &&& 31)) - 1)))]) [2, 1, 0] rfl (w_Rolls_measure_21 C hr (((1 : Int32) <<< ((σ.1 64) &&& 31)) - 1) FU (if (256 - 1) < (((1 : Int32) <<< ((σ.1 64) &&& 31)) - 1) then (256 - 1) else (((1 : Int32) <<< ((σ.1 64) &&& 31)) - 1)) _ _ hφ hφ2 h)
theorem dX7_choose_0 : decode cX7_choose 0 = .ok (.iconst 0, 1) := by decide +kernel
theorem dX7_choose_1 : decode cX7_choose 1 = .ok (.istore_n 1, 1) := by decide +kernel
theorem dX7_choose_2 : decode cX7_choose 2 = .ok (.iconst 0, 1) := by decide +kernel
theorem dX7_choose_3 : decode cX7_choose 3 = .ok (.istore_n 2, 1) := by decide +kernel
theorem dX7_choose_4 : decode cX7_choose 4 = .ok (.iload_n 2, 1) := by decide +kernel
theorem dX7_choose_5 : decode cX7_choose 5 = .ok (.aload_n 0, 1) := by decide +kernel
theorem dX7_choose_6 : decode cX7_choose 6 = .ok (.getfield 58, 3) := by decide +kernel
theorem dX7_choose_9 : decode cX7_choose 9 = .ok (.if_icmp .ge 96, 3) := by decide +kernel
theorem dX7_choose_12 : decode cX7_choose 12 = .ok (.iload_n 2, 1) := by decide +kernel
theorem dX7_choose_13 : decode cX7_choose 13 = .ok (.aload_n 0, 1) := by decide +kernel
theorem dX7_choose_14 : decode cX7_choose 14 = .ok (.getfield 30, 3) := by decide +kernel
theorem dX7_choose_17 : decode cX7_choose 17 = .ok (.arraylength, 1) := by decide +kernel
theorem dX7_choose_18 : decode cX7_choose 18 = .ok (.if_icmp .ge 87, 3) := by decide +kernel
theorem dX7_choose_21 : decode cX7_choose 21 = .ok (.iconst 0, 1) := by decide +kernel
theorem dX7_choose_22 : decode cX7_choose 22 = .ok (.istore_n 3, 1) := by decide +kernel
theorem dX7_choose_23 : decode cX7_choose 23 = .ok (.iload_n 3, 1) := by decide +kernel
theorem dX7_choose_24 : decode cX7_choose 24 = .ok (.aload_n 0, 1) := by decide +kernel
theorem dX7_choose_25 : decode cX7_choose 25 = .ok (.getfield 58, 3) := by decide +kernel
theorem dX7_choose_28 : decode cX7_choose 28 = .ok (.if_icmp .ge 71, 3) := by decide +kernel
theorem dX7_choose_31 : decode cX7_choose 31 = .ok (.iload_n 3, 1) := by decide +kernel
theorem dX7_choose_32 : decode cX7_choose 32 = .ok (.aload_n 0, 1) := by decide +kernel
theorem dX7_choose_33 : decode cX7_choose 33 = .ok (.getfield 20, 3) := by decide +kernel
theorem dX7_choose_36 : decode cX7_choose 36 = .ok (.arraylength, 1) := by decide +kernel
theorem dX7_choose_37 : decode cX7_choose 37 = .ok (.if_icmp .ge 62, 3) := by decide +kernel
theorem dX7_choose_40 : decode cX7_choose 40 = .ok (.iload_n 1, 1) := by decide +kernel
theorem dX7_choose_41 : decode cX7_choose 41 = .ok (.iload_n 3, 1) := by decide +kernel
theorem dX7_choose_42 : decode cX7_choose 42 = .ok (.ishr, 1) := by decide +kernel
theorem dX7_choose_43 : decode cX7_choose 43 = .ok (.iconst 1, 1) := by decide +kernel
theorem dX7_choose_44 : decode cX7_choose 44 = .ok (.iand, 1) := by decide +kernel
theorem dX7_choose_45 : decode cX7_choose 45 = .ok (.ifCond .ne 48, 3) := by decide +kernel
theorem dX7_choose_48 : decode cX7_choose 48 = .ok (.iload_n 1, 1) := by decide +kernel
theorem dX7_choose_49 : decode cX7_choose 49 = .ok (.aload_n 0, 1) := by decide +kernel
theorem dX7_choose_50 : decode cX7_choose 50 = .ok (.getfield 27, 3) := by decide +kernel
theorem dX7_choose_53 : decode cX7_choose 53 = .ok (.arraylength, 1) := by decide +kernel
theorem dX7_choose_54 : decode cX7_choose 54 = .ok (.if_icmp .ge 39, 3) := by decide +kernel
theorem dX7_choose_57 : decode cX7_choose 57 = .ok (.aload_n 0, 1) := by decide +kernel
theorem dX7_choose_58 : decode cX7_choose 58 = .ok (.iload_n 3, 1) := by decide +kernel
theorem dX7_choose_59 : decode cX7_choose 59 = .ok (.iload_n 1, 1) := by decide +kernel
theorem dX7_choose_60 : decode cX7_choose 60 = .ok (.invokevirtual 99, 3) := by decide +kernel
theorem dX7_choose_63 : decode cX7_choose 63 = .ok (.aload_n 0, 1) := by decide +kernel
theorem dX7_choose_64 : decode cX7_choose 64 = .ok (.getfield 27, 3) := by decide +kernel
theorem dX7_choose_67 : decode cX7_choose 67 = .ok (.iload_n 1, 1) := by decide +kernel
theorem dX7_choose_68 : decode cX7_choose 68 = .ok (.iaload, 1) := by decide +kernel
theorem dX7_choose_69 : decode cX7_choose 69 = .ok (.if_icmp .ne 24, 3) := by decide +kernel
theorem dX7_choose_72 : decode cX7_choose 72 = .ok (.aload_n 0, 1) := by decide +kernel
theorem dX7_choose_73 : decode cX7_choose 73 = .ok (.getfield 30, 3) := by decide +kernel
theorem dX7_choose_76 : decode cX7_choose 76 = .ok (.iload_n 2, 1) := by decide +kernel
theorem dX7_choose_77 : decode cX7_choose 77 = .ok (.aload_n 0, 1) := by decide +kernel
theorem dX7_choose_78 : decode cX7_choose 78 = .ok (.getfield 20, 3) := by decide +kernel
theorem dX7_choose_81 : decode cX7_choose 81 = .ok (.iload_n 3, 1) := by decide +kernel
theorem dX7_choose_82 : decode cX7_choose 82 = .ok (.iaload, 1) := by decide +kernel
theorem dX7_choose_83 : decode cX7_choose 83 = .ok (.iastore, 1) := by decide +kernel
theorem dX7_choose_84 : decode cX7_choose 84 = .ok (.iload_n 1, 1) := by decide +kernel
theorem dX7_choose_85 : decode cX7_choose 85 = .ok (.iconst 1, 1) := by decide +kernel
theorem dX7_choose_86 : decode cX7_choose 86 = .ok (.iload_n 3, 1) := by decide +kernel
theorem dX7_choose_87 : decode cX7_choose 87 = .ok (.ishl, 1) := by decide +kernel
theorem dX7_choose_88 : decode cX7_choose 88 = .ok (.ior, 1) := by decide +kernel
theorem dX7_choose_89 : decode cX7_choose 89 = .ok (.istore_n 1, 1) := by decide +kernel
theorem dX7_choose_90 : decode cX7_choose 90 = .ok (.goto 9, 3) := by decide +kernel
theorem dX7_choose_93 : decode cX7_choose 93 = .ok (.iinc 3 1, 3) := by decide +kernel
theorem dX7_choose_96 : decode cX7_choose 96 = .ok (.goto (-73), 3) := by decide +kernel
theorem dX7_choose_99 : decode cX7_choose 99 = .ok (.iinc 2 1, 3) := by decide +kernel
theorem dX7_choose_102 : decode cX7_choose 102 = .ok (.goto (-98), 3) := by decide +kernel
theorem dX7_choose_105 : decode cX7_choose 105 = .ok (.return_, 1) := by decide +kernel
def L_Rolls_choose_23 (k4 : Int32 → Int32 → CS → Option (Int32 × CS)) (k72 : Int32 → Int32 → Int32 → CS → Option (Int32 × CS)) (x1 : Int32) (x2 : Int32) : Nat → Int32 → CS → Option (Int32 × CS)
  | 0, _, _ => none
  | n + 1, x3, σ => if (σ.1 64) ≤ x3 then k4 x1 (x2 + 1) σ else if 8 ≤ x3 then k4 x1 (x2 + 1) σ else if ((x1 >>> (x3 &&& 31)) &&& 1) = 0 then if 256 ≤ x1 then (L_Rolls_choose_23 k4 k72 x1 x2 n) (x3 + 1) σ else bnd (f_Rolls_quarrelOf x3 x1 σ) (fun r60 σ60 => gix x1 256 (if r60 = (rd σ60 25 x1) then k72 x1 x2 x3 σ60 else (L_Rolls_choose_23 k4 k72 x1 x2 n) (x3 + 1) σ60)) else (L_Rolls_choose_23 k4 k72 x1 x2 n) (x3 + 1) σ
set_option maxHeartbeats 4000000 in
set_option maxRecDepth 100000 in
theorem w_Rolls_choose_23 (C : Cx g p s m args meth c A 4 cX7_choose yX7_choose.cls) (hr : meth.sig.returnType = none)  {res : Int32 × CS}  (x1 : Int32) (x2 : Int32) {k4 : Int32 → Int32 → CS → Option (Int32 × CS)} (hk4 : ∀ (x1 : Int32) (x2 : Int32) (σ : CS) (ta : Nat → Nat), φ0 ≤ ph σ.2.2 → ph σ.2.2 ≤ BB → k4 x1 x2 σ = some res → NV g p l e s m args below meth c A 1 26 4 ad Rr φ0 res ta σ [(0, .ref (ad 8)), (1, .int x1), (2, .int x2)] 4 []) {k72 : Int32 → Int32 → Int32 → CS → Option (Int32 × CS)} (hk72 : ∀ (x1 : Int32) (x2 : Int32) (x3 : Int32) (σ : CS) (ta : Nat → Nat), φ0 ≤ ph σ.2.2 → ph σ.2.2 ≤ BB → k72 x1 x2 x3 σ = some res → NV g p l e s m args below meth c A 1 26 4 ad Rr φ0 res ta σ [(0, .ref (ad 8)), (1, .int x1), (2, .int x2), (3, .int x3)] 72 []) : ∀ (n : Nat) (x3 : Int32) (σ : CS) (ta : Nat → Nat), φ0 ≤ ph σ.2.2 → ph σ.2.2 ≤ BB → L_Rolls_choose_23 k4 k72 x1 x2 n x3 σ = some res → NV g p l e s m args below meth c A 1 26 4 ad Rr φ0 res ta σ [(0, .ref (ad 8)), (1, .int x1), (2, .int x2), (3, .int x3)] 23 [] := by
  intro n
  induction n with
  | zero =>
    intro x3 σ ta hφ hφ2 h
    exact absurd (show (none : Option (Int32 × CS)) = some res from h) (by intro h9; cases h9)
  | succ n ih =>
    intro x3 σ ta hφ hφ2 h
    rw [L_Rolls_choose_23] at h
    refine nw_iload_n C dX7_choose_23 rfl 3 rfl ?_
    refine nw_aload_n C dX7_choose_24 rfl 0 rfl ?_
    refine nw_get (v := .int (σ.1 64)) C in_X7 8 cl_Rolls rfl 5 (by decide) tw_434 rfl rfl dX7_choose_25 ?_
    refine nw_icmp_ge (tgt := 99) C dX7_choose_28 (by decide) h (fun _ h => ?_) (fun _ h => ?_)
    · refine nw_iinc (lv' := [(2, .int (x2 + 1)), (0, .ref (ad 8)), (1, .int x1), (3, .int x3)]) C (x2 + 1) dX7_choose_99 2 rfl rfl (by decide) rfl ?_
      refine nw_goto (tgt := 4) C dX7_choose_102 (by decide) ?_
      exact nw_lv (lv' := [(0, .ref (ad 8)), (1, .int x1), (2, .int (x2 + 1))]) [1, 2, 0] rfl (hk4 x1 (x2 + 1) _ _ hφ hφ2 h)
    · refine nw_iload_n C dX7_choose_31 rfl 3 rfl ?_
      refine nw_aload_n C dX7_choose_32 rfl 0 rfl ?_
      refine nw_get (v := .ref (ad 50)) C in_X7 8 cl_Rolls rfl 1 (by decide) tw_430 rfl rfl dX7_choose_33 ?_
      refine nw_alenI C 50 (cl_I 23 rfl) dX7_choose_36 ?_
      refine nw_st (st' := [.int 8, .int x3]) rfl ?_
      refine nw_icmp_ge (tgt := 99) C dX7_choose_37 (by decide) h (fun _ h => ?_) (fun _ h => ?_)
      · refine nw_iinc (lv' := [(2, .int (x2 + 1)), (0, .ref (ad 8)), (1, .int x1), (3, .int x3)]) C (x2 + 1) dX7_choose_99 2 rfl rfl (by decide) rfl ?_
        refine nw_goto (tgt := 4) C dX7_choose_102 (by decide) ?_
        exact nw_lv (lv' := [(0, .ref (ad 8)), (1, .int x1), (2, .int (x2 + 1))]) [1, 2, 0] rfl (hk4 x1 (x2 + 1) _ _ hφ hφ2 h)
      · refine nw_iload_n C dX7_choose_40 rfl 1 rfl ?_
        refine nw_iload_n C dX7_choose_41 rfl 3 rfl ?_
        refine nw_ishr C dX7_choose_42 ?_
        refine nw_iconst (v := 1) C dX7_choose_43 (by decide) ?_
        refine nw_iand C dX7_choose_44 ?_
        refine nw_if_ne (tgt := 93) C dX7_choose_45 (by decide) h (fun _ h => ?_) (fun _ h => ?_)
        · refine nw_iload_n C dX7_choose_48 rfl 1 rfl ?_
          refine nw_aload_n C dX7_choose_49 rfl 0 rfl ?_
          refine nw_get (v := .ref (ad 52)) C in_X7 8 cl_Rolls rfl 3 (by decide) tw_432 rfl rfl dX7_choose_50 ?_
          refine nw_alenI C 52 (cl_I 25 rfl) dX7_choose_53 ?_
          refine nw_st (st' := [.int 256, .int x1]) rfl ?_
          refine nw_icmp_ge (tgt := 93) C dX7_choose_54 (by decide) h (fun _ h => ?_) (fun _ h => ?_)
          · refine nw_iinc (lv' := [(3, .int (x3 + 1)), (0, .ref (ad 8)), (1, .int x1), (2, .int x2)]) C (x3 + 1) dX7_choose_93 3 rfl rfl (by decide) rfl ?_
            refine nw_goto (tgt := 23) C dX7_choose_96 (by decide) ?_
            exact nw_lv (lv' := [(0, .ref (ad 8)), (1, .int x1), (2, .int x2), (3, .int (x3 + 1))]) [1, 2, 3, 0] rfl (ih (x3 + 1) _ _ hφ hφ2 h)
          · refine nw_aload_n C dX7_choose_57 rfl 0 rfl ?_
            refine nw_iload_n C dX7_choose_58 rfl 3 rfl ?_
            refine nw_iload_n C dX7_choose_59 rfl 1 rfl ?_
            refine nc_callVI (q0 := 8) (As := [.int x3, .int x1]) (rest := []) C h (fun _ _ e => c_Rolls_quarrelOf e hφ2) tw_608 kv_X7_quarrelOf cl_Rolls rfl ⟨Nat.le_of_ble_eq_true rfl, Nat.le_of_ble_eq_true rfl⟩ rfl dX7_choose_60 rfl (Nat.le_of_ble_eq_true rfl) hφ hφ2 (fun r60 σ60 ta h hφ hφ2 => ?_)
            refine nw_aload_n C dX7_choose_63 rfl 0 rfl ?_
            refine nw_get (v := .ref (ad 52)) C in_X7 8 cl_Rolls rfl 3 (by decide) tw_432 rfl rfl dX7_choose_64 ?_
            refine nw_iload_n C dX7_choose_67 rfl 1 rfl ?_
            refine nw_iald C 52 (cl_I 25 rfl) dX7_choose_68 h (fun h => ?_)
            refine nw_icmp_ne (tgt := 93) C dX7_choose_69 (by decide) h (fun _ h => ?_) (fun _ h => ?_)
            · exact nw_lv (lv' := [(0, .ref (ad 8)), (1, .int x1), (2, .int x2), (3, .int x3)]) [0, 1, 2, 3] rfl (hk72 x1 x2 x3 _ _ hφ hφ2 h)
            · refine nw_iinc (lv' := [(3, .int (x3 + 1)), (0, .ref (ad 8)), (1, .int x1), (2, .int x2)]) C (x3 + 1) dX7_choose_93 3 rfl rfl (by decide) rfl ?_
              refine nw_goto (tgt := 23) C dX7_choose_96 (by decide) ?_
              exact nw_lv (lv' := [(0, .ref (ad 8)), (1, .int x1), (2, .int x2), (3, .int (x3 + 1))]) [1, 2, 3, 0] rfl (ih (x3 + 1) _ _ hφ hφ2 h)
        · refine nw_iinc (lv' := [(3, .int (x3 + 1)), (0, .ref (ad 8)), (1, .int x1), (2, .int x2)]) C (x3 + 1) dX7_choose_93 3 rfl rfl (by decide) rfl ?_
          refine nw_goto (tgt := 23) C dX7_choose_96 (by decide) ?_
          exact nw_lv (lv' := [(0, .ref (ad 8)), (1, .int x1), (2, .int x2), (3, .int (x3 + 1))]) [1, 2, 3, 0] rfl (ih (x3 + 1) _ _ hφ hφ2 h)
def B_Rolls_choose_72 (k4 : Int32 → Int32 → CS → Option (Int32 × CS))  (x1 : Int32) (x2 : Int32) (x3 : Int32) (σ : CS) : Option (Int32 × CS) := gix x3 8 (gix x2 8 (k4 (x1 ||| ((1 : Int32) <<< (x3 &&& 31))) (x2 + 1) (wr σ 26 x2 (rd σ 23 x3))))
set_option maxHeartbeats 4000000 in
set_option maxRecDepth 100000 in
theorem w_Rolls_choose_72 (C : Cx g p s m args meth c A 4 cX7_choose yX7_choose.cls) (hr : meth.sig.returnType = none)  {res : Int32 × CS}   (x1 : Int32) (x2 : Int32) (x3 : Int32) {k4 : Int32 → Int32 → CS → Option (Int32 × CS)} (hk4 : ∀ (x1 : Int32) (x2 : Int32) (σ : CS) (ta : Nat → Nat), φ0 ≤ ph σ.2.2 → ph σ.2.2 ≤ BB → k4 x1 x2 σ = some res → NV g p l e s m args below meth c A 1 26 4 ad Rr φ0 res ta σ [(0, .ref (ad 8)), (1, .int x1), (2, .int x2)] 4 []) (σ : CS) (ta : Nat → Nat) (hφ : φ0 ≤ ph σ.2.2) (hφ2 : ph σ.2.2 ≤ BB) (h : B_Rolls_choose_72 k4 x1 x2 x3 σ = some res) : NV g p l e s m args below meth c A 1 26 4 ad Rr φ0 res ta σ [(0, .ref (ad 8)), (1, .int x1), (2, .int x2), (3, .int x3)] 72 [] := by
  unfold B_Rolls_choose_72 at h
  refine nw_aload_n C dX7_choose_72 rfl 0 rfl ?_
  refine nw_get (v := .ref (ad 53)) C in_X7 8 cl_Rolls rfl 4 (by decide) tw_433 rfl rfl dX7_choose_73 ?_
  refine nw_iload_n C dX7_choose_76 rfl 2 rfl ?_
  refine nw_aload_n C dX7_choose_77 rfl 0 rfl ?_
  refine nw_get (v := .ref (ad 50)) C in_X7 8 cl_Rolls rfl 1 (by decide) tw_430 rfl rfl dX7_choose_78 ?_
  refine nw_iload_n C dX7_choose_81 rfl 3 rfl ?_
  refine nw_iald C 50 (cl_I 23 rfl) dX7_choose_82 h (fun h => ?_)
  refine nw_iast C 53 (cl_I 26 rfl) dX7_choose_83 h (cs_I 26 rfl) (fun h => ?_)
  refine nw_iload_n C dX7_choose_84 rfl 1 rfl ?_
  refine nw_iconst (v := 1) C dX7_choose_85 (by decide) ?_
  refine nw_iload_n C dX7_choose_86 rfl 3 rfl ?_
  refine nw_ishl C dX7_choose_87 ?_
  refine nw_ior C dX7_choose_88 ?_
  refine nw_istore_n (lv' := [(1, .int (x1 ||| ((1 : Int32) <<< (x3 &&& 31)))), (0, .ref (ad 8)), (2, .int x2), (3, .int x3)]) C dX7_choose_89 rfl (by decide) rfl ?_
  refine nw_goto (tgt := 99) C dX7_choose_90 (by decide) ?_
  refine nw_iinc (lv' := [(2, .int (x2 + 1)), (1, .int (x1 ||| ((1 : Int32) <<< (x3 &&& 31)))), (0, .ref (ad 8)), (3, .int x3)]) C (x2 + 1) dX7_choose_99 2 rfl rfl (by decide) rfl ?_
  refine nw_goto (tgt := 4) C dX7_choose_102 (by decide) ?_
  exact nw_lv (lv' := [(0, .ref (ad 8)), (1, .int (x1 ||| ((1 : Int32) <<< (x3 &&& 31)))), (2, .int (x2 + 1))]) [2, 1, 0] rfl (hk4 (x1 ||| ((1 : Int32) <<< (x3 &&& 31))) (x2 + 1) _ _ hφ hφ2 h)
def L_Rolls_choose_4   : Nat → Int32 → Int32 → CS → Option (Int32 × CS)
  | 0, _, _, _ => none
  | n + 1, x1, x2, σ => if (σ.1 64) ≤ x2 then some (0, σ) else if 8 ≤ x2 then some (0, σ) else L_Rolls_choose_23 (L_Rolls_choose_4 n) (B_Rolls_choose_72 (L_Rolls_choose_4 n)) x1 x2 FU 0 σ
set_option maxHeartbeats 4000000 in
set_option maxRecDepth 100000 in
theorem w_Rolls_choose_4 (C : Cx g p s m args meth c A 4 cX7_choose yX7_choose.cls) (hr : meth.sig.returnType = none)  {res : Int32 × CS}    : ∀ (n : Nat) (x1 : Int32) (x2 : Int32) (σ : CS) (ta : Nat → Nat), φ0 ≤ ph σ.2.2 → ph σ.2.2 ≤ BB → L_Rolls_choose_4 n x1 x2 σ = some res → NV g p l e s m args below meth c A 1 26 4 ad Rr φ0 res ta σ [(0, .ref (ad 8)), (1, .int x1), (2, .int x2)] 4 [] := by
  intro n
  induction n with
  | zero =>
    intro x1 x2 σ ta hφ hφ2 h
    exact absurd (show (none : Option (Int32 × CS)) = some res from h) (by intro h9; cases h9)
  | succ n ih =>
    intro x1 x2 σ ta hφ hφ2 h
    rw [L_Rolls_choose_4] at h
    refine nw_iload_n C dX7_choose_4 rfl 2 rfl ?_
    refine nw_aload_n C dX7_choose_5 rfl 0 rfl ?_
    refine nw_get (v := .int (σ.1 64)) C in_X7 8 cl_Rolls rfl 5 (by decide) tw_434 rfl rfl dX7_choose_6 ?_
    refine nw_icmp_ge (tgt := 105) C dX7_choose_9 (by decide) h (fun _ h => ?_) (fun _ h => ?_)
    · exact nc_vret C hr dX7_choose_105 hφ hφ2 h
    · refine nw_iload_n C dX7_choose_12 rfl 2 rfl ?_
      refine nw_aload_n C dX7_choose_13 rfl 0 rfl ?_
      refine nw_get (v := .ref (ad 53)) C in_X7 8 cl_Rolls rfl 4 (by decide) tw_433 rfl rfl dX7_choose_14 ?_
      refine nw_alenI C 53 (cl_I 26 rfl) dX7_choose_17 ?_
      refine nw_st (st' := [.int 8, .int x2]) rfl ?_
      refine nw_icmp_ge (tgt := 105) C dX7_choose_18 (by decide) h (fun _ h => ?_) (fun _ h => ?_)
      · exact nc_vret C hr dX7_choose_105 hφ hφ2 h
      · refine nw_iconst (v := 0) C dX7_choose_21 (by decide) ?_
        refine nw_istore_n (lv' := [(3, .int 0), (0, .ref (ad 8)), (1, .int x1), (2, .int x2)]) C dX7_choose_22 rfl (by decide) rfl ?_
        exact nw_lv (lv' := [(0, .ref (ad 8)), (1, .int x1), (2, .int x2), (3, .int 0)]) [1, 2, 3, 0] rfl (w_Rolls_choose_23 C hr x1 x2 ih (fun x1_ x2_ x3_ σ_ ta_ hφ_ hφ2_ h_ => w_Rolls_choose_72 C hr x1_ x2_ x3_ ih σ_ ta_ hφ_ hφ2_ h_) FU 0 _ _ hφ hφ2 h)
def f_Rolls_choose  (σ : CS) : Option (Int32 × CS) := L_Rolls_choose_4 FU 0 0 σ
set_option maxHeartbeats 4000000 in
set_option maxRecDepth 100000 in
theorem c_Rolls_choose {l : Launch} {g : EG} {ad ta : Nat → Nat} {Rr : va_W} {σ σ' : CS} {r : Int32}   (h : f_Rolls_choose σ = some (r, σ')) (hφ2 : ph σ.2.2 ≤ BB) : CtV l g yX7_choose (.code yX7_choose cX7_choose 4 none) 1 26 ad ta Rr σ [.ref (ad 8)] r σ' := by
  refine Ct.of rfl (by decide) (Nat.le_of_ble_eq_true rfl) ?_
  intro p e s m args below meth c A C hr
  have hφ : ph σ.2.2 ≤ ph σ.2.2 := Nat.le_refl _
  refine nw_zero (ph σ.2.2) ?_
  show NV g p l e s m args below meth c A 1 26 4 ad Rr (ph σ.2.2) (r, σ') ta σ [(0, .ref (ad 8))] 0 []
  unfold f_Rolls_choose at h
  refine nw_iconst (v := 0) C dX7_choose_0 (by decide) ?_
  refine nw_istore_n (lv' := [(1, .int 0), (0, .ref (ad 8))]) C dX7_choose_1 rfl (by decide) rfl ?_
  refine nw_iconst (v := 0) C dX7_choose_2 (by decide) ?_
  refine nw_istore_n (lv' := [(2, .int 0), (1, .int 0), (0, .ref (ad 8))]) C dX7_choose_3 rfl (by decide) rfl ?_
  exact nw_lv (lv' := [(0, .ref (ad 8)), (1, .int 0), (2, .int 0)]) [2, 1, 0] rfl (w_Rolls_choose_4 C hr FU 0 0 _ _ hφ hφ2 h)
theorem dX7_join_0 : decode cX7_join 0 = .ok (.aload_n 0, 1) := by decide +kernel
theorem dX7_join_1 : decode cX7_join 1 = .ok (.getfield 48, 3) := by decide +kernel
theorem dX7_join_4 : decode cX7_join 4 = .ok (.ifCond .ne 4, 3) := by decide +kernel
theorem dX7_join_7 : decode cX7_join 7 = .ok (.return_, 1) := by decide +kernel
theorem dX7_join_8 : decode cX7_join 8 = .ok (.aload_n 0, 1) := by decide +kernel
theorem dX7_join_9 : decode cX7_join 9 = .ok (.iconst 0, 1) := by decide +kernel
theorem dX7_join_10 : decode cX7_join 10 = .ok (.putfield 48, 3) := by decide +kernel
theorem dX7_join_13 : decode cX7_join 13 = .ok (.aload_n 0, 1) := by decide +kernel
theorem dX7_join_14 : decode cX7_join 14 = .ok (.invokevirtual 73, 3) := by decide +kernel
theorem dX7_join_17 : decode cX7_join 17 = .ok (.aload_n 0, 1) := by decide +kernel
theorem dX7_join_18 : decode cX7_join 18 = .ok (.getfield 55, 3) := by decide +kernel
theorem dX7_join_21 : decode cX7_join 21 = .ok (.ifCond .ne 15, 3) := by decide +kernel
theorem dX7_join_24 : decode cX7_join 24 = .ok (.aload_n 0, 1) := by decide +kernel
theorem dX7_join_25 : decode cX7_join 25 = .ok (.invokevirtual 76, 3) := by decide +kernel
theorem dX7_join_28 : decode cX7_join 28 = .ok (.aload_n 0, 1) := by decide +kernel
theorem dX7_join_29 : decode cX7_join 29 = .ok (.invokevirtual 79, 3) := by decide +kernel
theorem dX7_join_32 : decode cX7_join 32 = .ok (.aload_n 0, 1) := by decide +kernel
theorem dX7_join_33 : decode cX7_join 33 = .ok (.invokevirtual 82, 3) := by decide +kernel
theorem dX7_join_36 : decode cX7_join 36 = .ok (.return_, 1) := by decide +kernel
def f_Rolls_join  (σ : CS) : Option (Int32 × CS) := if (σ.1 66) = 0 then some (0, σ) else bnd (f_Rolls_list (sF σ 66 0)) (fun _ σ14 => if (σ14.1 65) = 0 then bnd (f_Rolls_weigh σ14) (fun _ σ25 => bnd (f_Rolls_measure σ25) (fun _ σ29 => bnd (f_Rolls_choose σ29) (fun _ σ33 => some (0, σ33)))) else some (0, σ14))
set_option maxHeartbeats 4000000 in
set_option maxRecDepth 100000 in
theorem c_Rolls_join {l : Launch} {g : EG} {ad ta : Nat → Nat} {Rr : va_W} {σ σ' : CS} {r : Int32}   (h : f_Rolls_join σ = some (r, σ')) (hφ2 : ph σ.2.2 ≤ BB) : CtV l g yX7_join (.code yX7_join cX7_join 1 none) 3 68 ad ta Rr σ [.ref (ad 8)] r σ' := by
  refine Ct.of rfl (by decide) (Nat.le_of_ble_eq_true rfl) ?_
  intro p e s m args below meth c A C hr
  have hφ : ph σ.2.2 ≤ ph σ.2.2 := Nat.le_refl _
  refine nw_zero (ph σ.2.2) ?_
  show NV g p l e s m args below meth c A 3 68 1 ad Rr (ph σ.2.2) (r, σ') ta σ [(0, .ref (ad 8))] 0 []
  unfold f_Rolls_join at h
  refine nw_aload_n C dX7_join_0 rfl 0 rfl ?_
  refine nw_get (v := .int (σ.1 66)) C in_X7 8 cl_Rolls rfl 7 (by decide) tw_436 rfl rfl dX7_join_1 ?_
  refine nw_if_ne (tgt := 8) C dX7_join_4 (by decide) h (fun _ h => ?_) (fun _ h => ?_)
  · exact nc_vret C hr dX7_join_7 hφ hφ2 h
  · refine nw_aload_n C dX7_join_8 rfl 0 rfl ?_
    refine nw_iconst (v := 0) C dX7_join_9 (by decide) ?_
    refine nw_put (ty := .boolean) C in_X7 8 cl_Rolls rfl 7 (by decide) tyX7 tyX7_ok nmX7 tw_436 rfl rfl (by decide +kernel) (nar_b (Or.inl rfl)) (fit_b (Or.inl rfl)) (Nat.le_of_ble_eq_true rfl) dX7_join_10 cs_Rolls_stale ?_
    refine nw_aload_n C dX7_join_13 rfl 0 rfl ?_
    refine nc_callVV (q0 := 8) (As := []) (rest := []) C h (fun _ _ e => c_Rolls_list e hφ2) tw_583 kv_X7_list cl_Rolls rfl ⟨Nat.le_of_ble_eq_true rfl, Nat.le_of_ble_eq_true rfl⟩ rfl dX7_join_14 rfl (Nat.le_of_ble_eq_true rfl) hφ hφ2 (fun r14 σ14 ta h hφ hφ2 => ?_)
    refine nw_aload_n C dX7_join_17 rfl 0 rfl ?_
    refine nw_get (v := .int (σ14.1 65)) C in_X7 8 cl_Rolls rfl 6 (by decide) tw_435 rfl rfl dX7_join_18 ?_
    refine nw_if_ne (tgt := 36) C dX7_join_21 (by decide) h (fun _ h => ?_) (fun _ h => ?_)
    · refine nw_aload_n C dX7_join_24 rfl 0 rfl ?_
      refine nc_callVV (q0 := 8) (As := []) (rest := []) C h (fun _ _ e => c_Rolls_weigh e hφ2) tw_592 kv_X7_weigh cl_Rolls rfl ⟨Nat.le_of_ble_eq_true rfl, Nat.le_of_ble_eq_true rfl⟩ rfl dX7_join_25 rfl (Nat.le_of_ble_eq_true rfl) hφ hφ2 (fun r25 σ25 ta h hφ hφ2 => ?_)
      refine nw_aload_n C dX7_join_28 rfl 0 rfl ?_
      refine nc_callVV (q0 := 8) (As := []) (rest := []) C h (fun _ _ e => c_Rolls_measure e hφ2) tw_603 kv_X7_measure cl_Rolls rfl ⟨Nat.le_of_ble_eq_true rfl, Nat.le_of_ble_eq_true rfl⟩ rfl dX7_join_29 rfl (Nat.le_of_ble_eq_true rfl) hφ hφ2 (fun r29 σ29 ta h hφ hφ2 => ?_)
      refine nw_aload_n C dX7_join_32 rfl 0 rfl ?_
      refine nc_callVV (q0 := 8) (As := []) (rest := []) C h (fun _ _ e => c_Rolls_choose e hφ2) tw_612 kv_X7_choose cl_Rolls rfl ⟨Nat.le_of_ble_eq_true rfl, Nat.le_of_ble_eq_true rfl⟩ rfl dX7_join_33 rfl (Nat.le_of_ble_eq_true rfl) hφ hφ2 (fun r33 σ33 ta h hφ hφ2 => ?_)
      exact nc_vret C hr dX7_join_36 hφ hφ2 h
    · exact nc_vret C hr dX7_join_36 hφ hφ2 h
theorem dX7_leastQuarrel_0 : decode cX7_leastQuarrel 0 = .ok (.aload_n 0, 1) := by decide +kernel
theorem dX7_leastQuarrel_1 : decode cX7_leastQuarrel 1 = .ok (.invokevirtual 52, 3) := by decide +kernel
theorem dX7_leastQuarrel_4 : decode cX7_leastQuarrel 4 = .ok (.aload_n 0, 1) := by decide +kernel
theorem dX7_leastQuarrel_5 : decode cX7_leastQuarrel 5 = .ok (.getfield 55, 3) := by decide +kernel
theorem dX7_leastQuarrel_8 : decode cX7_leastQuarrel 8 = .ok (.ifCond .ne 11, 3) := by decide +kernel
theorem dX7_leastQuarrel_11 : decode cX7_leastQuarrel 11 = .ok (.aload_n 0, 1) := by decide +kernel
theorem dX7_leastQuarrel_12 : decode cX7_leastQuarrel 12 = .ok (.getfield 27, 3) := by decide +kernel
theorem dX7_leastQuarrel_15 : decode cX7_leastQuarrel 15 = .ok (.arraylength, 1) := by decide +kernel
theorem dX7_leastQuarrel_16 : decode cX7_leastQuarrel 16 = .ok (.ifCond .ne 7, 3) := by decide +kernel
theorem dX7_leastQuarrel_19 : decode cX7_leastQuarrel 19 = .ok (.iconst (-1), 1) := by decide +kernel
theorem dX7_leastQuarrel_20 : decode cX7_leastQuarrel 20 = .ok (.goto 9, 3) := by decide +kernel
theorem dX7_leastQuarrel_23 : decode cX7_leastQuarrel 23 = .ok (.aload_n 0, 1) := by decide +kernel
theorem dX7_leastQuarrel_24 : decode cX7_leastQuarrel 24 = .ok (.getfield 27, 3) := by decide +kernel
theorem dX7_leastQuarrel_27 : decode cX7_leastQuarrel 27 = .ok (.iconst 0, 1) := by decide +kernel
theorem dX7_leastQuarrel_28 : decode cX7_leastQuarrel 28 = .ok (.iaload, 1) := by decide +kernel
theorem dX7_leastQuarrel_29 : decode cX7_leastQuarrel 29 = .ok (.ireturn, 1) := by decide +kernel
def f_Rolls_leastQuarrel  (σ : CS) : Option (Int32 × CS) := bnd (f_Rolls_join σ) (fun _ σ1 => if (σ1.1 65) = 0 then if (256 : Int32) = 0 then some ((-1), σ1) else gix 0 256 (some ((rd σ1 25 0), σ1)) else some ((-1), σ1))
set_option maxHeartbeats 4000000 in
set_option maxRecDepth 100000 in
theorem c_Rolls_leastQuarrel {l : Launch} {g : EG} {ad ta : Nat → Nat} {Rr : va_W} {σ σ' : CS} {r : Int32}   (h : f_Rolls_leastQuarrel σ = some (r, σ')) (hφ2 : ph σ.2.2 ≤ BB) : CtI l g yX7_leastQuarrel (.code yX7_leastQuarrel cX7_leastQuarrel 1 (some .int)) 4 88 ad ta Rr σ [.ref (ad 8)] r σ' := by
  refine Ct.of rfl (by decide) (Nat.le_of_ble_eq_true rfl) ?_
  intro p e s m args below meth c A C hr
  have hφ : ph σ.2.2 ≤ ph σ.2.2 := Nat.le_refl _
  refine nw_zero (ph σ.2.2) ?_
  show NI g p l e s m args below meth c A 4 88 1 ad Rr (ph σ.2.2) (r, σ') ta σ [(0, .ref (ad 8))] 0 []
  unfold f_Rolls_leastQuarrel at h
  refine nw_aload_n C dX7_leastQuarrel_0 rfl 0 rfl ?_
  refine nc_callVV (q0 := 8) (As := []) (rest := []) C h (fun _ _ e => c_Rolls_join e hφ2) tw_579 kv_X7_join cl_Rolls rfl ⟨Nat.le_of_ble_eq_true rfl, Nat.le_of_ble_eq_true rfl⟩ rfl dX7_leastQuarrel_1 rfl (Nat.le_of_ble_eq_true rfl) hφ hφ2 (fun r1 σ1 ta h hφ hφ2 => ?_)
  refine nw_aload_n C dX7_leastQuarrel_4 rfl 0 rfl ?_
  refine nw_get (v := .int (σ1.1 65)) C in_X7 8 cl_Rolls rfl 6 (by decide) tw_435 rfl rfl dX7_leastQuarrel_5 ?_
  refine nw_if_ne (tgt := 19) C dX7_leastQuarrel_8 (by decide) h (fun _ h => ?_) (fun _ h => ?_)
  · refine nw_aload_n C dX7_leastQuarrel_11 rfl 0 rfl ?_
    refine nw_get (v := .ref (ad 52)) C in_X7 8 cl_Rolls rfl 3 (by decide) tw_432 rfl rfl dX7_leastQuarrel_12 ?_
    refine nw_alenI C 52 (cl_I 25 rfl) dX7_leastQuarrel_15 ?_
    refine nw_st (st' := [.int 256]) rfl ?_
    refine nw_if_ne (tgt := 23) C dX7_leastQuarrel_16 (by decide) h (fun _ h => ?_) (fun _ h => ?_)
    · refine nw_iconst (v := (-1)) C dX7_leastQuarrel_19 (by decide) ?_
      refine nw_goto (tgt := 29) C dX7_leastQuarrel_20 (by decide) ?_
      exact nc_iret C hr dX7_leastQuarrel_29 hφ hφ2 h
    · refine nw_aload_n C dX7_leastQuarrel_23 rfl 0 rfl ?_
      refine nw_get (v := .ref (ad 52)) C in_X7 8 cl_Rolls rfl 3 (by decide) tw_432 rfl rfl dX7_leastQuarrel_24 ?_
      refine nw_iconst (v := 0) C dX7_leastQuarrel_27 (by decide) ?_
      refine nw_iald C 52 (cl_I 25 rfl) dX7_leastQuarrel_28 h (fun h => ?_)
      exact nc_iret C hr dX7_leastQuarrel_29 hφ hφ2 h
  · refine nw_iconst (v := (-1)) C dX7_leastQuarrel_19 (by decide) ?_
    refine nw_goto (tgt := 29) C dX7_leastQuarrel_20 (by decide) ?_
    exact nc_iret C hr dX7_leastQuarrel_29 hφ hφ2 h
theorem dX11_quarrel_0 : decode cX11_quarrel 0 = .ok (.aload_n 0, 1) := by decide +kernel
theorem dX11_quarrel_1 : decode cX11_quarrel 1 = .ok (.getfield 71, 3) := by decide +kernel
theorem dX11_quarrel_4 : decode cX11_quarrel 4 = .ok (.invokevirtual 261, 3) := by decide +kernel
theorem dX11_quarrel_7 : decode cX11_quarrel 7 = .ok (.ireturn, 1) := by decide +kernel
def f_FC_quarrel  (σ : CS) : Option (Int32 × CS) := bnd (f_Rolls_leastQuarrel σ) (fun r4 σ4 => some (r4, σ4))
set_option maxHeartbeats 4000000 in
set_option maxRecDepth 100000 in
theorem c_FC_quarrel {l : Launch} {g : EG} {ad ta : Nat → Nat} {Rr : va_W} {σ σ' : CS} {r : Int32}   (h : f_FC_quarrel σ = some (r, σ')) (hφ2 : ph σ.2.2 ≤ BB) : CtI l g yX11_quarrel (.code yX11_quarrel cX11_quarrel 1 (some .int)) 5 108 ad ta Rr σ [.ref (ad 0)] r σ' := by
  refine Ct.of rfl (by decide) (Nat.le_of_ble_eq_true rfl) ?_
  intro p e s m args below meth c A C hr
  have hφ : ph σ.2.2 ≤ ph σ.2.2 := Nat.le_refl _
  refine nw_zero (ph σ.2.2) ?_
  show NI g p l e s m args below meth c A 5 108 1 ad Rr (ph σ.2.2) (r, σ') ta σ [(0, .ref (ad 0))] 0 []
  unfold f_FC_quarrel at h
  refine nw_aload_n C dX11_quarrel_0 rfl 0 rfl ?_
  refine nw_get (v := .ref (ad 8)) C in_X11 0 cl_FC rfl 7 (by decide) tw_517 rfl rfl dX11_quarrel_1 ?_
  refine nc_callVI (q0 := 8) (As := []) (rest := []) C h (fun _ _ e => c_Rolls_leastQuarrel e hφ2) tw_575 kv_X7_leastQuarrel cl_Rolls rfl ⟨Nat.le_of_ble_eq_true rfl, Nat.le_of_ble_eq_true rfl⟩ rfl dX11_quarrel_4 rfl (Nat.le_of_ble_eq_true rfl) hφ hφ2 (fun r4 σ4 ta h hφ hφ2 => ?_)
  exact nc_iret C hr dX11_quarrel_7 hφ hφ2 h
theorem dX4_nextWithLodge_0 : decode cX4_nextWithLodge 0 = .ok (.iload_n 1, 1) := by decide +kernel
theorem dX4_nextWithLodge_1 : decode cX4_nextWithLodge 1 = .ok (.istore_n 2, 1) := by decide +kernel
theorem dX4_nextWithLodge_2 : decode cX4_nextWithLodge 2 = .ok (.iload_n 2, 1) := by decide +kernel
theorem dX4_nextWithLodge_3 : decode cX4_nextWithLodge 3 = .ok (.aload_n 0, 1) := by decide +kernel
theorem dX4_nextWithLodge_4 : decode cX4_nextWithLodge 4 = .ok (.getfield 11, 3) := by decide +kernel
theorem dX4_nextWithLodge_7 : decode cX4_nextWithLodge 7 = .ok (.invokevirtual 65, 3) := by decide +kernel
theorem dX4_nextWithLodge_10 : decode cX4_nextWithLodge 10 = .ok (.if_icmp .ge 24, 3) := by decide +kernel
theorem dX4_nextWithLodge_13 : decode cX4_nextWithLodge 13 = .ok (.aload_n 0, 1) := by decide +kernel
theorem dX4_nextWithLodge_14 : decode cX4_nextWithLodge 14 = .ok (.getfield 11, 3) := by decide +kernel
theorem dX4_nextWithLodge_17 : decode cX4_nextWithLodge 17 = .ok (.iload_n 2, 1) := by decide +kernel
theorem dX4_nextWithLodge_18 : decode cX4_nextWithLodge 18 = .ok (.iconst 5, 1) := by decide +kernel
theorem dX4_nextWithLodge_19 : decode cX4_nextWithLodge 19 = .ok (.invokevirtual 68, 3) := by decide +kernel
theorem dX4_nextWithLodge_22 : decode cX4_nextWithLodge 22 = .ok (.iconst (-1), 1) := by decide +kernel
theorem dX4_nextWithLodge_23 : decode cX4_nextWithLodge 23 = .ok (.if_icmp .eq 5, 3) := by decide +kernel
theorem dX4_nextWithLodge_26 : decode cX4_nextWithLodge 26 = .ok (.iload_n 2, 1) := by decide +kernel
theorem dX4_nextWithLodge_27 : decode cX4_nextWithLodge 27 = .ok (.ireturn, 1) := by decide +kernel
theorem dX4_nextWithLodge_28 : decode cX4_nextWithLodge 28 = .ok (.iinc 2 1, 3) := by decide +kernel
theorem dX4_nextWithLodge_31 : decode cX4_nextWithLodge 31 = .ok (.goto (-29), 3) := by decide +kernel
theorem dX4_nextWithLodge_34 : decode cX4_nextWithLodge 34 = .ok (.iconst (-1), 1) := by decide +kernel
theorem dX4_nextWithLodge_35 : decode cX4_nextWithLodge 35 = .ok (.ireturn, 1) := by decide +kernel
def L_Patrols_nextWithLodge_2   : Nat → Int32 → CS → Option (Int32 × CS)
  | 0, _, _ => none
  | n + 1, x2, σ => bnd (f_Table_size 9 σ) (fun r7 σ7 => if r7 ≤ x2 then some ((-1), σ7) else bnd (f_Table_get 9 x2 5 σ7) (fun r19 σ19 => if r19 = (-1) then (L_Patrols_nextWithLodge_2 n) (x2 + 1) σ19 else some (x2, σ19)))
set_option maxHeartbeats 4000000 in
set_option maxRecDepth 100000 in
theorem w_Patrols_nextWithLodge_2 (C : Cx g p s m args meth c A 3 cX4_nextWithLodge yX4_nextWithLodge.cls) (hr : meth.sig.returnType = (some .int))  {res : Int32 × CS}    : ∀ (n : Nat) (x2 : Int32) (σ : CS) (ta : Nat → Nat), φ0 ≤ ph σ.2.2 → ph σ.2.2 ≤ BB → L_Patrols_nextWithLodge_2 n x2 σ = some res → NI g p l e s m args below meth c A 1 23 3 ad Rr φ0 res ta σ [(0, .ref (ad 9)), (2, .int x2)] 2 [] := by
  intro n
  induction n with
  | zero =>
    intro x2 σ ta hφ hφ2 h
    exact absurd (show (none : Option (Int32 × CS)) = some res from h) (by intro h9; cases h9)
  | succ n ih =>
    intro x2 σ ta hφ hφ2 h
    rw [L_Patrols_nextWithLodge_2] at h
    refine nw_iload_n C dX4_nextWithLodge_2 rfl 1 rfl ?_
    refine nw_aload_n C dX4_nextWithLodge_3 rfl 0 rfl ?_
    refine nw_get (v := .ref (ad 20)) C in_X4 9 cl_Patrols rfl 0 (by decide) tw_462 rfl rfl dX4_nextWithLodge_4 ?_
    refine nc_callVI (q0 := 20) (As := []) (rest := [.int x2]) C h (fun _ _ e => c_Table_size 9 (by decide) e hφ2) tw_628 kv_X9_size (cl_T 9 (by decide)) rfl ⟨Nat.le_of_ble_eq_true rfl, Nat.le_of_ble_eq_true rfl⟩ rfl dX4_nextWithLodge_7 rfl (Nat.le_of_ble_eq_true rfl) hφ hφ2 (fun r7 σ7 ta h hφ hφ2 => ?_)
    refine nw_icmp_ge (tgt := 34) C dX4_nextWithLodge_10 (by decide) h (fun _ h => ?_) (fun _ h => ?_)
    · refine nw_iconst (v := (-1)) C dX4_nextWithLodge_34 (by decide) ?_
      exact nc_iret C hr dX4_nextWithLodge_35 hφ hφ2 h
    · refine nw_aload_n C dX4_nextWithLodge_13 rfl 0 rfl ?_
      refine nw_get (v := .ref (ad 20)) C in_X4 9 cl_Patrols rfl 0 (by decide) tw_462 rfl rfl dX4_nextWithLodge_14 ?_
      refine nw_iload_n C dX4_nextWithLodge_17 rfl 1 rfl ?_
      refine nw_iconst (v := 5) C dX4_nextWithLodge_18 (by decide) ?_
      refine nc_callVI (q0 := 20) (As := [.int x2, .int 5]) (rest := []) C h (fun _ _ e => c_Table_get 9 (by decide) e hφ2) tw_629 kv_X9_get (cl_T 9 (by decide)) rfl ⟨Nat.le_of_ble_eq_true rfl, Nat.le_of_ble_eq_true rfl⟩ rfl dX4_nextWithLodge_19 rfl (Nat.le_of_ble_eq_true rfl) hφ hφ2 (fun r19 σ19 ta h hφ hφ2 => ?_)
      refine nw_iconst (v := (-1)) C dX4_nextWithLodge_22 (by decide) ?_
      refine nw_icmp_eq (tgt := 28) C dX4_nextWithLodge_23 (by decide) h (fun _ h => ?_) (fun _ h => ?_)
      · refine nw_iinc (lv' := [(2, .int (x2 + 1)), (0, .ref (ad 9))]) C (x2 + 1) dX4_nextWithLodge_28 1 rfl rfl (by decide) rfl ?_
        refine nw_goto (tgt := 2) C dX4_nextWithLodge_31 (by decide) ?_
        exact nw_lv (lv' := [(0, .ref (ad 9)), (2, .int (x2 + 1))]) [1, 0] rfl (ih (x2 + 1) _ _ hφ hφ2 h)
      · refine nw_iload_n C dX4_nextWithLodge_26 rfl 1 rfl ?_
        exact nc_iret C hr dX4_nextWithLodge_27 hφ hφ2 h
def f_Patrols_nextWithLodge (p0 : Int32) (σ : CS) : Option (Int32 × CS) := L_Patrols_nextWithLodge_2 FU p0 σ
set_option maxHeartbeats 4000000 in
set_option maxRecDepth 100000 in
theorem c_Patrols_nextWithLodge {l : Launch} {g : EG} {ad ta : Nat → Nat} {Rr : va_W} {σ σ' : CS} {r : Int32} {p0 : Int32}  (h : f_Patrols_nextWithLodge p0 σ = some (r, σ')) (hφ2 : ph σ.2.2 ≤ BB) : CtI l g yX4_nextWithLodge (.code yX4_nextWithLodge cX4_nextWithLodge 3 (some .int)) 1 23 ad ta Rr σ [.ref (ad 9), .int p0] r σ' := by
  refine Ct.of rfl (by decide) (Nat.le_of_ble_eq_true rfl) ?_
  intro p e s m args below meth c A C hr
  have hφ : ph σ.2.2 ≤ ph σ.2.2 := Nat.le_refl _
  refine nw_zero (ph σ.2.2) ?_
  show NI g p l e s m args below meth c A 1 23 3 ad Rr (ph σ.2.2) (r, σ') ta σ [(0, .ref (ad 9)), (1, .int p0)] 0 []
  unfold f_Patrols_nextWithLodge at h
  refine nw_iload_n C dX4_nextWithLodge_0 rfl 1 rfl ?_
  refine nw_istore_n (lv' := [(2, .int p0), (0, .ref (ad 9)), (1, .int p0)]) C dX4_nextWithLodge_1 rfl (by decide) rfl ?_
  exact nw_lv (lv' := [(0, .ref (ad 9)), (2, .int p0)]) [1, 0] rfl (w_Patrols_nextWithLodge_2 C hr FU p0 _ _ hφ hφ2 h)
theorem dX11_wayBetween_0 : decode cX11_wayBetween 0 = .ok (.iload_n 0, 1) := by decide +kernel
theorem dX11_wayBetween_1 : decode cX11_wayBetween 1 = .ok (.iload_n 2, 1) := by decide +kernel
theorem dX11_wayBetween_2 : decode cX11_wayBetween 2 = .ok (.isub, 1) := by decide +kernel
theorem dX11_wayBetween_3 : decode cX11_wayBetween 3 = .ok (.invokestatic 315, 3) := by decide +kernel
theorem dX11_wayBetween_6 : decode cX11_wayBetween 6 = .ok (.iload_n 1, 1) := by decide +kernel
theorem dX11_wayBetween_7 : decode cX11_wayBetween 7 = .ok (.iload_n 3, 1) := by decide +kernel
theorem dX11_wayBetween_8 : decode cX11_wayBetween 8 = .ok (.isub, 1) := by decide +kernel
theorem dX11_wayBetween_9 : decode cX11_wayBetween 9 = .ok (.invokestatic 315, 3) := by decide +kernel
theorem dX11_wayBetween_12 : decode cX11_wayBetween 12 = .ok (.iadd, 1) := by decide +kernel
theorem dX11_wayBetween_13 : decode cX11_wayBetween 13 = .ok (.ireturn, 1) := by decide +kernel
def f_FC_wayBetween (p0 : Int32) (p1 : Int32) (p2 : Int32) (p3 : Int32) (σ : CS) : Option (Int32 × CS) := some (((if 0 ≤ (p0 - p2) then (p0 - p2) else 0 - (p0 - p2)) + (if 0 ≤ (p1 - p3) then (p1 - p3) else 0 - (p1 - p3))), σ)
set_option maxHeartbeats 4000000 in
set_option maxRecDepth 100000 in
theorem c_FC_wayBetween {l : Launch} {g : EG} {ad ta : Nat → Nat} {Rr : va_W} {σ σ' : CS} {r : Int32} {p0 : Int32} {p1 : Int32} {p2 : Int32} {p3 : Int32}  (h : f_FC_wayBetween p0 p1 p2 p3 σ = some (r, σ')) (hφ2 : ph σ.2.2 ≤ BB) : CtI l g yX11_wayBetween (.code yX11_wayBetween cX11_wayBetween 4 (some .int)) 1 40 ad ta Rr σ [.int p0, .int p1, .int p2, .int p3] r σ' := by
  refine Ct.of rfl (by decide) (Nat.le_of_ble_eq_true rfl) ?_
  intro p e s m args below meth c A C hr
  have hφ : ph σ.2.2 ≤ ph σ.2.2 := Nat.le_refl _
  refine nw_zero (ph σ.2.2) ?_
  show NI g p l e s m args below meth c A 1 40 4 ad Rr (ph σ.2.2) (r, σ') ta σ [(0, .int p0), (1, .int p1), (2, .int p2), (3, .int p3)] 0 []
  unfold f_FC_wayBetween at h
  refine nw_iload_n C dX11_wayBetween_0 rfl 0 rfl ?_
  refine nw_iload_n C dX11_wayBetween_1 rfl 2 rfl ?_
  refine nw_isub C dX11_wayBetween_2 ?_
  refine nw_mabs C tw_650 tw_651 tw_125 tm_abs (Nat.le_of_ble_eq_true rfl) (Nat.le_of_ble_eq_true rfl) (Nat.sub_le_sub_right hφ2 _) (Nat.mul_le_mul_left 2 (Nat.sub_le_sub_right hφ2 _)) dX11_wayBetween_3 ?_
  refine nw_iload_n C dX11_wayBetween_6 rfl 1 rfl ?_
  refine nw_iload_n C dX11_wayBetween_7 rfl 3 rfl ?_
  refine nw_isub C dX11_wayBetween_8 ?_
  refine nw_mabs C tw_650 tw_651 tw_125 tm_abs (Nat.le_of_ble_eq_true rfl) (Nat.le_of_ble_eq_true rfl) (Nat.sub_le_sub_right hφ2 _) (Nat.mul_le_mul_left 2 (Nat.sub_le_sub_right hφ2 _)) dX11_wayBetween_9 ?_
  refine nw_iadd C dX11_wayBetween_12 ?_
  exact nc_iret C hr dX11_wayBetween_13 hφ hφ2 h
theorem dX4_wayFromLodge_0 : decode cX4_wayFromLodge 0 = .ok (.aload_n 0, 1) := by decide +kernel
theorem dX4_wayFromLodge_1 : decode cX4_wayFromLodge 1 = .ok (.getfield 11, 3) := by decide +kernel
theorem dX4_wayFromLodge_4 : decode cX4_wayFromLodge 4 = .ok (.iload_n 1, 1) := by decide +kernel
theorem dX4_wayFromLodge_5 : decode cX4_wayFromLodge 5 = .ok (.iconst 3, 1) := by decide +kernel
theorem dX4_wayFromLodge_6 : decode cX4_wayFromLodge 6 = .ok (.invokevirtual 68, 3) := by decide +kernel
theorem dX4_wayFromLodge_9 : decode cX4_wayFromLodge 9 = .ok (.aload_n 0, 1) := by decide +kernel
theorem dX4_wayFromLodge_10 : decode cX4_wayFromLodge 10 = .ok (.getfield 11, 3) := by decide +kernel
theorem dX4_wayFromLodge_13 : decode cX4_wayFromLodge 13 = .ok (.iload_n 1, 1) := by decide +kernel
theorem dX4_wayFromLodge_14 : decode cX4_wayFromLodge 14 = .ok (.iconst 4, 1) := by decide +kernel
theorem dX4_wayFromLodge_15 : decode cX4_wayFromLodge 15 = .ok (.invokevirtual 68, 3) := by decide +kernel
theorem dX4_wayFromLodge_18 : decode cX4_wayFromLodge 18 = .ok (.aload_n 0, 1) := by decide +kernel
theorem dX4_wayFromLodge_19 : decode cX4_wayFromLodge 19 = .ok (.getfield 20, 3) := by decide +kernel
theorem dX4_wayFromLodge_22 : decode cX4_wayFromLodge 22 = .ok (.iload_n 2, 1) := by decide +kernel
theorem dX4_wayFromLodge_23 : decode cX4_wayFromLodge 23 = .ok (.iconst 0, 1) := by decide +kernel
theorem dX4_wayFromLodge_24 : decode cX4_wayFromLodge 24 = .ok (.invokevirtual 68, 3) := by decide +kernel
theorem dX4_wayFromLodge_27 : decode cX4_wayFromLodge 27 = .ok (.aload_n 0, 1) := by decide +kernel
theorem dX4_wayFromLodge_28 : decode cX4_wayFromLodge 28 = .ok (.getfield 20, 3) := by decide +kernel
theorem dX4_wayFromLodge_31 : decode cX4_wayFromLodge 31 = .ok (.iload_n 2, 1) := by decide +kernel
theorem dX4_wayFromLodge_32 : decode cX4_wayFromLodge 32 = .ok (.iconst 1, 1) := by decide +kernel
theorem dX4_wayFromLodge_33 : decode cX4_wayFromLodge 33 = .ok (.invokevirtual 68, 3) := by decide +kernel
theorem dX4_wayFromLodge_36 : decode cX4_wayFromLodge 36 = .ok (.invokestatic 88, 3) := by decide +kernel
theorem dX4_wayFromLodge_39 : decode cX4_wayFromLodge 39 = .ok (.ireturn, 1) := by decide +kernel
def f_Patrols_wayFromLodge (p0 : Int32) (p1 : Int32) (σ : CS) : Option (Int32 × CS) := bnd (f_Table_get 9 p0 3 σ) (fun r6 σ6 => bnd (f_Table_get 9 p0 4 σ6) (fun r15 σ15 => bnd (f_Table_get 13 p1 0 σ15) (fun r24 σ24 => bnd (f_Table_get 13 p1 1 σ24) (fun r33 σ33 => bnd (f_FC_wayBetween r6 r15 r24 r33 σ33) (fun r36 σ36 => some (r36, σ36))))))
set_option maxHeartbeats 4000000 in
set_option maxRecDepth 100000 in
theorem c_Patrols_wayFromLodge {l : Launch} {g : EG} {ad ta : Nat → Nat} {Rr : va_W} {σ σ' : CS} {r : Int32} {p0 : Int32} {p1 : Int32}  (h : f_Patrols_wayFromLodge p0 p1 σ = some (r, σ')) (hφ2 : ph σ.2.2 ≤ BB) : CtI l g yX4_wayFromLodge (.code yX4_wayFromLodge cX4_wayFromLodge 3 (some .int)) 2 63 ad ta Rr σ [.ref (ad 9), .int p0, .int p1] r σ' := by
  refine Ct.of rfl (by decide) (Nat.le_of_ble_eq_true rfl) ?_
  intro p e s m args below meth c A C hr
  have hφ : ph σ.2.2 ≤ ph σ.2.2 := Nat.le_refl _
  refine nw_zero (ph σ.2.2) ?_
  show NI g p l e s m args below meth c A 2 63 3 ad Rr (ph σ.2.2) (r, σ') ta σ [(0, .ref (ad 9)), (1, .int p0), (2, .int p1)] 0 []
  unfold f_Patrols_wayFromLodge at h
  refine nw_aload_n C dX4_wayFromLodge_0 rfl 0 rfl ?_
  refine nw_get (v := .ref (ad 20)) C in_X4 9 cl_Patrols rfl 0 (by decide) tw_462 rfl rfl dX4_wayFromLodge_1 ?_
  refine nw_iload_n C dX4_wayFromLodge_4 rfl 1 rfl ?_
  refine nw_iconst (v := 3) C dX4_wayFromLodge_5 (by decide) ?_
  refine nc_callVI (q0 := 20) (As := [.int p0, .int 3]) (rest := []) C h (fun _ _ e => c_Table_get 9 (by decide) e hφ2) tw_629 kv_X9_get (cl_T 9 (by decide)) rfl ⟨Nat.le_of_ble_eq_true rfl, Nat.le_of_ble_eq_true rfl⟩ rfl dX4_wayFromLodge_6 rfl (Nat.le_of_ble_eq_true rfl) hφ hφ2 (fun r6 σ6 ta h hφ hφ2 => ?_)
  refine nw_aload_n C dX4_wayFromLodge_9 rfl 0 rfl ?_
  refine nw_get (v := .ref (ad 20)) C in_X4 9 cl_Patrols rfl 0 (by decide) tw_462 rfl rfl dX4_wayFromLodge_10 ?_
  refine nw_iload_n C dX4_wayFromLodge_13 rfl 1 rfl ?_
  refine nw_iconst (v := 4) C dX4_wayFromLodge_14 (by decide) ?_
  refine nc_callVI (q0 := 20) (As := [.int p0, .int 4]) (rest := [.int r6]) C h (fun _ _ e => c_Table_get 9 (by decide) e hφ2) tw_629 kv_X9_get (cl_T 9 (by decide)) rfl ⟨Nat.le_of_ble_eq_true rfl, Nat.le_of_ble_eq_true rfl⟩ rfl dX4_wayFromLodge_15 rfl (Nat.le_of_ble_eq_true rfl) hφ hφ2 (fun r15 σ15 ta h hφ hφ2 => ?_)
  refine nw_aload_n C dX4_wayFromLodge_18 rfl 0 rfl ?_
  refine nw_get (v := .ref (ad 24)) C in_X4 9 cl_Patrols rfl 1 (by decide) tw_463 rfl rfl dX4_wayFromLodge_19 ?_
  refine nw_iload_n C dX4_wayFromLodge_22 rfl 2 rfl ?_
  refine nw_iconst (v := 0) C dX4_wayFromLodge_23 (by decide) ?_
  refine nc_callVI (q0 := 24) (As := [.int p1, .int 0]) (rest := [.int r15, .int r6]) C h (fun _ _ e => c_Table_get 13 (by decide) e hφ2) tw_629 kv_X9_get (cl_T 13 (by decide)) rfl ⟨Nat.le_of_ble_eq_true rfl, Nat.le_of_ble_eq_true rfl⟩ rfl dX4_wayFromLodge_24 rfl (Nat.le_of_ble_eq_true rfl) hφ hφ2 (fun r24 σ24 ta h hφ hφ2 => ?_)
  refine nw_aload_n C dX4_wayFromLodge_27 rfl 0 rfl ?_
  refine nw_get (v := .ref (ad 24)) C in_X4 9 cl_Patrols rfl 1 (by decide) tw_463 rfl rfl dX4_wayFromLodge_28 ?_
  refine nw_iload_n C dX4_wayFromLodge_31 rfl 2 rfl ?_
  refine nw_iconst (v := 1) C dX4_wayFromLodge_32 (by decide) ?_
  refine nc_callVI (q0 := 24) (As := [.int p1, .int 1]) (rest := [.int r24, .int r15, .int r6]) C h (fun _ _ e => c_Table_get 13 (by decide) e hφ2) tw_629 kv_X9_get (cl_T 13 (by decide)) rfl ⟨Nat.le_of_ble_eq_true rfl, Nat.le_of_ble_eq_true rfl⟩ rfl dX4_wayFromLodge_33 rfl (Nat.le_of_ble_eq_true rfl) hφ hφ2 (fun r33 σ33 ta h hφ hφ2 => ?_)
  refine nc_callSNI  (As := [.int r6, .int r15, .int r24, .int r33]) (rest := []) C h (fun _ _ e => c_FC_wayBetween e hφ2) tw_647 ks_X11_wayBetween ⟨Nat.le_of_ble_eq_true rfl, Nat.le_of_ble_eq_true rfl⟩ rfl dX4_wayFromLodge_36 rfl (Nat.le_of_ble_eq_true rfl) hφ hφ2 (fun r36 σ36 ta h hφ hφ2 => ?_)
  exact nc_iret C hr dX4_wayFromLodge_39 hφ hφ2 h
theorem dX4_pathTo_0 : decode cX4_pathTo 0 = .ok (.iload_n 2, 1) := by decide +kernel
theorem dX4_pathTo_1 : decode cX4_pathTo 1 = .ok (.iconst 1, 1) := by decide +kernel
theorem dX4_pathTo_2 : decode cX4_pathTo 2 = .ok (.iload_n 3, 1) := by decide +kernel
theorem dX4_pathTo_3 : decode cX4_pathTo 3 = .ok (.ishl, 1) := by decide +kernel
theorem dX4_pathTo_4 : decode cX4_pathTo 4 = .ok (.iconst (-1), 1) := by decide +kernel
theorem dX4_pathTo_5 : decode cX4_pathTo 5 = .ok (.ixor, 1) := by decide +kernel
theorem dX4_pathTo_6 : decode cX4_pathTo 6 = .ok (.iand, 1) := by decide +kernel
theorem dX4_pathTo_7 : decode cX4_pathTo 7 = .ok (.istore 4, 2) := by decide +kernel
theorem dX4_pathTo_9 : decode cX4_pathTo 9 = .ok (.iload 4, 2) := by decide +kernel
theorem dX4_pathTo_11 : decode cX4_pathTo 11 = .ok (.ifCond .ne 10, 3) := by decide +kernel
theorem dX4_pathTo_14 : decode cX4_pathTo 14 = .ok (.aload_n 0, 1) := by decide +kernel
theorem dX4_pathTo_15 : decode cX4_pathTo 15 = .ok (.iload_n 1, 1) := by decide +kernel
theorem dX4_pathTo_16 : decode cX4_pathTo 16 = .ok (.iload_n 3, 1) := by decide +kernel
theorem dX4_pathTo_17 : decode cX4_pathTo 17 = .ok (.invokevirtual 80, 3) := by decide +kernel
theorem dX4_pathTo_20 : decode cX4_pathTo 20 = .ok (.ireturn, 1) := by decide +kernel
theorem dX4_pathTo_21 : decode cX4_pathTo 21 = .ok (.ldc 75, 2) := by decide +kernel
theorem dX4_pathTo_23 : decode cX4_pathTo 23 = .ok (.istore 5, 2) := by decide +kernel
theorem dX4_pathTo_25 : decode cX4_pathTo 25 = .ok (.iconst 0, 1) := by decide +kernel
theorem dX4_pathTo_26 : decode cX4_pathTo 26 = .ok (.istore 6, 2) := by decide +kernel
theorem dX4_pathTo_28 : decode cX4_pathTo 28 = .ok (.iload 6, 2) := by decide +kernel
theorem dX4_pathTo_30 : decode cX4_pathTo 30 = .ok (.aload_n 0, 1) := by decide +kernel
theorem dX4_pathTo_31 : decode cX4_pathTo 31 = .ok (.getfield 20, 3) := by decide +kernel
theorem dX4_pathTo_34 : decode cX4_pathTo 34 = .ok (.invokevirtual 65, 3) := by decide +kernel
theorem dX4_pathTo_37 : decode cX4_pathTo 37 = .ok (.if_icmp .ge 100, 3) := by decide +kernel
theorem dX4_pathTo_40 : decode cX4_pathTo 40 = .ok (.iload 4, 2) := by decide +kernel
theorem dX4_pathTo_42 : decode cX4_pathTo 42 = .ok (.bipush 8, 2) := by decide +kernel
theorem dX4_pathTo_44 : decode cX4_pathTo 44 = .ok (.imul, 1) := by decide +kernel
theorem dX4_pathTo_45 : decode cX4_pathTo 45 = .ok (.iload 6, 2) := by decide +kernel
theorem dX4_pathTo_47 : decode cX4_pathTo 47 = .ok (.iadd, 1) := by decide +kernel
theorem dX4_pathTo_48 : decode cX4_pathTo 48 = .ok (.istore 7, 2) := by decide +kernel
theorem dX4_pathTo_50 : decode cX4_pathTo 50 = .ok (.iload 4, 2) := by decide +kernel
theorem dX4_pathTo_52 : decode cX4_pathTo 52 = .ok (.iload 6, 2) := by decide +kernel
theorem dX4_pathTo_54 : decode cX4_pathTo 54 = .ok (.ishr, 1) := by decide +kernel
theorem dX4_pathTo_55 : decode cX4_pathTo 55 = .ok (.iconst 1, 1) := by decide +kernel
theorem dX4_pathTo_56 : decode cX4_pathTo 56 = .ok (.iand, 1) := by decide +kernel
theorem dX4_pathTo_57 : decode cX4_pathTo 57 = .ok (.iconst 1, 1) := by decide +kernel
theorem dX4_pathTo_58 : decode cX4_pathTo 58 = .ok (.if_icmp .ne 73, 3) := by decide +kernel
theorem dX4_pathTo_61 : decode cX4_pathTo 61 = .ok (.iload 7, 2) := by decide +kernel
theorem dX4_pathTo_63 : decode cX4_pathTo 63 = .ok (.aload_n 0, 1) := by decide +kernel
theorem dX4_pathTo_64 : decode cX4_pathTo 64 = .ok (.getfield 23, 3) := by decide +kernel
theorem dX4_pathTo_67 : decode cX4_pathTo 67 = .ok (.arraylength, 1) := by decide +kernel
theorem dX4_pathTo_68 : decode cX4_pathTo 68 = .ok (.if_icmp .ge 63, 3) := by decide +kernel
theorem dX4_pathTo_71 : decode cX4_pathTo 71 = .ok (.aload_n 0, 1) := by decide +kernel
theorem dX4_pathTo_72 : decode cX4_pathTo 72 = .ok (.getfield 20, 3) := by decide +kernel
theorem dX4_pathTo_75 : decode cX4_pathTo 75 = .ok (.iload 6, 2) := by decide +kernel
theorem dX4_pathTo_77 : decode cX4_pathTo 77 = .ok (.iconst 0, 1) := by decide +kernel
theorem dX4_pathTo_78 : decode cX4_pathTo 78 = .ok (.invokevirtual 68, 3) := by decide +kernel
theorem dX4_pathTo_81 : decode cX4_pathTo 81 = .ok (.aload_n 0, 1) := by decide +kernel
theorem dX4_pathTo_82 : decode cX4_pathTo 82 = .ok (.getfield 20, 3) := by decide +kernel
theorem dX4_pathTo_85 : decode cX4_pathTo 85 = .ok (.iload 6, 2) := by decide +kernel
theorem dX4_pathTo_87 : decode cX4_pathTo 87 = .ok (.iconst 1, 1) := by decide +kernel
theorem dX4_pathTo_88 : decode cX4_pathTo 88 = .ok (.invokevirtual 68, 3) := by decide +kernel
theorem dX4_pathTo_91 : decode cX4_pathTo 91 = .ok (.aload_n 0, 1) := by decide +kernel
theorem dX4_pathTo_92 : decode cX4_pathTo 92 = .ok (.getfield 20, 3) := by decide +kernel
theorem dX4_pathTo_95 : decode cX4_pathTo 95 = .ok (.iload_n 3, 1) := by decide +kernel
theorem dX4_pathTo_96 : decode cX4_pathTo 96 = .ok (.iconst 0, 1) := by decide +kernel
theorem dX4_pathTo_97 : decode cX4_pathTo 97 = .ok (.invokevirtual 68, 3) := by decide +kernel
theorem dX4_pathTo_100 : decode cX4_pathTo 100 = .ok (.aload_n 0, 1) := by decide +kernel
theorem dX4_pathTo_101 : decode cX4_pathTo 101 = .ok (.getfield 20, 3) := by decide +kernel
theorem dX4_pathTo_104 : decode cX4_pathTo 104 = .ok (.iload_n 3, 1) := by decide +kernel
theorem dX4_pathTo_105 : decode cX4_pathTo 105 = .ok (.iconst 1, 1) := by decide +kernel
theorem dX4_pathTo_106 : decode cX4_pathTo 106 = .ok (.invokevirtual 68, 3) := by decide +kernel
theorem dX4_pathTo_109 : decode cX4_pathTo 109 = .ok (.invokestatic 88, 3) := by decide +kernel
theorem dX4_pathTo_112 : decode cX4_pathTo 112 = .ok (.istore 8, 2) := by decide +kernel
theorem dX4_pathTo_114 : decode cX4_pathTo 114 = .ok (.iload 5, 2) := by decide +kernel
theorem dX4_pathTo_116 : decode cX4_pathTo 116 = .ok (.aload_n 0, 1) := by decide +kernel
theorem dX4_pathTo_117 : decode cX4_pathTo 117 = .ok (.getfield 23, 3) := by decide +kernel
theorem dX4_pathTo_120 : decode cX4_pathTo 120 = .ok (.iload 7, 2) := by decide +kernel
theorem dX4_pathTo_122 : decode cX4_pathTo 122 = .ok (.iaload, 1) := by decide +kernel
theorem dX4_pathTo_123 : decode cX4_pathTo 123 = .ok (.iload 8, 2) := by decide +kernel
theorem dX4_pathTo_125 : decode cX4_pathTo 125 = .ok (.iadd, 1) := by decide +kernel
theorem dX4_pathTo_126 : decode cX4_pathTo 126 = .ok (.invokestatic 83, 3) := by decide +kernel
theorem dX4_pathTo_129 : decode cX4_pathTo 129 = .ok (.istore 5, 2) := by decide +kernel
theorem dX4_pathTo_131 : decode cX4_pathTo 131 = .ok (.iinc 6 1, 3) := by decide +kernel
theorem dX4_pathTo_134 : decode cX4_pathTo 134 = .ok (.goto (-106), 3) := by decide +kernel
theorem dX4_pathTo_137 : decode cX4_pathTo 137 = .ok (.iload 5, 2) := by decide +kernel
theorem dX4_pathTo_139 : decode cX4_pathTo 139 = .ok (.ireturn, 1) := by decide +kernel
def L_Patrols_pathTo_28  (x3 : Int32) (x4 : Int32) : Nat → Int32 → Int32 → CS → Option (Int32 × CS)
  | 0, _, _, _ => none
  | n + 1, x5, x6, σ => bnd (f_Table_size 13 σ) (fun r34 σ34 => if r34 ≤ x6 then some (x5, σ34) else if ((x4 >>> (x6 &&& 31)) &&& 1) = 1 then if 2048 ≤ ((x4 * 8) + x6) then (L_Patrols_pathTo_28 x3 x4 n) x5 (x6 + 1) σ34 else bnd (f_Table_get 13 x6 0 σ34) (fun r78 σ78 => bnd (f_Table_get 13 x6 1 σ78) (fun r88 σ88 => bnd (f_Table_get 13 x3 0 σ88) (fun r97 σ97 => bnd (f_Table_get 13 x3 1 σ97) (fun r106 σ106 => bnd (f_FC_wayBetween r78 r88 r97 r106 σ106) (fun r109 σ109 => gix ((x4 * 8) + x6) 2048 ((L_Patrols_pathTo_28 x3 x4 n) (if ((rd σ109 27 ((x4 * 8) + x6)) + r109) < x5 then ((rd σ109 27 ((x4 * 8) + x6)) + r109) else x5) (x6 + 1) σ109)))))) else (L_Patrols_pathTo_28 x3 x4 n) x5 (x6 + 1) σ34)
set_option maxHeartbeats 4000000 in
set_option maxRecDepth 100000 in
theorem w_Patrols_pathTo_28 (C : Cx g p s m args meth c A 9 cX4_pathTo yX4_pathTo.cls) (hr : meth.sig.returnType = (some .int))  {res : Int32 × CS}  (x3 : Int32) (x4 : Int32)  : ∀ (n : Nat) (x5 : Int32) (x6 : Int32) (σ : CS) (ta : Nat → Nat), φ0 ≤ ph σ.2.2 → ph σ.2.2 ≤ BB → L_Patrols_pathTo_28 x3 x4 n x5 x6 σ = some res → NI g p l e s m args below meth c A 3 85 9 ad Rr φ0 res ta σ [(0, .ref (ad 9)), (3, .int x3), (4, .int x4), (5, .int x5), (6, .int x6)] 28 [] := by
  intro n
  induction n with
  | zero =>
    intro x5 x6 σ ta hφ hφ2 h
    exact absurd (show (none : Option (Int32 × CS)) = some res from h) (by intro h9; cases h9)
  | succ n ih =>
    intro x5 x6 σ ta hφ hφ2 h
    rw [L_Patrols_pathTo_28] at h
    refine nw_iload C dX4_pathTo_28 4 rfl ?_
    refine nw_aload_n C dX4_pathTo_30 rfl 0 rfl ?_
    refine nw_get (v := .ref (ad 24)) C in_X4 9 cl_Patrols rfl 1 (by decide) tw_463 rfl rfl dX4_pathTo_31 ?_
    refine nc_callVI (q0 := 24) (As := []) (rest := [.int x6]) C h (fun _ _ e => c_Table_size 13 (by decide) e hφ2) tw_628 kv_X9_size (cl_T 13 (by decide)) rfl ⟨Nat.le_of_ble_eq_true rfl, Nat.le_of_ble_eq_true rfl⟩ rfl dX4_pathTo_34 rfl (Nat.le_of_ble_eq_true rfl) hφ hφ2 (fun r34 σ34 ta h hφ hφ2 => ?_)
    refine nw_icmp_ge (tgt := 137) C dX4_pathTo_37 (by decide) h (fun _ h => ?_) (fun _ h => ?_)
    · refine nw_iload C dX4_pathTo_137 3 rfl ?_
      exact nc_iret C hr dX4_pathTo_139 hφ hφ2 h
    · refine nw_iload C dX4_pathTo_40 2 rfl ?_
      refine nw_bipush (v := 8) C dX4_pathTo_42 (by decide) ?_
      refine nw_imul C dX4_pathTo_44 ?_
      refine nw_iload C dX4_pathTo_45 4 rfl ?_
      refine nw_iadd C dX4_pathTo_47 ?_
      refine nw_istore (lv' := [(7, .int ((x4 * 8) + x6)), (0, .ref (ad 9)), (3, .int x3), (4, .int x4), (5, .int x5), (6, .int x6)]) C dX4_pathTo_48 (by decide) rfl ?_
      refine nw_iload C dX4_pathTo_50 3 rfl ?_
      refine nw_iload C dX4_pathTo_52 5 rfl ?_
      refine nw_ishr C dX4_pathTo_54 ?_
      refine nw_iconst (v := 1) C dX4_pathTo_55 (by decide) ?_
      refine nw_iand C dX4_pathTo_56 ?_
      refine nw_iconst (v := 1) C dX4_pathTo_57 (by decide) ?_
      refine nw_icmp_ne (tgt := 131) C dX4_pathTo_58 (by decide) h (fun _ h => ?_) (fun _ h => ?_)
      · refine nw_iload C dX4_pathTo_61 0 rfl ?_
        refine nw_aload_n C dX4_pathTo_63 rfl 1 rfl ?_
        refine nw_get (v := .ref (ad 54)) C in_X4 9 cl_Patrols rfl 2 (by decide) tw_465 rfl rfl dX4_pathTo_64 ?_
        refine nw_alenI C 54 (cl_I 27 rfl) dX4_pathTo_67 ?_
        refine nw_st (st' := [.int 2048, .int ((x4 * 8) + x6)]) rfl ?_
        refine nw_icmp_ge (tgt := 131) C dX4_pathTo_68 (by decide) h (fun _ h => ?_) (fun _ h => ?_)
        · refine nw_iinc (lv' := [(6, .int (x6 + 1)), (7, .int ((x4 * 8) + x6)), (0, .ref (ad 9)), (3, .int x3), (4, .int x4), (5, .int x5)]) C (x6 + 1) dX4_pathTo_131 5 rfl rfl (by decide) rfl ?_
          refine nw_goto (tgt := 28) C dX4_pathTo_134 (by decide) ?_
          exact nw_lv (lv' := [(0, .ref (ad 9)), (3, .int x3), (4, .int x4), (5, .int x5), (6, .int (x6 + 1))]) [2, 3, 4, 5, 0] rfl (ih x5 (x6 + 1) _ _ hφ hφ2 h)
        · refine nw_aload_n C dX4_pathTo_71 rfl 1 rfl ?_
          refine nw_get (v := .ref (ad 24)) C in_X4 9 cl_Patrols rfl 1 (by decide) tw_463 rfl rfl dX4_pathTo_72 ?_
          refine nw_iload C dX4_pathTo_75 5 rfl ?_
          refine nw_iconst (v := 0) C dX4_pathTo_77 (by decide) ?_
          refine nc_callVI (q0 := 24) (As := [.int x6, .int 0]) (rest := []) C h (fun _ _ e => c_Table_get 13 (by decide) e hφ2) tw_629 kv_X9_get (cl_T 13 (by decide)) rfl ⟨Nat.le_of_ble_eq_true rfl, Nat.le_of_ble_eq_true rfl⟩ rfl dX4_pathTo_78 rfl (Nat.le_of_ble_eq_true rfl) hφ hφ2 (fun r78 σ78 ta h hφ hφ2 => ?_)
          refine nw_aload_n C dX4_pathTo_81 rfl 1 rfl ?_
          refine nw_get (v := .ref (ad 24)) C in_X4 9 cl_Patrols rfl 1 (by decide) tw_463 rfl rfl dX4_pathTo_82 ?_
          refine nw_iload C dX4_pathTo_85 5 rfl ?_
          refine nw_iconst (v := 1) C dX4_pathTo_87 (by decide) ?_
          refine nc_callVI (q0 := 24) (As := [.int x6, .int 1]) (rest := [.int r78]) C h (fun _ _ e => c_Table_get 13 (by decide) e hφ2) tw_629 kv_X9_get (cl_T 13 (by decide)) rfl ⟨Nat.le_of_ble_eq_true rfl, Nat.le_of_ble_eq_true rfl⟩ rfl dX4_pathTo_88 rfl (Nat.le_of_ble_eq_true rfl) hφ hφ2 (fun r88 σ88 ta h hφ hφ2 => ?_)
          refine nw_aload_n C dX4_pathTo_91 rfl 1 rfl ?_
          refine nw_get (v := .ref (ad 24)) C in_X4 9 cl_Patrols rfl 1 (by decide) tw_463 rfl rfl dX4_pathTo_92 ?_
          refine nw_iload_n C dX4_pathTo_95 rfl 2 rfl ?_
          refine nw_iconst (v := 0) C dX4_pathTo_96 (by decide) ?_
          refine nc_callVI (q0 := 24) (As := [.int x3, .int 0]) (rest := [.int r88, .int r78]) C h (fun _ _ e => c_Table_get 13 (by decide) e hφ2) tw_629 kv_X9_get (cl_T 13 (by decide)) rfl ⟨Nat.le_of_ble_eq_true rfl, Nat.le_of_ble_eq_true rfl⟩ rfl dX4_pathTo_97 rfl (Nat.le_of_ble_eq_true rfl) hφ hφ2 (fun r97 σ97 ta h hφ hφ2 => ?_)
          refine nw_aload_n C dX4_pathTo_100 rfl 1 rfl ?_
          refine nw_get (v := .ref (ad 24)) C in_X4 9 cl_Patrols rfl 1 (by decide) tw_463 rfl rfl dX4_pathTo_101 ?_
          refine nw_iload_n C dX4_pathTo_104 rfl 2 rfl ?_
          refine nw_iconst (v := 1) C dX4_pathTo_105 (by decide) ?_
          refine nc_callVI (q0 := 24) (As := [.int x3, .int 1]) (rest := [.int r97, .int r88, .int r78]) C h (fun _ _ e => c_Table_get 13 (by decide) e hφ2) tw_629 kv_X9_get (cl_T 13 (by decide)) rfl ⟨Nat.le_of_ble_eq_true rfl, Nat.le_of_ble_eq_true rfl⟩ rfl dX4_pathTo_106 rfl (Nat.le_of_ble_eq_true rfl) hφ hφ2 (fun r106 σ106 ta h hφ hφ2 => ?_)
          refine nc_callSNI  (As := [.int r78, .int r88, .int r97, .int r106]) (rest := []) C h (fun _ _ e => c_FC_wayBetween e hφ2) tw_647 ks_X11_wayBetween ⟨Nat.le_of_ble_eq_true rfl, Nat.le_of_ble_eq_true rfl⟩ rfl dX4_pathTo_109 rfl (Nat.le_of_ble_eq_true rfl) hφ hφ2 (fun r109 σ109 ta h hφ hφ2 => ?_)
          refine nw_istore (lv' := [(8, .int r109), (7, .int ((x4 * 8) + x6)), (0, .ref (ad 9)), (3, .int x3), (4, .int x4), (5, .int x5), (6, .int x6)]) C dX4_pathTo_112 (by decide) rfl ?_
          refine nw_iload C dX4_pathTo_114 5 rfl ?_
          refine nw_aload_n C dX4_pathTo_116 rfl 2 rfl ?_
          refine nw_get (v := .ref (ad 54)) C in_X4 9 cl_Patrols rfl 2 (by decide) tw_465 rfl rfl dX4_pathTo_117 ?_
          refine nw_iload C dX4_pathTo_120 1 rfl ?_
          refine nw_iald C 54 (cl_I 27 rfl) dX4_pathTo_122 h (fun h => ?_)
          refine nw_iload C dX4_pathTo_123 0 rfl ?_
          refine nw_iadd C dX4_pathTo_125 ?_
          refine nw_mmin C tw_653 tw_367 tw_125 tm_min (Nat.le_of_ble_eq_true rfl) (Nat.le_of_ble_eq_true rfl) (Nat.sub_le_sub_right hφ2 _) (Nat.mul_le_mul_left 2 (Nat.sub_le_sub_right hφ2 _)) dX4_pathTo_126 ?_
          refine nw_istore (lv' := [(5, .int (if ((rd σ109 27 ((x4 * 8) + x6)) + r109) < x5 then ((rd σ109 27 ((x4 * 8) + x6)) + r109) else x5)), (8, .int r109), (7, .int ((x4 * 8) + x6)), (0, .ref (ad 9)), (3, .int x3), (4, .int x4), (6, .int x6)]) C dX4_pathTo_129 (by decide) rfl ?_
          refine nw_iinc (lv' := [(6, .int (x6 + 1)), (5, .int (if ((rd σ109 27 ((x4 * 8) + x6)) + r109) < x5 then ((rd σ109 27 ((x4 * 8) + x6)) + r109) else x5)), (8, .int r109), (7, .int ((x4 * 8) + x6)), (0, .ref (ad 9)), (3, .int x3), (4, .int x4)]) C (x6 + 1) dX4_pathTo_131 6 rfl rfl (by decide) rfl ?_
          refine nw_goto (tgt := 28) C dX4_pathTo_134 (by decide) ?_
          exact nw_lv (lv' := [(0, .ref (ad 9)), (3, .int x3), (4, .int x4), (5, .int (if ((rd σ109 27 ((x4 * 8) + x6)) + r109) < x5 then ((rd σ109 27 ((x4 * 8) + x6)) + r109) else x5)), (6, .int (x6 + 1))]) [4, 5, 6, 1, 0] rfl (ih (if ((rd σ109 27 ((x4 * 8) + x6)) + r109) < x5 then ((rd σ109 27 ((x4 * 8) + x6)) + r109) else x5) (x6 + 1) _ _ hφ hφ2 h)
      · refine nw_iinc (lv' := [(6, .int (x6 + 1)), (7, .int ((x4 * 8) + x6)), (0, .ref (ad 9)), (3, .int x3), (4, .int x4), (5, .int x5)]) C (x6 + 1) dX4_pathTo_131 5 rfl rfl (by decide) rfl ?_
        refine nw_goto (tgt := 28) C dX4_pathTo_134 (by decide) ?_
        exact nw_lv (lv' := [(0, .ref (ad 9)), (3, .int x3), (4, .int x4), (5, .int x5), (6, .int (x6 + 1))]) [2, 3, 4, 5, 0] rfl (ih x5 (x6 + 1) _ _ hφ hφ2 h)
def f_Patrols_pathTo (p0 : Int32) (p1 : Int32) (p2 : Int32) (σ : CS) : Option (Int32 × CS) := if (p1 &&& (((1 : Int32) <<< (p2 &&& 31)) ^^^ (-1))) = 0 then bnd (f_Patrols_wayFromLodge p0 p2 σ) (fun r17 σ17 => some (r17, σ17)) else L_Patrols_pathTo_28 p2 (p1 &&& (((1 : Int32) <<< (p2 &&& 31)) ^^^ (-1))) FU 1000000 0 σ
set_option maxHeartbeats 4000000 in
set_option maxRecDepth 100000 in
theorem c_Patrols_pathTo {l : Launch} {g : EG} {ad ta : Nat → Nat} {Rr : va_W} {σ σ' : CS} {r : Int32} {p0 : Int32} {p1 : Int32} {p2 : Int32}  (h : f_Patrols_pathTo p0 p1 p2 σ = some (r, σ')) (hφ2 : ph σ.2.2 ≤ BB) : CtI l g yX4_pathTo (.code yX4_pathTo cX4_pathTo 9 (some .int)) 3 85 ad ta Rr σ [.ref (ad 9), .int p0, .int p1, .int p2] r σ' := by
  refine Ct.of rfl (by decide) (Nat.le_of_ble_eq_true rfl) ?_
  intro p e s m args below meth c A C hr
  have hφ : ph σ.2.2 ≤ ph σ.2.2 := Nat.le_refl _
  refine nw_zero (ph σ.2.2) ?_
  show NI g p l e s m args below meth c A 3 85 9 ad Rr (ph σ.2.2) (r, σ') ta σ [(0, .ref (ad 9)), (1, .int p0), (2, .int p1), (3, .int p2)] 0 []
  unfold f_Patrols_pathTo at h
  refine nw_iload_n C dX4_pathTo_0 rfl 2 rfl ?_
  refine nw_iconst (v := 1) C dX4_pathTo_1 (by decide) ?_
  refine nw_iload_n C dX4_pathTo_2 rfl 3 rfl ?_
  refine nw_ishl C dX4_pathTo_3 ?_
  refine nw_iconst (v := (-1)) C dX4_pathTo_4 (by decide) ?_
  refine nw_ixor C dX4_pathTo_5 ?_
  refine nw_iand C dX4_pathTo_6 ?_
  refine nw_istore (lv' := [(4, .int (p1 &&& (((1 : Int32) <<< (p2 &&& 31)) ^^^ (-1)))), (0, .ref (ad 9)), (1, .int p0), (2, .int p1), (3, .int p2)]) C dX4_pathTo_7 (by decide) rfl ?_
  refine nw_iload C dX4_pathTo_9 0 rfl ?_
  refine nw_if_ne (tgt := 21) C dX4_pathTo_11 (by decide) h (fun _ h => ?_) (fun _ h => ?_)
  · refine nw_aload_n C dX4_pathTo_14 rfl 1 rfl ?_
    refine nw_iload_n C dX4_pathTo_15 rfl 2 rfl ?_
    refine nw_iload_n C dX4_pathTo_16 rfl 4 rfl ?_
    refine nc_callVI (q0 := 9) (As := [.int p0, .int p2]) (rest := []) C h (fun _ _ e => c_Patrols_wayFromLodge e hφ2) tw_643 kv_X4_wayFromLodge cl_Patrols rfl ⟨Nat.le_of_ble_eq_true rfl, Nat.le_of_ble_eq_true rfl⟩ rfl dX4_pathTo_17 rfl (Nat.le_of_ble_eq_true rfl) hφ hφ2 (fun r17 σ17 ta h hφ hφ2 => ?_)
    exact nc_iret C hr dX4_pathTo_20 hφ hφ2 h
  · refine nw_ldc (v := 1000000) C tw_638 dX4_pathTo_21 ?_
    refine nw_istore (lv' := [(5, .int 1000000), (4, .int (p1 &&& (((1 : Int32) <<< (p2 &&& 31)) ^^^ (-1)))), (0, .ref (ad 9)), (1, .int p0), (2, .int p1), (3, .int p2)]) C dX4_pathTo_23 (by decide) rfl ?_
    refine nw_iconst (v := 0) C dX4_pathTo_25 (by decide) ?_
    refine nw_istore (lv' := [(6, .int 0), (5, .int 1000000), (4, .int (p1 &&& (((1 : Int32) <<< (p2 &&& 31)) ^^^ (-1)))), (0, .ref (ad 9)), (1, .int p0), (2, .int p1), (3, .int p2)]) C dX4_pathTo_26 (by decide) rfl ?_
    exact nw_lv (lv' := [(0, .ref (ad 9)), (3, .int p2), (4, .int (p1 &&& (((1 : Int32) <<< (p2 &&& 31)) ^^^ (-1)))), (5, .int 1000000), (6, .int 0)]) [3, 6, 2, 1, 0] rfl (w_Patrols_pathTo_28 C hr p2 (p1 &&& (((1 : Int32) <<< (p2 &&& 31)) ^^^ (-1))) FU 1000000 0 _ _ hφ hφ2 h)
theorem dX4_roundOf_0 : decode cX4_roundOf 0 = .ok (.ldc 75, 2) := by decide +kernel
theorem dX4_roundOf_2 : decode cX4_roundOf 2 = .ok (.istore_n 3, 1) := by decide +kernel
theorem dX4_roundOf_3 : decode cX4_roundOf 3 = .ok (.iconst 0, 1) := by decide +kernel
theorem dX4_roundOf_4 : decode cX4_roundOf 4 = .ok (.istore 4, 2) := by decide +kernel
theorem dX4_roundOf_6 : decode cX4_roundOf 6 = .ok (.iload 4, 2) := by decide +kernel
theorem dX4_roundOf_8 : decode cX4_roundOf 8 = .ok (.aload_n 0, 1) := by decide +kernel
theorem dX4_roundOf_9 : decode cX4_roundOf 9 = .ok (.getfield 20, 3) := by decide +kernel
theorem dX4_roundOf_12 : decode cX4_roundOf 12 = .ok (.invokevirtual 65, 3) := by decide +kernel
theorem dX4_roundOf_15 : decode cX4_roundOf 15 = .ok (.if_icmp .ge 73, 3) := by decide +kernel
theorem dX4_roundOf_18 : decode cX4_roundOf 18 = .ok (.iload_n 2, 1) := by decide +kernel
theorem dX4_roundOf_19 : decode cX4_roundOf 19 = .ok (.bipush 8, 2) := by decide +kernel
theorem dX4_roundOf_21 : decode cX4_roundOf 21 = .ok (.imul, 1) := by decide +kernel
theorem dX4_roundOf_22 : decode cX4_roundOf 22 = .ok (.iload 4, 2) := by decide +kernel
theorem dX4_roundOf_24 : decode cX4_roundOf 24 = .ok (.iadd, 1) := by decide +kernel
theorem dX4_roundOf_25 : decode cX4_roundOf 25 = .ok (.istore 5, 2) := by decide +kernel
theorem dX4_roundOf_27 : decode cX4_roundOf 27 = .ok (.iload_n 2, 1) := by decide +kernel
theorem dX4_roundOf_28 : decode cX4_roundOf 28 = .ok (.iload 4, 2) := by decide +kernel
theorem dX4_roundOf_30 : decode cX4_roundOf 30 = .ok (.ishr, 1) := by decide +kernel
theorem dX4_roundOf_31 : decode cX4_roundOf 31 = .ok (.iconst 1, 1) := by decide +kernel
theorem dX4_roundOf_32 : decode cX4_roundOf 32 = .ok (.iand, 1) := by decide +kernel
theorem dX4_roundOf_33 : decode cX4_roundOf 33 = .ok (.iconst 1, 1) := by decide +kernel
theorem dX4_roundOf_34 : decode cX4_roundOf 34 = .ok (.if_icmp .ne 48, 3) := by decide +kernel
theorem dX4_roundOf_37 : decode cX4_roundOf 37 = .ok (.iload 5, 2) := by decide +kernel
theorem dX4_roundOf_39 : decode cX4_roundOf 39 = .ok (.aload_n 0, 1) := by decide +kernel
theorem dX4_roundOf_40 : decode cX4_roundOf 40 = .ok (.getfield 23, 3) := by decide +kernel
theorem dX4_roundOf_43 : decode cX4_roundOf 43 = .ok (.arraylength, 1) := by decide +kernel
theorem dX4_roundOf_44 : decode cX4_roundOf 44 = .ok (.if_icmp .ge 38, 3) := by decide +kernel
theorem dX4_roundOf_47 : decode cX4_roundOf 47 = .ok (.aload_n 0, 1) := by decide +kernel
theorem dX4_roundOf_48 : decode cX4_roundOf 48 = .ok (.getfield 23, 3) := by decide +kernel
theorem dX4_roundOf_51 : decode cX4_roundOf 51 = .ok (.iload 5, 2) := by decide +kernel
theorem dX4_roundOf_53 : decode cX4_roundOf 53 = .ok (.aload_n 0, 1) := by decide +kernel
theorem dX4_roundOf_54 : decode cX4_roundOf 54 = .ok (.iload_n 1, 1) := by decide +kernel
theorem dX4_roundOf_55 : decode cX4_roundOf 55 = .ok (.iload_n 2, 1) := by decide +kernel
theorem dX4_roundOf_56 : decode cX4_roundOf 56 = .ok (.iload 4, 2) := by decide +kernel
theorem dX4_roundOf_58 : decode cX4_roundOf 58 = .ok (.invokevirtual 76, 3) := by decide +kernel
theorem dX4_roundOf_61 : decode cX4_roundOf 61 = .ok (.iastore, 1) := by decide +kernel
theorem dX4_roundOf_62 : decode cX4_roundOf 62 = .ok (.iload_n 3, 1) := by decide +kernel
theorem dX4_roundOf_63 : decode cX4_roundOf 63 = .ok (.aload_n 0, 1) := by decide +kernel
theorem dX4_roundOf_64 : decode cX4_roundOf 64 = .ok (.getfield 23, 3) := by decide +kernel
theorem dX4_roundOf_67 : decode cX4_roundOf 67 = .ok (.iload 5, 2) := by decide +kernel
theorem dX4_roundOf_69 : decode cX4_roundOf 69 = .ok (.iaload, 1) := by decide +kernel
theorem dX4_roundOf_70 : decode cX4_roundOf 70 = .ok (.aload_n 0, 1) := by decide +kernel
theorem dX4_roundOf_71 : decode cX4_roundOf 71 = .ok (.iload_n 1, 1) := by decide +kernel
theorem dX4_roundOf_72 : decode cX4_roundOf 72 = .ok (.iload 4, 2) := by decide +kernel
theorem dX4_roundOf_74 : decode cX4_roundOf 74 = .ok (.invokevirtual 80, 3) := by decide +kernel
theorem dX4_roundOf_77 : decode cX4_roundOf 77 = .ok (.iadd, 1) := by decide +kernel
theorem dX4_roundOf_78 : decode cX4_roundOf 78 = .ok (.invokestatic 83, 3) := by decide +kernel
theorem dX4_roundOf_81 : decode cX4_roundOf 81 = .ok (.istore_n 3, 1) := by decide +kernel
theorem dX4_roundOf_82 : decode cX4_roundOf 82 = .ok (.iinc 4 1, 3) := by decide +kernel
theorem dX4_roundOf_85 : decode cX4_roundOf 85 = .ok (.goto (-79), 3) := by decide +kernel
theorem dX4_roundOf_88 : decode cX4_roundOf 88 = .ok (.iload_n 3, 1) := by decide +kernel
theorem dX4_roundOf_89 : decode cX4_roundOf 89 = .ok (.ireturn, 1) := by decide +kernel
def L_Patrols_roundOf_6  (x1 : Int32) (x2 : Int32) : Nat → Int32 → Int32 → CS → Option (Int32 × CS)
  | 0, _, _, _ => none
  | n + 1, x3, x4, σ => bnd (f_Table_size 13 σ) (fun r12 σ12 => if r12 ≤ x4 then some (x3, σ12) else if ((x2 >>> (x4 &&& 31)) &&& 1) = 1 then if 2048 ≤ ((x2 * 8) + x4) then (L_Patrols_roundOf_6 x1 x2 n) x3 (x4 + 1) σ12 else bnd (f_Patrols_pathTo x1 x2 x4 σ12) (fun r58 σ58 => gix ((x2 * 8) + x4) 2048 (gix ((x2 * 8) + x4) 2048 (bnd (f_Patrols_wayFromLodge x1 x4 (wr σ58 27 ((x2 * 8) + x4) r58)) (fun r74 σ74 => (L_Patrols_roundOf_6 x1 x2 n) (if ((rd (wr σ58 27 ((x2 * 8) + x4) r58) 27 ((x2 * 8) + x4)) + r74) < x3 then ((rd (wr σ58 27 ((x2 * 8) + x4) r58) 27 ((x2 * 8) + x4)) + r74) else x3) (x4 + 1) σ74)))) else (L_Patrols_roundOf_6 x1 x2 n) x3 (x4 + 1) σ12)
set_option maxHeartbeats 4000000 in
set_option maxRecDepth 100000 in
theorem w_Patrols_roundOf_6 (C : Cx g p s m args meth c A 6 cX4_roundOf yX4_roundOf.cls) (hr : meth.sig.returnType = (some .int))  {res : Int32 × CS}  (x1 : Int32) (x2 : Int32)  : ∀ (n : Nat) (x3 : Int32) (x4 : Int32) (σ : CS) (ta : Nat → Nat), φ0 ≤ ph σ.2.2 → ph σ.2.2 ≤ BB → L_Patrols_roundOf_6 x1 x2 n x3 x4 σ = some res → NI g p l e s m args below meth c A 4 113 6 ad Rr φ0 res ta σ [(0, .ref (ad 9)), (1, .int x1), (2, .int x2), (3, .int x3), (4, .int x4)] 6 [] := by
  intro n
  induction n with
  | zero =>
    intro x3 x4 σ ta hφ hφ2 h
    exact absurd (show (none : Option (Int32 × CS)) = some res from h) (by intro h9; cases h9)
  | succ n ih =>
    intro x3 x4 σ ta hφ hφ2 h
    rw [L_Patrols_roundOf_6] at h
    refine nw_iload C dX4_roundOf_6 4 rfl ?_
    refine nw_aload_n C dX4_roundOf_8 rfl 0 rfl ?_
    refine nw_get (v := .ref (ad 24)) C in_X4 9 cl_Patrols rfl 1 (by decide) tw_463 rfl rfl dX4_roundOf_9 ?_
    refine nc_callVI (q0 := 24) (As := []) (rest := [.int x4]) C h (fun _ _ e => c_Table_size 13 (by decide) e hφ2) tw_628 kv_X9_size (cl_T 13 (by decide)) rfl ⟨Nat.le_of_ble_eq_true rfl, Nat.le_of_ble_eq_true rfl⟩ rfl dX4_roundOf_12 rfl (Nat.le_of_ble_eq_true rfl) hφ hφ2 (fun r12 σ12 ta h hφ hφ2 => ?_)
    refine nw_icmp_ge (tgt := 88) C dX4_roundOf_15 (by decide) h (fun _ h => ?_) (fun _ h => ?_)
    · refine nw_iload_n C dX4_roundOf_88 rfl 3 rfl ?_
      exact nc_iret C hr dX4_roundOf_89 hφ hφ2 h
    · refine nw_iload_n C dX4_roundOf_18 rfl 2 rfl ?_
      refine nw_bipush (v := 8) C dX4_roundOf_19 (by decide) ?_
      refine nw_imul C dX4_roundOf_21 ?_
      refine nw_iload C dX4_roundOf_22 4 rfl ?_
      refine nw_iadd C dX4_roundOf_24 ?_
      refine nw_istore (lv' := [(5, .int ((x2 * 8) + x4)), (0, .ref (ad 9)), (1, .int x1), (2, .int x2), (3, .int x3), (4, .int x4)]) C dX4_roundOf_25 (by decide) rfl ?_
      refine nw_iload_n C dX4_roundOf_27 rfl 3 rfl ?_
      refine nw_iload C dX4_roundOf_28 5 rfl ?_
      refine nw_ishr C dX4_roundOf_30 ?_
      refine nw_iconst (v := 1) C dX4_roundOf_31 (by decide) ?_
      refine nw_iand C dX4_roundOf_32 ?_
      refine nw_iconst (v := 1) C dX4_roundOf_33 (by decide) ?_
      refine nw_icmp_ne (tgt := 82) C dX4_roundOf_34 (by decide) h (fun _ h => ?_) (fun _ h => ?_)
      · refine nw_iload C dX4_roundOf_37 0 rfl ?_
        refine nw_aload_n C dX4_roundOf_39 rfl 1 rfl ?_
        refine nw_get (v := .ref (ad 54)) C in_X4 9 cl_Patrols rfl 2 (by decide) tw_465 rfl rfl dX4_roundOf_40 ?_
        refine nw_alenI C 54 (cl_I 27 rfl) dX4_roundOf_43 ?_
        refine nw_st (st' := [.int 2048, .int ((x2 * 8) + x4)]) rfl ?_
        refine nw_icmp_ge (tgt := 82) C dX4_roundOf_44 (by decide) h (fun _ h => ?_) (fun _ h => ?_)
        · refine nw_iinc (lv' := [(4, .int (x4 + 1)), (5, .int ((x2 * 8) + x4)), (0, .ref (ad 9)), (1, .int x1), (2, .int x2), (3, .int x3)]) C (x4 + 1) dX4_roundOf_82 5 rfl rfl (by decide) rfl ?_
          refine nw_goto (tgt := 6) C dX4_roundOf_85 (by decide) ?_
          exact nw_lv (lv' := [(0, .ref (ad 9)), (1, .int x1), (2, .int x2), (3, .int x3), (4, .int (x4 + 1))]) [2, 3, 4, 5, 0] rfl (ih x3 (x4 + 1) _ _ hφ hφ2 h)
        · refine nw_aload_n C dX4_roundOf_47 rfl 1 rfl ?_
          refine nw_get (v := .ref (ad 54)) C in_X4 9 cl_Patrols rfl 2 (by decide) tw_465 rfl rfl dX4_roundOf_48 ?_
          refine nw_iload C dX4_roundOf_51 0 rfl ?_
          refine nw_aload_n C dX4_roundOf_53 rfl 1 rfl ?_
          refine nw_iload_n C dX4_roundOf_54 rfl 2 rfl ?_
          refine nw_iload_n C dX4_roundOf_55 rfl 3 rfl ?_
          refine nw_iload C dX4_roundOf_56 5 rfl ?_
          refine nc_callVI (q0 := 9) (As := [.int x1, .int x2, .int x4]) (rest := [.int ((x2 * 8) + x4), .ref (ad 54)]) C h (fun _ _ e => c_Patrols_pathTo e hφ2) tw_639 kv_X4_pathTo cl_Patrols rfl ⟨Nat.le_of_ble_eq_true rfl, Nat.le_of_ble_eq_true rfl⟩ rfl dX4_roundOf_58 rfl (Nat.le_of_ble_eq_true rfl) hφ hφ2 (fun r58 σ58 ta h hφ hφ2 => ?_)
          refine nw_iast C 54 (cl_I 27 rfl) dX4_roundOf_61 h (cs_I 27 rfl) (fun h => ?_)
          refine nw_iload_n C dX4_roundOf_62 rfl 4 rfl ?_
          refine nw_aload_n C dX4_roundOf_63 rfl 1 rfl ?_
          refine nw_get (v := .ref (ad 54)) C in_X4 9 cl_Patrols rfl 2 (by decide) tw_465 rfl rfl dX4_roundOf_64 ?_
          refine nw_iload C dX4_roundOf_67 0 rfl ?_
          refine nw_iald C 54 (cl_I 27 rfl) dX4_roundOf_69 h (fun h => ?_)
          refine nw_st (st' := [.int (rd (wr σ58 27 ((x2 * 8) + x4) r58) 27 ((x2 * 8) + x4)), .int x3]) rfl ?_
          refine nw_aload_n C dX4_roundOf_70 rfl 1 rfl ?_
          refine nw_iload_n C dX4_roundOf_71 rfl 2 rfl ?_
          refine nw_iload C dX4_roundOf_72 5 rfl ?_
          refine nc_callVI (q0 := 9) (As := [.int x1, .int x4]) (rest := [.int (rd (wr σ58 27 ((x2 * 8) + x4) r58) 27 ((x2 * 8) + x4)), .int x3]) C h (fun _ _ e => c_Patrols_wayFromLodge e hφ2) tw_643 kv_X4_wayFromLodge cl_Patrols rfl ⟨Nat.le_of_ble_eq_true rfl, Nat.le_of_ble_eq_true rfl⟩ rfl dX4_roundOf_74 rfl (Nat.le_of_ble_eq_true rfl) hφ hφ2 (fun r74 σ74 ta h hφ hφ2 => ?_)
          refine nw_iadd C dX4_roundOf_77 ?_
          refine nw_mmin C tw_653 tw_367 tw_125 tm_min (Nat.le_of_ble_eq_true rfl) (Nat.le_of_ble_eq_true rfl) (Nat.sub_le_sub_right hφ2 _) (Nat.mul_le_mul_left 2 (Nat.sub_le_sub_right hφ2 _)) dX4_roundOf_78 ?_
          refine nw_istore_n (lv' := [(3, .int (if ((rd (wr σ58 27 ((x2 * 8) + x4) r58) 27 ((x2 * 8) + x4)) + r74) < x3 then ((rd (wr σ58 27 ((x2 * 8) + x4) r58) 27 ((x2 * 8) + x4)) + r74) else x3)), (5, .int ((x2 * 8) + x4)), (0, .ref (ad 9)), (1, .int x1), (2, .int x2), (4, .int x4)]) C dX4_roundOf_81 rfl (by decide) rfl ?_
          refine nw_iinc (lv' := [(4, .int (x4 + 1)), (3, .int (if ((rd (wr σ58 27 ((x2 * 8) + x4) r58) 27 ((x2 * 8) + x4)) + r74) < x3 then ((rd (wr σ58 27 ((x2 * 8) + x4) r58) 27 ((x2 * 8) + x4)) + r74) else x3)), (5, .int ((x2 * 8) + x4)), (0, .ref (ad 9)), (1, .int x1), (2, .int x2)]) C (x4 + 1) dX4_roundOf_82 5 rfl rfl (by decide) rfl ?_
          refine nw_goto (tgt := 6) C dX4_roundOf_85 (by decide) ?_
          exact nw_lv (lv' := [(0, .ref (ad 9)), (1, .int x1), (2, .int x2), (3, .int (if ((rd (wr σ58 27 ((x2 * 8) + x4) r58) 27 ((x2 * 8) + x4)) + r74) < x3 then ((rd (wr σ58 27 ((x2 * 8) + x4) r58) 27 ((x2 * 8) + x4)) + r74) else x3)), (4, .int (x4 + 1))]) [3, 4, 5, 1, 0] rfl (ih (if ((rd (wr σ58 27 ((x2 * 8) + x4) r58) 27 ((x2 * 8) + x4)) + r74) < x3 then ((rd (wr σ58 27 ((x2 * 8) + x4) r58) 27 ((x2 * 8) + x4)) + r74) else x3) (x4 + 1) _ _ hφ hφ2 h)
      · refine nw_iinc (lv' := [(4, .int (x4 + 1)), (5, .int ((x2 * 8) + x4)), (0, .ref (ad 9)), (1, .int x1), (2, .int x2), (3, .int x3)]) C (x4 + 1) dX4_roundOf_82 5 rfl rfl (by decide) rfl ?_
        refine nw_goto (tgt := 6) C dX4_roundOf_85 (by decide) ?_
        exact nw_lv (lv' := [(0, .ref (ad 9)), (1, .int x1), (2, .int x2), (3, .int x3), (4, .int (x4 + 1))]) [2, 3, 4, 5, 0] rfl (ih x3 (x4 + 1) _ _ hφ hφ2 h)
def f_Patrols_roundOf (p0 : Int32) (p1 : Int32) (σ : CS) : Option (Int32 × CS) := L_Patrols_roundOf_6 p0 p1 FU 1000000 0 σ
set_option maxHeartbeats 4000000 in
set_option maxRecDepth 100000 in
theorem c_Patrols_roundOf {l : Launch} {g : EG} {ad ta : Nat → Nat} {Rr : va_W} {σ σ' : CS} {r : Int32} {p0 : Int32} {p1 : Int32}  (h : f_Patrols_roundOf p0 p1 σ = some (r, σ')) (hφ2 : ph σ.2.2 ≤ BB) : CtI l g yX4_roundOf (.code yX4_roundOf cX4_roundOf 6 (some .int)) 4 113 ad ta Rr σ [.ref (ad 9), .int p0, .int p1] r σ' := by
  refine Ct.of rfl (by decide) (Nat.le_of_ble_eq_true rfl) ?_
  intro p e s m args below meth c A C hr
  have hφ : ph σ.2.2 ≤ ph σ.2.2 := Nat.le_refl _
  refine nw_zero (ph σ.2.2) ?_
  show NI g p l e s m args below meth c A 4 113 6 ad Rr (ph σ.2.2) (r, σ') ta σ [(0, .ref (ad 9)), (1, .int p0), (2, .int p1)] 0 []
  unfold f_Patrols_roundOf at h
  refine nw_ldc (v := 1000000) C tw_638 dX4_roundOf_0 ?_
  refine nw_istore_n (lv' := [(3, .int 1000000), (0, .ref (ad 9)), (1, .int p0), (2, .int p1)]) C dX4_roundOf_2 rfl (by decide) rfl ?_
  refine nw_iconst (v := 0) C dX4_roundOf_3 (by decide) ?_
  refine nw_istore (lv' := [(4, .int 0), (3, .int 1000000), (0, .ref (ad 9)), (1, .int p0), (2, .int p1)]) C dX4_roundOf_4 (by decide) rfl ?_
  exact nw_lv (lv' := [(0, .ref (ad 9)), (1, .int p0), (2, .int p1), (3, .int 1000000), (4, .int 0)]) [2, 3, 4, 1, 0] rfl (w_Patrols_roundOf_6 C hr p0 p1 FU 1000000 0 _ _ hφ hφ2 h)
theorem dX4_measure_0 : decode cX4_measure 0 = .ok (.iconst 1, 1) := by decide +kernel
theorem dX4_measure_1 : decode cX4_measure 1 = .ok (.aload_n 0, 1) := by decide +kernel
theorem dX4_measure_2 : decode cX4_measure 2 = .ok (.getfield 20, 3) := by decide +kernel
theorem dX4_measure_5 : decode cX4_measure 5 = .ok (.invokevirtual 65, 3) := by decide +kernel
theorem dX4_measure_8 : decode cX4_measure 8 = .ok (.ishl, 1) := by decide +kernel
theorem dX4_measure_9 : decode cX4_measure 9 = .ok (.istore_n 3, 1) := by decide +kernel
theorem dX4_measure_10 : decode cX4_measure 10 = .ok (.iconst 0, 1) := by decide +kernel
theorem dX4_measure_11 : decode cX4_measure 11 = .ok (.istore 4, 2) := by decide +kernel
theorem dX4_measure_13 : decode cX4_measure 13 = .ok (.iload 4, 2) := by decide +kernel
theorem dX4_measure_15 : decode cX4_measure 15 = .ok (.iload_n 3, 1) := by decide +kernel
theorem dX4_measure_16 : decode cX4_measure 16 = .ok (.if_icmp .ge 54, 3) := by decide +kernel
theorem dX4_measure_19 : decode cX4_measure 19 = .ok (.iload 4, 2) := by decide +kernel
theorem dX4_measure_21 : decode cX4_measure 21 = .ok (.aload_n 2, 1) := by decide +kernel
theorem dX4_measure_22 : decode cX4_measure 22 = .ok (.arraylength, 1) := by decide +kernel
theorem dX4_measure_23 : decode cX4_measure 23 = .ok (.if_icmp .ge 47, 3) := by decide +kernel
theorem dX4_measure_26 : decode cX4_measure 26 = .ok (.aload_n 2, 1) := by decide +kernel
theorem dX4_measure_27 : decode cX4_measure 27 = .ok (.iload 4, 2) := by decide +kernel
theorem dX4_measure_29 : decode cX4_measure 29 = .ok (.iload 4, 2) := by decide +kernel
theorem dX4_measure_31 : decode cX4_measure 31 = .ok (.ifCond .eq 27, 3) := by decide +kernel
theorem dX4_measure_34 : decode cX4_measure 34 = .ok (.iload_n 1, 1) := by decide +kernel
theorem dX4_measure_35 : decode cX4_measure 35 = .ok (.iconst (-1), 1) := by decide +kernel
theorem dX4_measure_36 : decode cX4_measure 36 = .ok (.if_icmp .eq 26, 3) := by decide +kernel
theorem dX4_measure_39 : decode cX4_measure 39 = .ok (.aload_n 0, 1) := by decide +kernel
theorem dX4_measure_40 : decode cX4_measure 40 = .ok (.iload_n 1, 1) := by decide +kernel
theorem dX4_measure_41 : decode cX4_measure 41 = .ok (.iload 4, 2) := by decide +kernel
theorem dX4_measure_43 : decode cX4_measure 43 = .ok (.invokevirtual 72, 3) := by decide +kernel
theorem dX4_measure_46 : decode cX4_measure 46 = .ok (.aload_n 0, 1) := by decide +kernel
theorem dX4_measure_47 : decode cX4_measure 47 = .ok (.getfield 11, 3) := by decide +kernel
theorem dX4_measure_50 : decode cX4_measure 50 = .ok (.iload_n 1, 1) := by decide +kernel
theorem dX4_measure_51 : decode cX4_measure 51 = .ok (.iconst 5, 1) := by decide +kernel
theorem dX4_measure_52 : decode cX4_measure 52 = .ok (.invokevirtual 68, 3) := by decide +kernel
theorem dX4_measure_55 : decode cX4_measure 55 = .ok (.if_icmp .gt 7, 3) := by decide +kernel
theorem dX4_measure_58 : decode cX4_measure 58 = .ok (.iconst 1, 1) := by decide +kernel
theorem dX4_measure_59 : decode cX4_measure 59 = .ok (.goto 4, 3) := by decide +kernel
theorem dX4_measure_62 : decode cX4_measure 62 = .ok (.iconst 0, 1) := by decide +kernel
theorem dX4_measure_63 : decode cX4_measure 63 = .ok (.bastore, 1) := by decide +kernel
theorem dX4_measure_64 : decode cX4_measure 64 = .ok (.iinc 4 1, 3) := by decide +kernel
theorem dX4_measure_67 : decode cX4_measure 67 = .ok (.goto (-54), 3) := by decide +kernel
theorem dX4_measure_70 : decode cX4_measure 70 = .ok (.return_, 1) := by decide +kernel
def B_Patrols_measure_63 (a1 : Nat) (k13 : Int32 → CS → Option (Int32 × CS)) (x1 : Int32) (x3 : Int32) (x4 : Int32) (z1 : Int32) (z2 : Int32) (σ : CS) : Option (Int32 × CS) := gix z1 (lenA a1) (k13 (x4 + 1) (wr σ a1 z1 (vp_nar .boolean z2)))
set_option maxHeartbeats 4000000 in
set_option maxRecDepth 100000 in
theorem w_Patrols_measure_63 (C : Cx g p s m args meth c A 5 cX4_measure yX4_measure.cls) (hr : meth.sig.returnType = none) {a1 : Nat} (ha1 : okZ a1 = true) {res : Int32 × CS}  (x1 : Int32) (x3 : Int32) (x4 : Int32) (z1 : Int32) (z2 : Int32) {k13 : Int32 → CS → Option (Int32 × CS)} (hk13 : ∀ (x4 : Int32) (σ : CS) (ta : Nat → Nat), φ0 ≤ ph σ.2.2 → ph σ.2.2 ≤ BB → k13 x4 σ = some res → NV g p l e s m args below meth c A 5 138 5 ad Rr φ0 res ta σ [(0, .ref (ad 9)), (1, .int x1), (2, .ref (ad (27 + a1))), (3, .int x3), (4, .int x4)] 13 []) (σ : CS) (ta : Nat → Nat) (hφ : φ0 ≤ ph σ.2.2) (hφ2 : ph σ.2.2 ≤ BB) (h : B_Patrols_measure_63 a1 k13 x1 x3 x4 z1 z2 σ = some res) : NV g p l e s m args below meth c A 5 138 5 ad Rr φ0 res ta σ [(0, .ref (ad 9)), (1, .int x1), (2, .ref (ad (27 + a1))), (3, .int x3), (4, .int x4)] 63 [.int z2, .int z1, .ref (ad (27 + a1))] := by
  unfold B_Patrols_measure_63 at h
  refine nw_zast C (27 + a1) (cl_Z a1 ha1) dX4_measure_63 h (cs_Z a1 ha1) (fun h => ?_)
  refine nw_iinc (lv' := [(4, .int (x4 + 1)), (0, .ref (ad 9)), (1, .int x1), (2, .ref (ad (27 + a1))), (3, .int x3)]) C (x4 + 1) dX4_measure_64 4 rfl rfl (by decide) rfl ?_
  refine nw_goto (tgt := 13) C dX4_measure_67 (by decide) ?_
  exact nw_lv (lv' := [(0, .ref (ad 9)), (1, .int x1), (2, .ref (ad (27 + a1))), (3, .int x3), (4, .int (x4 + 1))]) [1, 2, 3, 4, 0] rfl (hk13 (x4 + 1) _ _ hφ hφ2 h)
def B_Patrols_measure_62 (a1 : Nat) (k13 : Int32 → CS → Option (Int32 × CS)) (x1 : Int32) (x3 : Int32) (x4 : Int32) (z1 : Int32) (σ : CS) : Option (Int32 × CS) := B_Patrols_measure_63 a1 k13 x1 x3 x4 z1 0 σ
set_option maxHeartbeats 4000000 in
set_option maxRecDepth 100000 in
theorem w_Patrols_measure_62 (C : Cx g p s m args meth c A 5 cX4_measure yX4_measure.cls) (hr : meth.sig.returnType = none) {a1 : Nat} (ha1 : okZ a1 = true) {res : Int32 × CS}  (x1 : Int32) (x3 : Int32) (x4 : Int32) (z1 : Int32) {k13 : Int32 → CS → Option (Int32 × CS)} (hk13 : ∀ (x4 : Int32) (σ : CS) (ta : Nat → Nat), φ0 ≤ ph σ.2.2 → ph σ.2.2 ≤ BB → k13 x4 σ = some res → NV g p l e s m args below meth c A 5 138 5 ad Rr φ0 res ta σ [(0, .ref (ad 9)), (1, .int x1), (2, .ref (ad (27 + a1))), (3, .int x3), (4, .int x4)] 13 []) (σ : CS) (ta : Nat → Nat) (hφ : φ0 ≤ ph σ.2.2) (hφ2 : ph σ.2.2 ≤ BB) (h : B_Patrols_measure_62 a1 k13 x1 x3 x4 z1 σ = some res) : NV g p l e s m args below meth c A 5 138 5 ad Rr φ0 res ta σ [(0, .ref (ad 9)), (1, .int x1), (2, .ref (ad (27 + a1))), (3, .int x3), (4, .int x4)] 62 [.int z1, .ref (ad (27 + a1))] := by
  unfold B_Patrols_measure_62 at h
  refine nw_iconst (v := 0) C dX4_measure_62 (by decide) ?_
  exact nw_lv (lv' := [(0, .ref (ad 9)), (1, .int x1), (2, .ref (ad (27 + a1))), (3, .int x3), (4, .int x4)]) [0, 1, 2, 3, 4] rfl (w_Patrols_measure_63 C hr ha1 x1 x3 x4 z1 0 hk13 _ _ hφ hφ2 h)
def L_Patrols_measure_13 (a1 : Nat)  (x1 : Int32) (x3 : Int32) : Nat → Int32 → CS → Option (Int32 × CS)
  | 0, _, _ => none
  | n + 1, x4, σ => if x3 ≤ x4 then some (0, σ) else if (nI (lenA a1)) ≤ x4 then some (0, σ) else if x4 = 0 then B_Patrols_measure_63 a1 (L_Patrols_measure_13 a1 x1 x3 n) x1 x3 x4 x4 1 σ else if x1 = (-1) then B_Patrols_measure_62 a1 (L_Patrols_measure_13 a1 x1 x3 n) x1 x3 x4 x4 σ else bnd (f_Patrols_roundOf x1 x4 σ) (fun r43 σ43 => bnd (f_Table_get 9 x1 5 σ43) (fun r52 σ52 => if r52 < r43 then B_Patrols_measure_62 a1 (L_Patrols_measure_13 a1 x1 x3 n) x1 x3 x4 x4 σ52 else B_Patrols_measure_63 a1 (L_Patrols_measure_13 a1 x1 x3 n) x1 x3 x4 x4 1 σ52))
set_option maxHeartbeats 4000000 in
set_option maxRecDepth 100000 in
theorem w_Patrols_measure_13 (C : Cx g p s m args meth c A 5 cX4_measure yX4_measure.cls) (hr : meth.sig.returnType = none) {a1 : Nat} (ha1 : okZ a1 = true) {res : Int32 × CS}  (x1 : Int32) (x3 : Int32)  : ∀ (n : Nat) (x4 : Int32) (σ : CS) (ta : Nat → Nat), φ0 ≤ ph σ.2.2 → ph σ.2.2 ≤ BB → L_Patrols_measure_13 a1 x1 x3 n x4 σ = some res → NV g p l e s m args below meth c A 5 138 5 ad Rr φ0 res ta σ [(0, .ref (ad 9)), (1, .int x1), (2, .ref (ad (27 + a1))), (3, .int x3), (4, .int x4)] 13 [] := by
  intro n
  induction n with
  | zero =>
    intro x4 σ ta hφ hφ2 h
    exact absurd (show (none : Option (Int32 × CS)) = some res from h) (by intro h9; cases h9)
  | succ n ih =>
    intro x4 σ ta hφ hφ2 h
    rw [L_Patrols_measure_13] at h
    refine nw_iload C dX4_measure_13 4 rfl ?_
    refine nw_iload_n C dX4_measure_15 rfl 3 rfl ?_
    refine nw_icmp_ge (tgt := 70) C dX4_measure_16 (by decide) h (fun _ h => ?_) (fun _ h => ?_)
    · exact nc_vret C hr dX4_measure_70 hφ hφ2 h
    · refine nw_iload C dX4_measure_19 4 rfl ?_
      refine nw_aload_n C dX4_measure_21 rfl 2 rfl ?_
      refine nw_alenZ C (27 + a1) (cl_Z a1 ha1) dX4_measure_22 ?_
      refine nw_icmp_ge (tgt := 70) C dX4_measure_23 (by decide) h (fun _ h => ?_) (fun _ h => ?_)
      · exact nc_vret C hr dX4_measure_70 hφ hφ2 h
      · refine nw_aload_n C dX4_measure_26 rfl 2 rfl ?_
        refine nw_iload C dX4_measure_27 4 rfl ?_
        refine nw_iload C dX4_measure_29 4 rfl ?_
        refine nw_if_eq (tgt := 58) C dX4_measure_31 (by decide) h (fun _ h => ?_) (fun _ h => ?_)
        · refine nw_iconst (v := 1) C dX4_measure_58 (by decide) ?_
          refine nw_goto (tgt := 63) C dX4_measure_59 (by decide) ?_
          exact nw_lv (lv' := [(0, .ref (ad 9)), (1, .int x1), (2, .ref (ad (27 + a1))), (3, .int x3), (4, .int x4)]) [0, 1, 2, 3, 4] rfl (w_Patrols_measure_63 C hr ha1 x1 x3 x4 x4 1 ih _ _ hφ hφ2 h)
        · refine nw_iload_n C dX4_measure_34 rfl 1 rfl ?_
          refine nw_iconst (v := (-1)) C dX4_measure_35 (by decide) ?_
          refine nw_icmp_eq (tgt := 62) C dX4_measure_36 (by decide) h (fun _ h => ?_) (fun _ h => ?_)
          · exact nw_lv (lv' := [(0, .ref (ad 9)), (1, .int x1), (2, .ref (ad (27 + a1))), (3, .int x3), (4, .int x4)]) [0, 1, 2, 3, 4] rfl (w_Patrols_measure_62 C hr ha1 x1 x3 x4 x4 ih _ _ hφ hφ2 h)
          · refine nw_aload_n C dX4_measure_39 rfl 0 rfl ?_
            refine nw_iload_n C dX4_measure_40 rfl 1 rfl ?_
            refine nw_iload C dX4_measure_41 4 rfl ?_
            refine nc_callVI (q0 := 9) (As := [.int x1, .int x4]) (rest := [.int x4, .ref (ad (27 + a1))]) C h (fun _ _ e => c_Patrols_roundOf e hφ2) tw_634 kv_X4_roundOf cl_Patrols rfl ⟨Nat.le_of_ble_eq_true rfl, Nat.le_of_ble_eq_true rfl⟩ rfl dX4_measure_43 rfl (Nat.le_of_ble_eq_true rfl) hφ hφ2 (fun r43 σ43 ta h hφ hφ2 => ?_)
            refine nw_aload_n C dX4_measure_46 rfl 0 rfl ?_
            refine nw_get (v := .ref (ad 20)) C in_X4 9 cl_Patrols rfl 0 (by decide) tw_462 rfl rfl dX4_measure_47 ?_
            refine nw_iload_n C dX4_measure_50 rfl 1 rfl ?_
            refine nw_iconst (v := 5) C dX4_measure_51 (by decide) ?_
            refine nc_callVI (q0 := 20) (As := [.int x1, .int 5]) (rest := [.int r43, .int x4, .ref (ad (27 + a1))]) C h (fun _ _ e => c_Table_get 9 (by decide) e hφ2) tw_629 kv_X9_get (cl_T 9 (by decide)) rfl ⟨Nat.le_of_ble_eq_true rfl, Nat.le_of_ble_eq_true rfl⟩ rfl dX4_measure_52 rfl (Nat.le_of_ble_eq_true rfl) hφ hφ2 (fun r52 σ52 ta h hφ hφ2 => ?_)
            refine nw_icmp_gt (tgt := 62) C dX4_measure_55 (by decide) h (fun _ h => ?_) (fun _ h => ?_)
            · exact nw_lv (lv' := [(0, .ref (ad 9)), (1, .int x1), (2, .ref (ad (27 + a1))), (3, .int x3), (4, .int x4)]) [0, 1, 2, 3, 4] rfl (w_Patrols_measure_62 C hr ha1 x1 x3 x4 x4 ih _ _ hφ hφ2 h)
            · refine nw_iconst (v := 1) C dX4_measure_58 (by decide) ?_
              refine nw_goto (tgt := 63) C dX4_measure_59 (by decide) ?_
              exact nw_lv (lv' := [(0, .ref (ad 9)), (1, .int x1), (2, .ref (ad (27 + a1))), (3, .int x3), (4, .int x4)]) [0, 1, 2, 3, 4] rfl (w_Patrols_measure_63 C hr ha1 x1 x3 x4 x4 1 ih _ _ hφ hφ2 h)
def f_Patrols_measure (a1 : Nat) (p0 : Int32) (σ : CS) : Option (Int32 × CS) := bnd (f_Table_size 13 σ) (fun r5 σ5 => L_Patrols_measure_13 a1 p0 ((1 : Int32) <<< (r5 &&& 31)) FU 0 σ5)
set_option maxHeartbeats 4000000 in
set_option maxRecDepth 100000 in
theorem c_Patrols_measure {l : Launch} {g : EG} {ad ta : Nat → Nat} {Rr : va_W} {σ σ' : CS} {r : Int32} {p0 : Int32} (a1 : Nat) (ha1 : okZ a1 = true) (h : f_Patrols_measure a1 p0 σ = some (r, σ')) (hφ2 : ph σ.2.2 ≤ BB) : CtV l g yX4_measure (.code yX4_measure cX4_measure 5 none) 5 138 ad ta Rr σ [.ref (ad 9), .int p0, .ref (ad (27 + a1))] r σ' := by
  refine Ct.of rfl (by decide) (Nat.le_of_ble_eq_true rfl) ?_
  intro p e s m args below meth c A C hr
  have hφ : ph σ.2.2 ≤ ph σ.2.2 := Nat.le_refl _
  refine nw_zero (ph σ.2.2) ?_
  show NV g p l e s m args below meth c A 5 138 5 ad Rr (ph σ.2.2) (r, σ') ta σ [(0, .ref (ad 9)), (1, .int p0), (2, .ref (ad (27 + a1)))] 0 []
  unfold f_Patrols_measure at h
  refine nw_iconst (v := 1) C dX4_measure_0 (by decide) ?_
  refine nw_aload_n C dX4_measure_1 rfl 0 rfl ?_
  refine nw_get (v := .ref (ad 24)) C in_X4 9 cl_Patrols rfl 1 (by decide) tw_463 rfl rfl dX4_measure_2 ?_
  refine nc_callVI (q0 := 24) (As := []) (rest := [.int 1]) C h (fun _ _ e => c_Table_size 13 (by decide) e hφ2) tw_628 kv_X9_size (cl_T 13 (by decide)) rfl ⟨Nat.le_of_ble_eq_true rfl, Nat.le_of_ble_eq_true rfl⟩ rfl dX4_measure_5 rfl (Nat.le_of_ble_eq_true rfl) hφ hφ2 (fun r5 σ5 ta h hφ hφ2 => ?_)
  refine nw_ishl C dX4_measure_8 ?_
  refine nw_istore_n (lv' := [(3, .int ((1 : Int32) <<< (r5 &&& 31))), (0, .ref (ad 9)), (1, .int p0), (2, .ref (ad (27 + a1)))]) C dX4_measure_9 rfl (by decide) rfl ?_
  refine nw_iconst (v := 0) C dX4_measure_10 (by decide) ?_
  refine nw_istore (lv' := [(4, .int 0), (3, .int ((1 : Int32) <<< (r5 &&& 31))), (0, .ref (ad 9)), (1, .int p0), (2, .ref (ad (27 + a1)))]) C dX4_measure_11 (by decide) rfl ?_
  exact nw_lv (lv' := [(0, .ref (ad 9)), (1, .int p0), (2, .ref (ad (27 + a1))), (3, .int ((1 : Int32) <<< (r5 &&& 31))), (4, .int 0)]) [2, 3, 4, 1, 0] rfl (w_Patrols_measure_13 C hr ha1 p0 ((1 : Int32) <<< (r5 &&& 31)) FU 0 _ _ hφ hφ2 h)
theorem dX4_tryWay_0 : decode cX4_tryWay 0 = .ok (.iload_n 1, 1) := by decide +kernel
theorem dX4_tryWay_1 : decode cX4_tryWay 1 = .ok (.istore_n 2, 1) := by decide +kernel
theorem dX4_tryWay_2 : decode cX4_tryWay 2 = .ok (.iconst 0, 1) := by decide +kernel
theorem dX4_tryWay_3 : decode cX4_tryWay 3 = .ok (.istore_n 3, 1) := by decide +kernel
theorem dX4_tryWay_4 : decode cX4_tryWay 4 = .ok (.iconst 0, 1) := by decide +kernel
theorem dX4_tryWay_5 : decode cX4_tryWay 5 = .ok (.istore 4, 2) := by decide +kernel
theorem dX4_tryWay_7 : decode cX4_tryWay 7 = .ok (.iconst 0, 1) := by decide +kernel
theorem dX4_tryWay_8 : decode cX4_tryWay 8 = .ok (.istore 5, 2) := by decide +kernel
theorem dX4_tryWay_10 : decode cX4_tryWay 10 = .ok (.aload_n 0, 1) := by decide +kernel
theorem dX4_tryWay_11 : decode cX4_tryWay 11 = .ok (.getfield 20, 3) := by decide +kernel
theorem dX4_tryWay_14 : decode cX4_tryWay 14 = .ok (.invokevirtual 65, 3) := by decide +kernel
theorem dX4_tryWay_17 : decode cX4_tryWay 17 = .ok (.aload_n 0, 1) := by decide +kernel
theorem dX4_tryWay_18 : decode cX4_tryWay 18 = .ok (.getfield 37, 3) := by decide +kernel
theorem dX4_tryWay_21 : decode cX4_tryWay 21 = .ok (.arraylength, 1) := by decide +kernel
theorem dX4_tryWay_22 : decode cX4_tryWay 22 = .ok (.invokestatic 83, 3) := by decide +kernel
theorem dX4_tryWay_25 : decode cX4_tryWay 25 = .ok (.iconst 1, 1) := by decide +kernel
theorem dX4_tryWay_26 : decode cX4_tryWay 26 = .ok (.isub, 1) := by decide +kernel
theorem dX4_tryWay_27 : decode cX4_tryWay 27 = .ok (.istore 6, 2) := by decide +kernel
theorem dX4_tryWay_29 : decode cX4_tryWay 29 = .ok (.iload 6, 2) := by decide +kernel
theorem dX4_tryWay_31 : decode cX4_tryWay 31 = .ok (.ifCond .lt 98, 3) := by decide +kernel
theorem dX4_tryWay_34 : decode cX4_tryWay 34 = .ok (.aload_n 0, 1) := by decide +kernel
theorem dX4_tryWay_35 : decode cX4_tryWay 35 = .ok (.getfield 37, 3) := by decide +kernel
theorem dX4_tryWay_38 : decode cX4_tryWay 38 = .ok (.iload 6, 2) := by decide +kernel
theorem dX4_tryWay_40 : decode cX4_tryWay 40 = .ok (.iload_n 2, 1) := by decide +kernel
theorem dX4_tryWay_41 : decode cX4_tryWay 41 = .ok (.iconst 3, 1) := by decide +kernel
theorem dX4_tryWay_42 : decode cX4_tryWay 42 = .ok (.irem, 1) := by decide +kernel
theorem dX4_tryWay_43 : decode cX4_tryWay 43 = .ok (.iastore, 1) := by decide +kernel
theorem dX4_tryWay_44 : decode cX4_tryWay 44 = .ok (.iload_n 2, 1) := by decide +kernel
theorem dX4_tryWay_45 : decode cX4_tryWay 45 = .ok (.iconst 3, 1) := by decide +kernel
theorem dX4_tryWay_46 : decode cX4_tryWay 46 = .ok (.idiv, 1) := by decide +kernel
theorem dX4_tryWay_47 : decode cX4_tryWay 47 = .ok (.istore_n 2, 1) := by decide +kernel
theorem dX4_tryWay_48 : decode cX4_tryWay 48 = .ok (.iload_n 3, 1) := by decide +kernel
theorem dX4_tryWay_49 : decode cX4_tryWay 49 = .ok (.aload_n 0, 1) := by decide +kernel
theorem dX4_tryWay_50 : decode cX4_tryWay 50 = .ok (.getfield 37, 3) := by decide +kernel
theorem dX4_tryWay_53 : decode cX4_tryWay 53 = .ok (.iload 6, 2) := by decide +kernel
theorem dX4_tryWay_55 : decode cX4_tryWay 55 = .ok (.iaload, 1) := by decide +kernel
theorem dX4_tryWay_56 : decode cX4_tryWay 56 = .ok (.ifCond .ne 10, 3) := by decide +kernel
theorem dX4_tryWay_59 : decode cX4_tryWay 59 = .ok (.iconst 1, 1) := by decide +kernel
theorem dX4_tryWay_60 : decode cX4_tryWay 60 = .ok (.iload 6, 2) := by decide +kernel
theorem dX4_tryWay_62 : decode cX4_tryWay 62 = .ok (.ishl, 1) := by decide +kernel
theorem dX4_tryWay_63 : decode cX4_tryWay 63 = .ok (.goto 4, 3) := by decide +kernel
theorem dX4_tryWay_66 : decode cX4_tryWay 66 = .ok (.iconst 0, 1) := by decide +kernel
theorem dX4_tryWay_67 : decode cX4_tryWay 67 = .ok (.ior, 1) := by decide +kernel
theorem dX4_tryWay_68 : decode cX4_tryWay 68 = .ok (.istore_n 3, 1) := by decide +kernel
theorem dX4_tryWay_69 : decode cX4_tryWay 69 = .ok (.iload 4, 2) := by decide +kernel
theorem dX4_tryWay_71 : decode cX4_tryWay 71 = .ok (.aload_n 0, 1) := by decide +kernel
theorem dX4_tryWay_72 : decode cX4_tryWay 72 = .ok (.getfield 37, 3) := by decide +kernel
theorem dX4_tryWay_75 : decode cX4_tryWay 75 = .ok (.iload 6, 2) := by decide +kernel
theorem dX4_tryWay_77 : decode cX4_tryWay 77 = .ok (.iaload, 1) := by decide +kernel
theorem dX4_tryWay_78 : decode cX4_tryWay 78 = .ok (.iconst 1, 1) := by decide +kernel
theorem dX4_tryWay_79 : decode cX4_tryWay 79 = .ok (.if_icmp .ne 10, 3) := by decide +kernel
theorem dX4_tryWay_82 : decode cX4_tryWay 82 = .ok (.iconst 1, 1) := by decide +kernel
theorem dX4_tryWay_83 : decode cX4_tryWay 83 = .ok (.iload 6, 2) := by decide +kernel
theorem dX4_tryWay_85 : decode cX4_tryWay 85 = .ok (.ishl, 1) := by decide +kernel
theorem dX4_tryWay_86 : decode cX4_tryWay 86 = .ok (.goto 4, 3) := by decide +kernel
theorem dX4_tryWay_89 : decode cX4_tryWay 89 = .ok (.iconst 0, 1) := by decide +kernel
theorem dX4_tryWay_90 : decode cX4_tryWay 90 = .ok (.ior, 1) := by decide +kernel
theorem dX4_tryWay_91 : decode cX4_tryWay 91 = .ok (.istore 4, 2) := by decide +kernel
theorem dX4_tryWay_93 : decode cX4_tryWay 93 = .ok (.iload 5, 2) := by decide +kernel
theorem dX4_tryWay_95 : decode cX4_tryWay 95 = .ok (.aload_n 0, 1) := by decide +kernel
theorem dX4_tryWay_96 : decode cX4_tryWay 96 = .ok (.getfield 37, 3) := by decide +kernel
theorem dX4_tryWay_99 : decode cX4_tryWay 99 = .ok (.iload 6, 2) := by decide +kernel
theorem dX4_tryWay_101 : decode cX4_tryWay 101 = .ok (.iaload, 1) := by decide +kernel
theorem dX4_tryWay_102 : decode cX4_tryWay 102 = .ok (.iconst 2, 1) := by decide +kernel
theorem dX4_tryWay_103 : decode cX4_tryWay 103 = .ok (.if_icmp .ne 7, 3) := by decide +kernel
theorem dX4_tryWay_106 : decode cX4_tryWay 106 = .ok (.iconst 0, 1) := by decide +kernel
theorem dX4_tryWay_107 : decode cX4_tryWay 107 = .ok (.goto 13, 3) := by decide +kernel
theorem dX4_tryWay_110 : decode cX4_tryWay 110 = .ok (.aload_n 0, 1) := by decide +kernel
theorem dX4_tryWay_111 : decode cX4_tryWay 111 = .ok (.getfield 20, 3) := by decide +kernel
theorem dX4_tryWay_114 : decode cX4_tryWay 114 = .ok (.iload 6, 2) := by decide +kernel
theorem dX4_tryWay_116 : decode cX4_tryWay 116 = .ok (.iconst 2, 1) := by decide +kernel
theorem dX4_tryWay_117 : decode cX4_tryWay 117 = .ok (.invokevirtual 68, 3) := by decide +kernel
theorem dX4_tryWay_120 : decode cX4_tryWay 120 = .ok (.iadd, 1) := by decide +kernel
theorem dX4_tryWay_121 : decode cX4_tryWay 121 = .ok (.istore 5, 2) := by decide +kernel
theorem dX4_tryWay_123 : decode cX4_tryWay 123 = .ok (.iinc 6 (-1), 3) := by decide +kernel
theorem dX4_tryWay_126 : decode cX4_tryWay 126 = .ok (.goto (-97), 3) := by decide +kernel
theorem dX4_tryWay_129 : decode cX4_tryWay 129 = .ok (.iload_n 3, 1) := by decide +kernel
theorem dX4_tryWay_130 : decode cX4_tryWay 130 = .ok (.aload_n 0, 1) := by decide +kernel
theorem dX4_tryWay_131 : decode cX4_tryWay 131 = .ok (.getfield 27, 3) := by decide +kernel
theorem dX4_tryWay_134 : decode cX4_tryWay 134 = .ok (.arraylength, 1) := by decide +kernel
theorem dX4_tryWay_135 : decode cX4_tryWay 135 = .ok (.if_icmp .ge 36, 3) := by decide +kernel
theorem dX4_tryWay_138 : decode cX4_tryWay 138 = .ok (.aload_n 0, 1) := by decide +kernel
theorem dX4_tryWay_139 : decode cX4_tryWay 139 = .ok (.getfield 27, 3) := by decide +kernel
theorem dX4_tryWay_142 : decode cX4_tryWay 142 = .ok (.iload_n 3, 1) := by decide +kernel
theorem dX4_tryWay_143 : decode cX4_tryWay 143 = .ok (.baload, 1) := by decide +kernel
theorem dX4_tryWay_144 : decode cX4_tryWay 144 = .ok (.ifCond .eq 27, 3) := by decide +kernel
theorem dX4_tryWay_147 : decode cX4_tryWay 147 = .ok (.iload 4, 2) := by decide +kernel
theorem dX4_tryWay_149 : decode cX4_tryWay 149 = .ok (.aload_n 0, 1) := by decide +kernel
theorem dX4_tryWay_150 : decode cX4_tryWay 150 = .ok (.getfield 31, 3) := by decide +kernel
theorem dX4_tryWay_153 : decode cX4_tryWay 153 = .ok (.arraylength, 1) := by decide +kernel
theorem dX4_tryWay_154 : decode cX4_tryWay 154 = .ok (.if_icmp .ge 17, 3) := by decide +kernel
theorem dX4_tryWay_157 : decode cX4_tryWay 157 = .ok (.aload_n 0, 1) := by decide +kernel
theorem dX4_tryWay_158 : decode cX4_tryWay 158 = .ok (.getfield 31, 3) := by decide +kernel
theorem dX4_tryWay_161 : decode cX4_tryWay 161 = .ok (.iload 4, 2) := by decide +kernel
theorem dX4_tryWay_163 : decode cX4_tryWay 163 = .ok (.baload, 1) := by decide +kernel
theorem dX4_tryWay_164 : decode cX4_tryWay 164 = .ok (.ifCond .eq 7, 3) := by decide +kernel
theorem dX4_tryWay_167 : decode cX4_tryWay 167 = .ok (.iconst 1, 1) := by decide +kernel
theorem dX4_tryWay_168 : decode cX4_tryWay 168 = .ok (.goto 4, 3) := by decide +kernel
theorem dX4_tryWay_171 : decode cX4_tryWay 171 = .ok (.iconst 0, 1) := by decide +kernel
theorem dX4_tryWay_172 : decode cX4_tryWay 172 = .ok (.istore 6, 2) := by decide +kernel
theorem dX4_tryWay_174 : decode cX4_tryWay 174 = .ok (.iload 6, 2) := by decide +kernel
theorem dX4_tryWay_176 : decode cX4_tryWay 176 = .ok (.ifCond .eq 8, 3) := by decide +kernel
theorem dX4_tryWay_179 : decode cX4_tryWay 179 = .ok (.iload 5, 2) := by decide +kernel
theorem dX4_tryWay_181 : decode cX4_tryWay 181 = .ok (.goto 4, 3) := by decide +kernel
theorem dX4_tryWay_184 : decode cX4_tryWay 184 = .ok (.iconst (-1), 1) := by decide +kernel
theorem dX4_tryWay_185 : decode cX4_tryWay 185 = .ok (.ireturn, 1) := by decide +kernel
def B_Patrols_tryWay_120 (k29 : Int32 → Int32 → Int32 → Int32 → Int32 → CS → Option (Int32 × CS))  (x2 : Int32) (x3 : Int32) (x4 : Int32) (x6 : Int32) (z0 : Int32) (z1 : Int32) (σ : CS) : Option (Int32 × CS) := k29 x2 x3 x4 (z0 + z1) (x6 + (-1)) σ
set_option maxHeartbeats 4000000 in
set_option maxRecDepth 100000 in
theorem w_Patrols_tryWay_120 (C : Cx g p s m args meth c A 7 cX4_tryWay yX4_tryWay.cls) (hr : meth.sig.returnType = (some .int))  {res : Int32 × CS}   (x2 : Int32) (x3 : Int32) (x4 : Int32) (x6 : Int32) (z0 : Int32) (z1 : Int32) {k29 : Int32 → Int32 → Int32 → Int32 → Int32 → CS → Option (Int32 × CS)} (hk29 : ∀ (x2 : Int32) (x3 : Int32) (x4 : Int32) (x5 : Int32) (x6 : Int32) (σ : CS) (ta : Nat → Nat), φ0 ≤ ph σ.2.2 → ph σ.2.2 ≤ BB → k29 x2 x3 x4 x5 x6 σ = some res → NI g p l e s m args below meth c A 1 40 7 ad Rr φ0 res ta σ [(0, .ref (ad 9)), (2, .int x2), (3, .int x3), (4, .int x4), (5, .int x5), (6, .int x6)] 29 []) (σ : CS) (ta : Nat → Nat) (hφ : φ0 ≤ ph σ.2.2) (hφ2 : ph σ.2.2 ≤ BB) (h : B_Patrols_tryWay_120 k29 x2 x3 x4 x6 z0 z1 σ = some res) : NI g p l e s m args below meth c A 1 40 7 ad Rr φ0 res ta σ [(0, .ref (ad 9)), (2, .int x2), (3, .int x3), (4, .int x4), (6, .int x6)] 120 [.int z1, .int z0] := by
  unfold B_Patrols_tryWay_120 at h
  refine nw_iadd C dX4_tryWay_120 ?_
  refine nw_istore (lv' := [(5, .int (z0 + z1)), (0, .ref (ad 9)), (2, .int x2), (3, .int x3), (4, .int x4), (6, .int x6)]) C dX4_tryWay_121 (by decide) rfl ?_
  refine nw_iinc (lv' := [(6, .int (x6 + (-1))), (5, .int (z0 + z1)), (0, .ref (ad 9)), (2, .int x2), (3, .int x3), (4, .int x4)]) C (x6 + (-1)) dX4_tryWay_123 5 rfl rfl (by decide) rfl ?_
  refine nw_goto (tgt := 29) C dX4_tryWay_126 (by decide) ?_
  exact nw_lv (lv' := [(0, .ref (ad 9)), (2, .int x2), (3, .int x3), (4, .int x4), (5, .int (z0 + z1)), (6, .int (x6 + (-1)))]) [2, 3, 4, 5, 1, 0] rfl (hk29 x2 x3 x4 (z0 + z1) (x6 + (-1)) _ _ hφ hφ2 h)
def B_Patrols_tryWay_90 (k29 : Int32 → Int32 → Int32 → Int32 → Int32 → CS → Option (Int32 × CS))  (x2 : Int32) (x3 : Int32) (x5 : Int32) (x6 : Int32) (z0 : Int32) (z1 : Int32) (σ : CS) : Option (Int32 × CS) := gix x6 8 (if (rd σ 31 x6) = 2 then B_Patrols_tryWay_120 k29 x2 x3 (z0 ||| z1) x6 x5 0 σ else bnd (f_Table_get 13 x6 2 σ) (fun r117 σ117 => B_Patrols_tryWay_120 k29 x2 x3 (z0 ||| z1) x6 x5 r117 σ117))
set_option maxHeartbeats 4000000 in
set_option maxRecDepth 100000 in
theorem w_Patrols_tryWay_90 (C : Cx g p s m args meth c A 7 cX4_tryWay yX4_tryWay.cls) (hr : meth.sig.returnType = (some .int))  {res : Int32 × CS}   (x2 : Int32) (x3 : Int32) (x5 : Int32) (x6 : Int32) (z0 : Int32) (z1 : Int32) {k29 : Int32 → Int32 → Int32 → Int32 → Int32 → CS → Option (Int32 × CS)} (hk29 : ∀ (x2 : Int32) (x3 : Int32) (x4 : Int32) (x5 : Int32) (x6 : Int32) (σ : CS) (ta : Nat → Nat), φ0 ≤ ph σ.2.2 → ph σ.2.2 ≤ BB → k29 x2 x3 x4 x5 x6 σ = some res → NI g p l e s m args below meth c A 1 40 7 ad Rr φ0 res ta σ [(0, .ref (ad 9)), (2, .int x2), (3, .int x3), (4, .int x4), (5, .int x5), (6, .int x6)] 29 []) (σ : CS) (ta : Nat → Nat) (hφ : φ0 ≤ ph σ.2.2) (hφ2 : ph σ.2.2 ≤ BB) (h : B_Patrols_tryWay_90 k29 x2 x3 x5 x6 z0 z1 σ = some res) : NI g p l e s m args below meth c A 1 40 7 ad Rr φ0 res ta σ [(0, .ref (ad 9)), (2, .int x2), (3, .int x3), (5, .int x5), (6, .int x6)] 90 [.int z1, .int z0] := by
  unfold B_Patrols_tryWay_90 at h
  refine nw_ior C dX4_tryWay_90 ?_
  refine nw_istore (lv' := [(4, .int (z0 ||| z1)), (0, .ref (ad 9)), (2, .int x2), (3, .int x3), (5, .int x5), (6, .int x6)]) C dX4_tryWay_91 (by decide) rfl ?_
  refine nw_iload C dX4_tryWay_93 4 rfl ?_
  refine nw_aload_n C dX4_tryWay_95 rfl 1 rfl ?_
  refine nw_get (v := .ref (ad 58)) C in_X4 9 cl_Patrols rfl 6 (by decide) tw_469 rfl rfl dX4_tryWay_96 ?_
  refine nw_iload C dX4_tryWay_99 5 rfl ?_
  refine nw_iald C 58 (cl_I 31 rfl) dX4_tryWay_101 h (fun h => ?_)
  refine nw_iconst (v := 2) C dX4_tryWay_102 (by decide) ?_
  refine nw_icmp_ne (tgt := 110) C dX4_tryWay_103 (by decide) h (fun _ h => ?_) (fun _ h => ?_)
  · refine nw_iconst (v := 0) C dX4_tryWay_106 (by decide) ?_
    refine nw_goto (tgt := 120) C dX4_tryWay_107 (by decide) ?_
    exact nw_lv (lv' := [(0, .ref (ad 9)), (2, .int x2), (3, .int x3), (4, .int (z0 ||| z1)), (6, .int x6)]) [1, 2, 3, 0, 5] rfl (w_Patrols_tryWay_120 C hr x2 x3 (z0 ||| z1) x6 x5 0 hk29 _ _ hφ hφ2 h)
  · refine nw_aload_n C dX4_tryWay_110 rfl 1 rfl ?_
    refine nw_get (v := .ref (ad 24)) C in_X4 9 cl_Patrols rfl 1 (by decide) tw_463 rfl rfl dX4_tryWay_111 ?_
    refine nw_iload C dX4_tryWay_114 5 rfl ?_
    refine nw_iconst (v := 2) C dX4_tryWay_116 (by decide) ?_
    refine nc_callVI (q0 := 24) (As := [.int x6, .int 2]) (rest := [.int x5]) C h (fun _ _ e => c_Table_get 13 (by decide) e hφ2) tw_629 kv_X9_get (cl_T 13 (by decide)) rfl ⟨Nat.le_of_ble_eq_true rfl, Nat.le_of_ble_eq_true rfl⟩ rfl dX4_tryWay_117 rfl (Nat.le_of_ble_eq_true rfl) hφ hφ2 (fun r117 σ117 ta h hφ hφ2 => ?_)
    exact nw_lv (lv' := [(0, .ref (ad 9)), (2, .int x2), (3, .int x3), (4, .int (z0 ||| z1)), (6, .int x6)]) [1, 2, 3, 0, 5] rfl (w_Patrols_tryWay_120 C hr x2 x3 (z0 ||| z1) x6 x5 r117 hk29 _ _ hφ hφ2 h)
def B_Patrols_tryWay_67 (k29 : Int32 → Int32 → Int32 → Int32 → Int32 → CS → Option (Int32 × CS))  (x2 : Int32) (x4 : Int32) (x5 : Int32) (x6 : Int32) (z0 : Int32) (z1 : Int32) (σ : CS) : Option (Int32 × CS) := gix x6 8 (if (rd σ 31 x6) = 1 then B_Patrols_tryWay_90 k29 x2 (z0 ||| z1) x5 x6 x4 ((1 : Int32) <<< (x6 &&& 31)) σ else B_Patrols_tryWay_90 k29 x2 (z0 ||| z1) x5 x6 x4 0 σ)
set_option maxHeartbeats 4000000 in
set_option maxRecDepth 100000 in
theorem w_Patrols_tryWay_67 (C : Cx g p s m args meth c A 7 cX4_tryWay yX4_tryWay.cls) (hr : meth.sig.returnType = (some .int))  {res : Int32 × CS}   (x2 : Int32) (x4 : Int32) (x5 : Int32) (x6 : Int32) (z0 : Int32) (z1 : Int32) {k29 : Int32 → Int32 → Int32 → Int32 → Int32 → CS → Option (Int32 × CS)} (hk29 : ∀ (x2 : Int32) (x3 : Int32) (x4 : Int32) (x5 : Int32) (x6 : Int32) (σ : CS) (ta : Nat → Nat), φ0 ≤ ph σ.2.2 → ph σ.2.2 ≤ BB → k29 x2 x3 x4 x5 x6 σ = some res → NI g p l e s m args below meth c A 1 40 7 ad Rr φ0 res ta σ [(0, .ref (ad 9)), (2, .int x2), (3, .int x3), (4, .int x4), (5, .int x5), (6, .int x6)] 29 []) (σ : CS) (ta : Nat → Nat) (hφ : φ0 ≤ ph σ.2.2) (hφ2 : ph σ.2.2 ≤ BB) (h : B_Patrols_tryWay_67 k29 x2 x4 x5 x6 z0 z1 σ = some res) : NI g p l e s m args below meth c A 1 40 7 ad Rr φ0 res ta σ [(0, .ref (ad 9)), (2, .int x2), (4, .int x4), (5, .int x5), (6, .int x6)] 67 [.int z1, .int z0] := by
  unfold B_Patrols_tryWay_67 at h
  refine nw_ior C dX4_tryWay_67 ?_
  refine nw_istore_n (lv' := [(3, .int (z0 ||| z1)), (0, .ref (ad 9)), (2, .int x2), (4, .int x4), (5, .int x5), (6, .int x6)]) C dX4_tryWay_68 rfl (by decide) rfl ?_
  refine nw_iload C dX4_tryWay_69 3 rfl ?_
  refine nw_aload_n C dX4_tryWay_71 rfl 1 rfl ?_
  refine nw_get (v := .ref (ad 58)) C in_X4 9 cl_Patrols rfl 6 (by decide) tw_469 rfl rfl dX4_tryWay_72 ?_
  refine nw_iload C dX4_tryWay_75 5 rfl ?_
  refine nw_iald C 58 (cl_I 31 rfl) dX4_tryWay_77 h (fun h => ?_)
  refine nw_iconst (v := 1) C dX4_tryWay_78 (by decide) ?_
  refine nw_icmp_ne (tgt := 89) C dX4_tryWay_79 (by decide) h (fun _ h => ?_) (fun _ h => ?_)
  · refine nw_iconst (v := 1) C dX4_tryWay_82 (by decide) ?_
    refine nw_iload C dX4_tryWay_83 5 rfl ?_
    refine nw_ishl C dX4_tryWay_85 ?_
    refine nw_goto (tgt := 90) C dX4_tryWay_86 (by decide) ?_
    exact nw_lv (lv' := [(0, .ref (ad 9)), (2, .int x2), (3, .int (z0 ||| z1)), (5, .int x5), (6, .int x6)]) [1, 2, 0, 4, 5] rfl (w_Patrols_tryWay_90 C hr x2 (z0 ||| z1) x5 x6 x4 ((1 : Int32) <<< (x6 &&& 31)) hk29 _ _ hφ hφ2 h)
  · refine nw_iconst (v := 0) C dX4_tryWay_89 (by decide) ?_
    exact nw_lv (lv' := [(0, .ref (ad 9)), (2, .int x2), (3, .int (z0 ||| z1)), (5, .int x5), (6, .int x6)]) [1, 2, 0, 4, 5] rfl (w_Patrols_tryWay_90 C hr x2 (z0 ||| z1) x5 x6 x4 0 hk29 _ _ hφ hφ2 h)
def L_Patrols_tryWay_29 (k129 : Int32 → Int32 → Int32 → CS → Option (Int32 × CS))  : Nat → Int32 → Int32 → Int32 → Int32 → Int32 → CS → Option (Int32 × CS)
  | 0, _, _, _, _, _, _ => none
  | n + 1, x2, x3, x4, x5, x6, σ => if x6 < 0 then k129 x3 x4 x5 σ else gix x6 8 (gix x6 8 (if (rd (wr σ 31 x6 (x2 - x2 / 3 * 3)) 31 x6) = 0 then B_Patrols_tryWay_67 (L_Patrols_tryWay_29 k129 n) (x2 / 3) x4 x5 x6 x3 ((1 : Int32) <<< (x6 &&& 31)) (wr σ 31 x6 (x2 - x2 / 3 * 3)) else B_Patrols_tryWay_67 (L_Patrols_tryWay_29 k129 n) (x2 / 3) x4 x5 x6 x3 0 (wr σ 31 x6 (x2 - x2 / 3 * 3))))
set_option maxHeartbeats 4000000 in
set_option maxRecDepth 100000 in
theorem w_Patrols_tryWay_29 (C : Cx g p s m args meth c A 7 cX4_tryWay yX4_tryWay.cls) (hr : meth.sig.returnType = (some .int))  {res : Int32 × CS}   {k129 : Int32 → Int32 → Int32 → CS → Option (Int32 × CS)} (hk129 : ∀ (x3 : Int32) (x4 : Int32) (x5 : Int32) (σ : CS) (ta : Nat → Nat), φ0 ≤ ph σ.2.2 → ph σ.2.2 ≤ BB → k129 x3 x4 x5 σ = some res → NI g p l e s m args below meth c A 1 40 7 ad Rr φ0 res ta σ [(0, .ref (ad 9)), (3, .int x3), (4, .int x4), (5, .int x5)] 129 []) : ∀ (n : Nat) (x2 : Int32) (x3 : Int32) (x4 : Int32) (x5 : Int32) (x6 : Int32) (σ : CS) (ta : Nat → Nat), φ0 ≤ ph σ.2.2 → ph σ.2.2 ≤ BB → L_Patrols_tryWay_29 k129 n x2 x3 x4 x5 x6 σ = some res → NI g p l e s m args below meth c A 1 40 7 ad Rr φ0 res ta σ [(0, .ref (ad 9)), (2, .int x2), (3, .int x3), (4, .int x4), (5, .int x5), (6, .int x6)] 29 [] := by
  intro n
  induction n with
  | zero =>
    intro x2 x3 x4 x5 x6 σ ta hφ hφ2 h
    exact absurd (show (none : Option (Int32 × CS)) = some res from h) (by intro h9; cases h9)
  | succ n ih =>
    intro x2 x3 x4 x5 x6 σ ta hφ hφ2 h
    rw [L_Patrols_tryWay_29] at h
    refine nw_iload C dX4_tryWay_29 5 rfl ?_
    refine nw_if_lt (tgt := 129) C dX4_tryWay_31 (by decide) h (fun _ h => ?_) (fun _ h => ?_)
    · exact nw_lv (lv' := [(0, .ref (ad 9)), (3, .int x3), (4, .int x4), (5, .int x5)]) [0, 2, 3, 4] rfl (hk129 x3 x4 x5 _ _ hφ hφ2 h)
    · refine nw_aload_n C dX4_tryWay_34 rfl 0 rfl ?_
      refine nw_get (v := .ref (ad 58)) C in_X4 9 cl_Patrols rfl 6 (by decide) tw_469 rfl rfl dX4_tryWay_35 ?_
      refine nw_iload C dX4_tryWay_38 5 rfl ?_
      refine nw_iload_n C dX4_tryWay_40 rfl 1 rfl ?_
      refine nw_iconst (v := 3) C dX4_tryWay_41 (by decide) ?_
      refine nw_iremk C dX4_tryWay_42 (by decide) ?_
      refine nw_iast C 58 (cl_I 31 rfl) dX4_tryWay_43 h (cs_I 31 rfl) (fun h => ?_)
      refine nw_iload_n C dX4_tryWay_44 rfl 1 rfl ?_
      refine nw_iconst (v := 3) C dX4_tryWay_45 (by decide) ?_
      refine nw_idivk C dX4_tryWay_46 (by decide) ?_
      refine nw_istore_n (lv' := [(2, .int (x2 / 3)), (0, .ref (ad 9)), (3, .int x3), (4, .int x4), (5, .int x5), (6, .int x6)]) C dX4_tryWay_47 rfl (by decide) rfl ?_
      refine nw_iload_n C dX4_tryWay_48 rfl 2 rfl ?_
      refine nw_aload_n C dX4_tryWay_49 rfl 1 rfl ?_
      refine nw_get (v := .ref (ad 58)) C in_X4 9 cl_Patrols rfl 6 (by decide) tw_469 rfl rfl dX4_tryWay_50 ?_
      refine nw_iload C dX4_tryWay_53 5 rfl ?_
      refine nw_iald C 58 (cl_I 31 rfl) dX4_tryWay_55 h (fun h => ?_)
      refine nw_st (st' := [.int (rd (wr σ 31 x6 (x2 - x2 / 3 * 3)) 31 x6), .int x3]) rfl ?_
      refine nw_if_ne (tgt := 66) C dX4_tryWay_56 (by decide) h (fun _ h => ?_) (fun _ h => ?_)
      · refine nw_iconst (v := 1) C dX4_tryWay_59 (by decide) ?_
        refine nw_iload C dX4_tryWay_60 5 rfl ?_
        refine nw_ishl C dX4_tryWay_62 ?_
        refine nw_goto (tgt := 67) C dX4_tryWay_63 (by decide) ?_
        exact nw_lv (lv' := [(0, .ref (ad 9)), (2, .int (x2 / 3)), (4, .int x4), (5, .int x5), (6, .int x6)]) [1, 0, 3, 4, 5] rfl (w_Patrols_tryWay_67 C hr (x2 / 3) x4 x5 x6 x3 ((1 : Int32) <<< (x6 &&& 31)) ih _ _ hφ hφ2 h)
      · refine nw_iconst (v := 0) C dX4_tryWay_66 (by decide) ?_
        exact nw_lv (lv' := [(0, .ref (ad 9)), (2, .int (x2 / 3)), (4, .int x4), (5, .int x5), (6, .int x6)]) [1, 0, 3, 4, 5] rfl (w_Patrols_tryWay_67 C hr (x2 / 3) x4 x5 x6 x3 0 ih _ _ hφ hφ2 h)
def B_Patrols_tryWay_172   (x5 : Int32) (z0 : Int32) (σ : CS) : Option (Int32 × CS) := if z0 = 0 then some ((-1), σ) else some (x5, σ)
set_option maxHeartbeats 4000000 in
set_option maxRecDepth 100000 in
theorem w_Patrols_tryWay_172 (C : Cx g p s m args meth c A 7 cX4_tryWay yX4_tryWay.cls) (hr : meth.sig.returnType = (some .int))  {res : Int32 × CS}   (x5 : Int32) (z0 : Int32)  (σ : CS) (ta : Nat → Nat) (hφ : φ0 ≤ ph σ.2.2) (hφ2 : ph σ.2.2 ≤ BB) (h : B_Patrols_tryWay_172 x5 z0 σ = some res) : NI g p l e s m args below meth c A 1 40 7 ad Rr φ0 res ta σ [(5, .int x5)] 172 [.int z0] := by
  unfold B_Patrols_tryWay_172 at h
  refine nw_istore (lv' := [(6, .int z0), (5, .int x5)]) C dX4_tryWay_172 (by decide) rfl ?_
  refine nw_iload C dX4_tryWay_174 0 rfl ?_
  refine nw_if_eq (tgt := 184) C dX4_tryWay_176 (by decide) h (fun _ h => ?_) (fun _ h => ?_)
  · refine nw_iconst (v := (-1)) C dX4_tryWay_184 (by decide) ?_
    exact nc_iret C hr dX4_tryWay_185 hφ hφ2 h
  · refine nw_iload C dX4_tryWay_179 1 rfl ?_
    refine nw_goto (tgt := 185) C dX4_tryWay_181 (by decide) ?_
    exact nc_iret C hr dX4_tryWay_185 hφ hφ2 h
def B_Patrols_tryWay_171   (x5 : Int32) (σ : CS) : Option (Int32 × CS) := B_Patrols_tryWay_172 x5 0 σ
set_option maxHeartbeats 4000000 in
set_option maxRecDepth 100000 in
theorem w_Patrols_tryWay_171 (C : Cx g p s m args meth c A 7 cX4_tryWay yX4_tryWay.cls) (hr : meth.sig.returnType = (some .int))  {res : Int32 × CS}   (x5 : Int32)  (σ : CS) (ta : Nat → Nat) (hφ : φ0 ≤ ph σ.2.2) (hφ2 : ph σ.2.2 ≤ BB) (h : B_Patrols_tryWay_171 x5 σ = some res) : NI g p l e s m args below meth c A 1 40 7 ad Rr φ0 res ta σ [(5, .int x5)] 171 [] := by
  unfold B_Patrols_tryWay_171 at h
  refine nw_iconst (v := 0) C dX4_tryWay_171 (by decide) ?_
  exact nw_lv (lv' := [(5, .int x5)]) [0] rfl (w_Patrols_tryWay_172 C hr x5 0 _ _ hφ hφ2 h)
def B_Patrols_tryWay_129   (x3 : Int32) (x4 : Int32) (x5 : Int32) (σ : CS) : Option (Int32 × CS) := if 256 ≤ x3 then B_Patrols_tryWay_171 x5 σ else gix x3 256 (if (rd σ 28 x3) = 0 then B_Patrols_tryWay_171 x5 σ else if 256 ≤ x4 then B_Patrols_tryWay_171 x5 σ else gix x4 256 (if (rd σ 29 x4) = 0 then B_Patrols_tryWay_171 x5 σ else B_Patrols_tryWay_172 x5 1 σ))
set_option maxHeartbeats 4000000 in
set_option maxRecDepth 100000 in
theorem w_Patrols_tryWay_129 (C : Cx g p s m args meth c A 7 cX4_tryWay yX4_tryWay.cls) (hr : meth.sig.returnType = (some .int))  {res : Int32 × CS}   (x3 : Int32) (x4 : Int32) (x5 : Int32)  (σ : CS) (ta : Nat → Nat) (hφ : φ0 ≤ ph σ.2.2) (hφ2 : ph σ.2.2 ≤ BB) (h : B_Patrols_tryWay_129 x3 x4 x5 σ = some res) : NI g p l e s m args below meth c A 1 40 7 ad Rr φ0 res ta σ [(0, .ref (ad 9)), (3, .int x3), (4, .int x4), (5, .int x5)] 129 [] := by
  unfold B_Patrols_tryWay_129 at h
  refine nw_iload_n C dX4_tryWay_129 rfl 1 rfl ?_
  refine nw_aload_n C dX4_tryWay_130 rfl 0 rfl ?_
  refine nw_get (v := .ref (ad 55)) C in_X4 9 cl_Patrols rfl 3 (by decide) tw_466 rfl rfl dX4_tryWay_131 ?_
  refine nw_alenZ C 55 (cl_Z 28 rfl) dX4_tryWay_134 ?_
  refine nw_st (st' := [.int 256, .int x3]) rfl ?_
  refine nw_icmp_ge (tgt := 171) C dX4_tryWay_135 (by decide) h (fun _ h => ?_) (fun _ h => ?_)
  · exact nw_lv (lv' := [(5, .int x5)]) [3] rfl (w_Patrols_tryWay_171 C hr x5 _ _ hφ hφ2 h)
  · refine nw_aload_n C dX4_tryWay_138 rfl 0 rfl ?_
    refine nw_get (v := .ref (ad 55)) C in_X4 9 cl_Patrols rfl 3 (by decide) tw_466 rfl rfl dX4_tryWay_139 ?_
    refine nw_iload_n C dX4_tryWay_142 rfl 1 rfl ?_
    refine nw_zald C 55 (cl_Z 28 rfl) dX4_tryWay_143 h (fun h => ?_)
    refine nw_if_eq (tgt := 171) C dX4_tryWay_144 (by decide) h (fun _ h => ?_) (fun _ h => ?_)
    · exact nw_lv (lv' := [(5, .int x5)]) [3] rfl (w_Patrols_tryWay_171 C hr x5 _ _ hφ hφ2 h)
    · refine nw_iload C dX4_tryWay_147 2 rfl ?_
      refine nw_aload_n C dX4_tryWay_149 rfl 0 rfl ?_
      refine nw_get (v := .ref (ad 56)) C in_X4 9 cl_Patrols rfl 4 (by decide) tw_467 rfl rfl dX4_tryWay_150 ?_
      refine nw_alenZ C 56 (cl_Z 29 rfl) dX4_tryWay_153 ?_
      refine nw_st (st' := [.int 256, .int x4]) rfl ?_
      refine nw_icmp_ge (tgt := 171) C dX4_tryWay_154 (by decide) h (fun _ h => ?_) (fun _ h => ?_)
      · exact nw_lv (lv' := [(5, .int x5)]) [3] rfl (w_Patrols_tryWay_171 C hr x5 _ _ hφ hφ2 h)
      · refine nw_aload_n C dX4_tryWay_157 rfl 0 rfl ?_
        refine nw_get (v := .ref (ad 56)) C in_X4 9 cl_Patrols rfl 4 (by decide) tw_467 rfl rfl dX4_tryWay_158 ?_
        refine nw_iload C dX4_tryWay_161 2 rfl ?_
        refine nw_zald C 56 (cl_Z 29 rfl) dX4_tryWay_163 h (fun h => ?_)
        refine nw_if_eq (tgt := 171) C dX4_tryWay_164 (by decide) h (fun _ h => ?_) (fun _ h => ?_)
        · exact nw_lv (lv' := [(5, .int x5)]) [3] rfl (w_Patrols_tryWay_171 C hr x5 _ _ hφ hφ2 h)
        · refine nw_iconst (v := 1) C dX4_tryWay_167 (by decide) ?_
          refine nw_goto (tgt := 172) C dX4_tryWay_168 (by decide) ?_
          exact nw_lv (lv' := [(5, .int x5)]) [3] rfl (w_Patrols_tryWay_172 C hr x5 1 _ _ hφ hφ2 h)
def f_Patrols_tryWay (p0 : Int32) (σ : CS) : Option (Int32 × CS) := bnd (f_Table_size 13 σ) (fun r14 σ14 => L_Patrols_tryWay_29 (B_Patrols_tryWay_129) FU p0 0 0 0 ((if 8 < r14 then 8 else r14) - 1) σ14)
set_option maxHeartbeats 4000000 in
set_option maxRecDepth 100000 in
theorem c_Patrols_tryWay {l : Launch} {g : EG} {ad ta : Nat → Nat} {Rr : va_W} {σ σ' : CS} {r : Int32} {p0 : Int32}  (h : f_Patrols_tryWay p0 σ = some (r, σ')) (hφ2 : ph σ.2.2 ≤ BB) : CtI l g yX4_tryWay (.code yX4_tryWay cX4_tryWay 7 (some .int)) 1 40 ad ta Rr σ [.ref (ad 9), .int p0] r σ' := by
  refine Ct.of rfl (by decide) (Nat.le_of_ble_eq_true rfl) ?_
  intro p e s m args below meth c A C hr
  have hφ : ph σ.2.2 ≤ ph σ.2.2 := Nat.le_refl _
  refine nw_zero (ph σ.2.2) ?_
  show NI g p l e s m args below meth c A 1 40 7 ad Rr (ph σ.2.2) (r, σ') ta σ [(0, .ref (ad 9)), (1, .int p0)] 0 []
  unfold f_Patrols_tryWay at h
  refine nw_iload_n C dX4_tryWay_0 rfl 1 rfl ?_
  refine nw_istore_n (lv' := [(2, .int p0), (0, .ref (ad 9)), (1, .int p0)]) C dX4_tryWay_1 rfl (by decide) rfl ?_
  refine nw_iconst (v := 0) C dX4_tryWay_2 (by decide) ?_
  refine nw_istore_n (lv' := [(3, .int 0), (2, .int p0), (0, .ref (ad 9)), (1, .int p0)]) C dX4_tryWay_3 rfl (by decide) rfl ?_
  refine nw_iconst (v := 0) C dX4_tryWay_4 (by decide) ?_
  refine nw_istore (lv' := [(4, .int 0), (3, .int 0), (2, .int p0), (0, .ref (ad 9)), (1, .int p0)]) C dX4_tryWay_5 (by decide) rfl ?_
  refine nw_iconst (v := 0) C dX4_tryWay_7 (by decide) ?_
  refine nw_istore (lv' := [(5, .int 0), (4, .int 0), (3, .int 0), (2, .int p0), (0, .ref (ad 9)), (1, .int p0)]) C dX4_tryWay_8 (by decide) rfl ?_
  refine nw_aload_n C dX4_tryWay_10 rfl 4 rfl ?_
  refine nw_get (v := .ref (ad 24)) C in_X4 9 cl_Patrols rfl 1 (by decide) tw_463 rfl rfl dX4_tryWay_11 ?_
  refine nc_callVI (q0 := 24) (As := []) (rest := []) C h (fun _ _ e => c_Table_size 13 (by decide) e hφ2) tw_628 kv_X9_size (cl_T 13 (by decide)) rfl ⟨Nat.le_of_ble_eq_true rfl, Nat.le_of_ble_eq_true rfl⟩ rfl dX4_tryWay_14 rfl (Nat.le_of_ble_eq_true rfl) hφ hφ2 (fun r14 σ14 ta h hφ hφ2 => ?_)
  refine nw_aload_n C dX4_tryWay_17 rfl 4 rfl ?_
  refine nw_get (v := .ref (ad 58)) C in_X4 9 cl_Patrols rfl 6 (by decide) tw_469 rfl rfl dX4_tryWay_18 ?_
  refine nw_alenI C 58 (cl_I 31 rfl) dX4_tryWay_21 ?_
  refine nw_st (st' := [.int 8, .int r14]) rfl ?_
  refine nw_mmin C tw_653 tw_367 tw_125 tm_min (Nat.le_of_ble_eq_true rfl) (Nat.le_of_ble_eq_true rfl) (Nat.sub_le_sub_right hφ2 _) (Nat.mul_le_mul_left 2 (Nat.sub_le_sub_right hφ2 _)) dX4_tryWay_22 ?_
  refine nw_iconst (v := 1) C dX4_tryWay_25 (by decide) ?_
  refine nw_isub C dX4_tryWay_26 ?_
  refine nw_istore (lv' := [(6, .int ((if 8 < r14 then 8 else r14) - 1)), (5, .int 0), (4, .int 0), (3, .int 0), (2, .int p0), (0, .ref (ad 9)), (1, .int p0)]) C dX4_tryWay_27 (by decide) rfl ?_
  exact nw_lv (lv' := [(0, .ref (ad 9)), (2, .int p0), (3, .int 0), (4, .int 0), (5, .int 0), (6, .int ((if 8 < r14 then 8 else r14) - 1))]) [5, 4, 3, 2, 1, 0] rfl (w_Patrols_tryWay_29 C hr (fun x3_ x4_ x5_ σ_ ta_ hφ_ hφ2_ h_ => w_Patrols_tryWay_129 C hr x3_ x4_ x5_ σ_ ta_ hφ_ hφ2_ h_) FU p0 0 0 0 ((if 8 < r14 then 8 else r14) - 1) _ _ hφ hφ2 h)
end
