section
variable {g : EG} {p : Program} {l : Launch} {e : Env} {s : State} {m : MethodId} {args : Array Value} {below : List Frame} {meth : Method} {c : Code} {A : Nat → Prop} {ad am ta : Nat → Nat} {Rr : va_W} {φ0 : Nat}
theorem dX2_isSamePlace_0 : decode cX2_isSamePlace 0 = .ok (.aload_n 0, 1) := by decide +kernel
theorem dX2_isSamePlace_1 : decode cX2_isSamePlace 1 = .ok (.getfield 16, 3) := by decide +kernel
theorem dX2_isSamePlace_4 : decode cX2_isSamePlace 4 = .ok (.iload_n 1, 1) := by decide +kernel
theorem dX2_isSamePlace_5 : decode cX2_isSamePlace 5 = .ok (.iconst 1, 1) := by decide +kernel
theorem dX2_isSamePlace_6 : decode cX2_isSamePlace 6 = .ok (.invokevirtual 31, 3) := by decide +kernel
theorem dX2_isSamePlace_9 : decode cX2_isSamePlace 9 = .ok (.aload_n 0, 1) := by decide +kernel
theorem dX2_isSamePlace_10 : decode cX2_isSamePlace 10 = .ok (.getfield 16, 3) := by decide +kernel
theorem dX2_isSamePlace_13 : decode cX2_isSamePlace 13 = .ok (.iload_n 2, 1) := by decide +kernel
theorem dX2_isSamePlace_14 : decode cX2_isSamePlace 14 = .ok (.iconst 1, 1) := by decide +kernel
theorem dX2_isSamePlace_15 : decode cX2_isSamePlace 15 = .ok (.invokevirtual 31, 3) := by decide +kernel
theorem dX2_isSamePlace_18 : decode cX2_isSamePlace 18 = .ok (.if_icmp .ne 28, 3) := by decide +kernel
theorem dX2_isSamePlace_21 : decode cX2_isSamePlace 21 = .ok (.aload_n 0, 1) := by decide +kernel
theorem dX2_isSamePlace_22 : decode cX2_isSamePlace 22 = .ok (.getfield 16, 3) := by decide +kernel
theorem dX2_isSamePlace_25 : decode cX2_isSamePlace 25 = .ok (.iload_n 1, 1) := by decide +kernel
theorem dX2_isSamePlace_26 : decode cX2_isSamePlace 26 = .ok (.iconst 2, 1) := by decide +kernel
theorem dX2_isSamePlace_27 : decode cX2_isSamePlace 27 = .ok (.invokevirtual 31, 3) := by decide +kernel
theorem dX2_isSamePlace_30 : decode cX2_isSamePlace 30 = .ok (.aload_n 0, 1) := by decide +kernel
theorem dX2_isSamePlace_31 : decode cX2_isSamePlace 31 = .ok (.getfield 16, 3) := by decide +kernel
theorem dX2_isSamePlace_34 : decode cX2_isSamePlace 34 = .ok (.iload_n 2, 1) := by decide +kernel
theorem dX2_isSamePlace_35 : decode cX2_isSamePlace 35 = .ok (.iconst 2, 1) := by decide +kernel
theorem dX2_isSamePlace_36 : decode cX2_isSamePlace 36 = .ok (.invokevirtual 31, 3) := by decide +kernel
theorem dX2_isSamePlace_39 : decode cX2_isSamePlace 39 = .ok (.if_icmp .ne 7, 3) := by decide +kernel
theorem dX2_isSamePlace_42 : decode cX2_isSamePlace 42 = .ok (.iconst 1, 1) := by decide +kernel
theorem dX2_isSamePlace_43 : decode cX2_isSamePlace 43 = .ok (.goto 4, 3) := by decide +kernel
theorem dX2_isSamePlace_46 : decode cX2_isSamePlace 46 = .ok (.iconst 0, 1) := by decide +kernel
theorem dX2_isSamePlace_47 : decode cX2_isSamePlace 47 = .ok (.ireturn, 1) := by decide +kernel
def f_Ground_isSamePlace (p0 : Int32) (p1 : Int32) (σ : CS) : Option (Int32 × CS) := bnd (f_Table_get 1 p0 1 σ) (fun r6 σ6 => bnd (f_Table_get 1 p1 1 σ6) (fun r15 σ15 => if r6 = r15 then bnd (f_Table_get 1 p0 2 σ15) (fun r27 σ27 => bnd (f_Table_get 1 p1 2 σ27) (fun r36 σ36 => if r27 = r36 then some (1, σ36) else some (0, σ36))) else some (0, σ15)))
set_option maxHeartbeats 4000000 in
set_option maxRecDepth 100000 in
theorem c_Ground_isSamePlace {l : Launch} {g : EG} {ad ta : Nat → Nat} {Rr : va_W} {σ σ' : CS} {r : Int32} {p0 : Int32} {p1 : Int32}  (h : f_Ground_isSamePlace p0 p1 σ = some (r, σ')) (hφ2 : ph σ.2.2 ≤ BB) : CtI l g yX2_isSamePlace (.code yX2_isSamePlace cX2_isSamePlace 3 (some .boolean)) 1 23 ad ta Rr σ [.ref (ad 1), .int p0, .int p1] r σ' := by
  refine Ct.of rfl (by decide) (Nat.le_of_ble_eq_true rfl) ?_
  intro p e s m args below meth c A C hr
  have hφ : ph σ.2.2 ≤ ph σ.2.2 := Nat.le_refl _
  refine nw_zero (ph σ.2.2) ?_
  show NI g p l e s m args below meth c A 1 23 3 ad Rr (ph σ.2.2) (r, σ') ta σ [(0, .ref (ad 1)), (1, .int p0), (2, .int p1)] 0 []
  unfold f_Ground_isSamePlace at h
  refine nw_aload_n C dX2_isSamePlace_0 rfl 0 rfl ?_
  refine nw_get (v := .ref (ad 12)) C in_X2 1 cl_Ground rfl 0 (by decide) tw_189 rfl rfl dX2_isSamePlace_1 ?_
  refine nw_iload_n C dX2_isSamePlace_4 rfl 1 rfl ?_
  refine nw_iconst (v := 1) C dX2_isSamePlace_5 (by decide) ?_
  refine nc_callVI (q0 := 12) (As := [.int p0, .int 1]) (rest := []) C h (fun _ _ e => c_Table_get 1 (by decide) e hφ2) tw_841 kv_X9_get (cl_T 1 (by decide)) rfl ⟨Nat.le_of_ble_eq_true rfl, Nat.le_of_ble_eq_true rfl⟩ rfl dX2_isSamePlace_6 rfl (Nat.le_of_ble_eq_true rfl) hφ hφ2 (fun r6 σ6 ta h hφ hφ2 => ?_)
  refine nw_aload_n C dX2_isSamePlace_9 rfl 0 rfl ?_
  refine nw_get (v := .ref (ad 12)) C in_X2 1 cl_Ground rfl 0 (by decide) tw_189 rfl rfl dX2_isSamePlace_10 ?_
  refine nw_iload_n C dX2_isSamePlace_13 rfl 2 rfl ?_
  refine nw_iconst (v := 1) C dX2_isSamePlace_14 (by decide) ?_
  refine nc_callVI (q0 := 12) (As := [.int p1, .int 1]) (rest := [.int r6]) C h (fun _ _ e => c_Table_get 1 (by decide) e hφ2) tw_841 kv_X9_get (cl_T 1 (by decide)) rfl ⟨Nat.le_of_ble_eq_true rfl, Nat.le_of_ble_eq_true rfl⟩ rfl dX2_isSamePlace_15 rfl (Nat.le_of_ble_eq_true rfl) hφ hφ2 (fun r15 σ15 ta h hφ hφ2 => ?_)
  refine nw_icmp_ne (tgt := 46) C dX2_isSamePlace_18 (by decide) h (fun _ h => ?_) (fun _ h => ?_)
  · refine nw_aload_n C dX2_isSamePlace_21 rfl 0 rfl ?_
    refine nw_get (v := .ref (ad 12)) C in_X2 1 cl_Ground rfl 0 (by decide) tw_189 rfl rfl dX2_isSamePlace_22 ?_
    refine nw_iload_n C dX2_isSamePlace_25 rfl 1 rfl ?_
    refine nw_iconst (v := 2) C dX2_isSamePlace_26 (by decide) ?_
    refine nc_callVI (q0 := 12) (As := [.int p0, .int 2]) (rest := []) C h (fun _ _ e => c_Table_get 1 (by decide) e hφ2) tw_841 kv_X9_get (cl_T 1 (by decide)) rfl ⟨Nat.le_of_ble_eq_true rfl, Nat.le_of_ble_eq_true rfl⟩ rfl dX2_isSamePlace_27 rfl (Nat.le_of_ble_eq_true rfl) hφ hφ2 (fun r27 σ27 ta h hφ hφ2 => ?_)
    refine nw_aload_n C dX2_isSamePlace_30 rfl 0 rfl ?_
    refine nw_get (v := .ref (ad 12)) C in_X2 1 cl_Ground rfl 0 (by decide) tw_189 rfl rfl dX2_isSamePlace_31 ?_
    refine nw_iload_n C dX2_isSamePlace_34 rfl 2 rfl ?_
    refine nw_iconst (v := 2) C dX2_isSamePlace_35 (by decide) ?_
    refine nc_callVI (q0 := 12) (As := [.int p1, .int 2]) (rest := [.int r27]) C h (fun _ _ e => c_Table_get 1 (by decide) e hφ2) tw_841 kv_X9_get (cl_T 1 (by decide)) rfl ⟨Nat.le_of_ble_eq_true rfl, Nat.le_of_ble_eq_true rfl⟩ rfl dX2_isSamePlace_36 rfl (Nat.le_of_ble_eq_true rfl) hφ hφ2 (fun r36 σ36 ta h hφ hφ2 => ?_)
    refine nw_icmp_ne (tgt := 46) C dX2_isSamePlace_39 (by decide) h (fun _ h => ?_) (fun _ h => ?_)
    · refine nw_iconst (v := 1) C dX2_isSamePlace_42 (by decide) ?_
      refine nw_goto (tgt := 47) C dX2_isSamePlace_43 (by decide) ?_
      exact nc_zret C hr (Or.inr rfl) dX2_isSamePlace_47 hφ hφ2 h
    · refine nw_iconst (v := 0) C dX2_isSamePlace_46 (by decide) ?_
      exact nc_zret C hr (Or.inl rfl) dX2_isSamePlace_47 hφ hφ2 h
  · refine nw_iconst (v := 0) C dX2_isSamePlace_46 (by decide) ?_
    exact nc_zret C hr (Or.inl rfl) dX2_isSamePlace_47 hφ hφ2 h
theorem dX2_turn_0 : decode cX2_turn 0 = .ok (.aload_n 0, 1) := by decide +kernel
theorem dX2_turn_1 : decode cX2_turn 1 = .ok (.getfield 16, 3) := by decide +kernel
theorem dX2_turn_4 : decode cX2_turn 4 = .ok (.iload_n 1, 1) := by decide +kernel
theorem dX2_turn_5 : decode cX2_turn 5 = .ok (.iconst 1, 1) := by decide +kernel
theorem dX2_turn_6 : decode cX2_turn 6 = .ok (.invokevirtual 31, 3) := by decide +kernel
theorem dX2_turn_9 : decode cX2_turn 9 = .ok (.istore 4, 2) := by decide +kernel
theorem dX2_turn_11 : decode cX2_turn 11 = .ok (.aload_n 0, 1) := by decide +kernel
theorem dX2_turn_12 : decode cX2_turn 12 = .ok (.getfield 16, 3) := by decide +kernel
theorem dX2_turn_15 : decode cX2_turn 15 = .ok (.iload_n 1, 1) := by decide +kernel
theorem dX2_turn_16 : decode cX2_turn 16 = .ok (.iconst 2, 1) := by decide +kernel
theorem dX2_turn_17 : decode cX2_turn 17 = .ok (.invokevirtual 31, 3) := by decide +kernel
theorem dX2_turn_20 : decode cX2_turn 20 = .ok (.istore 5, 2) := by decide +kernel
theorem dX2_turn_22 : decode cX2_turn 22 = .ok (.aload_n 0, 1) := by decide +kernel
theorem dX2_turn_23 : decode cX2_turn 23 = .ok (.getfield 16, 3) := by decide +kernel
theorem dX2_turn_26 : decode cX2_turn 26 = .ok (.iload_n 2, 1) := by decide +kernel
theorem dX2_turn_27 : decode cX2_turn 27 = .ok (.iconst 1, 1) := by decide +kernel
theorem dX2_turn_28 : decode cX2_turn 28 = .ok (.invokevirtual 31, 3) := by decide +kernel
theorem dX2_turn_31 : decode cX2_turn 31 = .ok (.iload 4, 2) := by decide +kernel
theorem dX2_turn_33 : decode cX2_turn 33 = .ok (.isub, 1) := by decide +kernel
theorem dX2_turn_34 : decode cX2_turn 34 = .ok (.aload_n 0, 1) := by decide +kernel
theorem dX2_turn_35 : decode cX2_turn 35 = .ok (.getfield 16, 3) := by decide +kernel
theorem dX2_turn_38 : decode cX2_turn 38 = .ok (.iload_n 2, 1) := by decide +kernel
theorem dX2_turn_39 : decode cX2_turn 39 = .ok (.iconst 2, 1) := by decide +kernel
theorem dX2_turn_40 : decode cX2_turn 40 = .ok (.invokevirtual 31, 3) := by decide +kernel
theorem dX2_turn_43 : decode cX2_turn 43 = .ok (.iload 5, 2) := by decide +kernel
theorem dX2_turn_45 : decode cX2_turn 45 = .ok (.isub, 1) := by decide +kernel
theorem dX2_turn_46 : decode cX2_turn 46 = .ok (.aload_n 0, 1) := by decide +kernel
theorem dX2_turn_47 : decode cX2_turn 47 = .ok (.getfield 16, 3) := by decide +kernel
theorem dX2_turn_50 : decode cX2_turn 50 = .ok (.iload_n 3, 1) := by decide +kernel
theorem dX2_turn_51 : decode cX2_turn 51 = .ok (.iconst 1, 1) := by decide +kernel
theorem dX2_turn_52 : decode cX2_turn 52 = .ok (.invokevirtual 31, 3) := by decide +kernel
theorem dX2_turn_55 : decode cX2_turn 55 = .ok (.iload 4, 2) := by decide +kernel
theorem dX2_turn_57 : decode cX2_turn 57 = .ok (.isub, 1) := by decide +kernel
theorem dX2_turn_58 : decode cX2_turn 58 = .ok (.aload_n 0, 1) := by decide +kernel
theorem dX2_turn_59 : decode cX2_turn 59 = .ok (.getfield 16, 3) := by decide +kernel
theorem dX2_turn_62 : decode cX2_turn 62 = .ok (.iload_n 3, 1) := by decide +kernel
theorem dX2_turn_63 : decode cX2_turn 63 = .ok (.iconst 2, 1) := by decide +kernel
theorem dX2_turn_64 : decode cX2_turn 64 = .ok (.invokevirtual 31, 3) := by decide +kernel
theorem dX2_turn_67 : decode cX2_turn 67 = .ok (.iload 5, 2) := by decide +kernel
theorem dX2_turn_69 : decode cX2_turn 69 = .ok (.isub, 1) := by decide +kernel
theorem dX2_turn_70 : decode cX2_turn 70 = .ok (.invokestatic 87, 3) := by decide +kernel
theorem dX2_turn_73 : decode cX2_turn 73 = .ok (.ireturn, 1) := by decide +kernel
def f_Ground_turn (p0 : Int32) (p1 : Int32) (p2 : Int32) (σ : CS) : Option (Int32 × CS) := bnd (f_Table_get 1 p0 1 σ) (fun r6 σ6 => bnd (f_Table_get 1 p0 2 σ6) (fun r17 σ17 => bnd (f_Table_get 1 p1 1 σ17) (fun r28 σ28 => bnd (f_Table_get 1 p1 2 σ28) (fun r40 σ40 => bnd (f_Table_get 1 p2 1 σ40) (fun r52 σ52 => bnd (f_Table_get 1 p2 2 σ52) (fun r64 σ64 => bnd (f_Ground_handOf (r28 - r6) (r40 - r17) (r52 - r6) (r64 - r17) σ64) (fun r70 σ70 => some (r70, σ70))))))))
set_option maxHeartbeats 4000000 in
set_option maxRecDepth 100000 in
theorem c_Ground_turn {l : Launch} {g : EG} {ad ta : Nat → Nat} {Rr : va_W} {σ σ' : CS} {r : Int32} {p0 : Int32} {p1 : Int32} {p2 : Int32}  (h : f_Ground_turn p0 p1 p2 σ = some (r, σ')) (hφ2 : ph σ.2.2 ≤ BB) : CtI l g yX2_turn (.code yX2_turn cX2_turn 6 (some .int)) 1 24 ad ta Rr σ [.ref (ad 1), .int p0, .int p1, .int p2] r σ' := by
  refine Ct.of rfl (by decide) (Nat.le_of_ble_eq_true rfl) ?_
  intro p e s m args below meth c A C hr
  have hφ : ph σ.2.2 ≤ ph σ.2.2 := Nat.le_refl _
  refine nw_zero (ph σ.2.2) ?_
  show NI g p l e s m args below meth c A 1 24 6 ad Rr (ph σ.2.2) (r, σ') ta σ [(0, .ref (ad 1)), (1, .int p0), (2, .int p1), (3, .int p2)] 0 []
  unfold f_Ground_turn at h
  refine nw_aload_n C dX2_turn_0 rfl 0 rfl ?_
  refine nw_get (v := .ref (ad 12)) C in_X2 1 cl_Ground rfl 0 (by decide) tw_189 rfl rfl dX2_turn_1 ?_
  refine nw_iload_n C dX2_turn_4 rfl 1 rfl ?_
  refine nw_iconst (v := 1) C dX2_turn_5 (by decide) ?_
  refine nc_callVI (q0 := 12) (As := [.int p0, .int 1]) (rest := []) C h (fun _ _ e => c_Table_get 1 (by decide) e hφ2) tw_841 kv_X9_get (cl_T 1 (by decide)) rfl ⟨Nat.le_of_ble_eq_true rfl, Nat.le_of_ble_eq_true rfl⟩ rfl dX2_turn_6 rfl (Nat.le_of_ble_eq_true rfl) hφ hφ2 (fun r6 σ6 ta h hφ hφ2 => ?_)
  refine nw_istore (lv' := [(4, .int r6), (0, .ref (ad 1)), (1, .int p0), (2, .int p1), (3, .int p2)]) C dX2_turn_9 (by decide) rfl ?_
  refine nw_aload_n C dX2_turn_11 rfl 1 rfl ?_
  refine nw_get (v := .ref (ad 12)) C in_X2 1 cl_Ground rfl 0 (by decide) tw_189 rfl rfl dX2_turn_12 ?_
  refine nw_iload_n C dX2_turn_15 rfl 2 rfl ?_
  refine nw_iconst (v := 2) C dX2_turn_16 (by decide) ?_
  refine nc_callVI (q0 := 12) (As := [.int p0, .int 2]) (rest := []) C h (fun _ _ e => c_Table_get 1 (by decide) e hφ2) tw_841 kv_X9_get (cl_T 1 (by decide)) rfl ⟨Nat.le_of_ble_eq_true rfl, Nat.le_of_ble_eq_true rfl⟩ rfl dX2_turn_17 rfl (Nat.le_of_ble_eq_true rfl) hφ hφ2 (fun r17 σ17 ta h hφ hφ2 => ?_)
  refine nw_istore (lv' := [(5, .int r17), (4, .int r6), (0, .ref (ad 1)), (1, .int p0), (2, .int p1), (3, .int p2)]) C dX2_turn_20 (by decide) rfl ?_
  refine nw_aload_n C dX2_turn_22 rfl 2 rfl ?_
  refine nw_get (v := .ref (ad 12)) C in_X2 1 cl_Ground rfl 0 (by decide) tw_189 rfl rfl dX2_turn_23 ?_
  refine nw_iload_n C dX2_turn_26 rfl 4 rfl ?_
  refine nw_iconst (v := 1) C dX2_turn_27 (by decide) ?_
  refine nc_callVI (q0 := 12) (As := [.int p1, .int 1]) (rest := []) C h (fun _ _ e => c_Table_get 1 (by decide) e hφ2) tw_841 kv_X9_get (cl_T 1 (by decide)) rfl ⟨Nat.le_of_ble_eq_true rfl, Nat.le_of_ble_eq_true rfl⟩ rfl dX2_turn_28 rfl (Nat.le_of_ble_eq_true rfl) hφ hφ2 (fun r28 σ28 ta h hφ hφ2 => ?_)
  refine nw_iload C dX2_turn_31 1 rfl ?_
  refine nw_isub C dX2_turn_33 ?_
  refine nw_aload_n C dX2_turn_34 rfl 2 rfl ?_
  refine nw_get (v := .ref (ad 12)) C in_X2 1 cl_Ground rfl 0 (by decide) tw_189 rfl rfl dX2_turn_35 ?_
  refine nw_iload_n C dX2_turn_38 rfl 4 rfl ?_
  refine nw_iconst (v := 2) C dX2_turn_39 (by decide) ?_
  refine nc_callVI (q0 := 12) (As := [.int p1, .int 2]) (rest := [.int (r28 - r6)]) C h (fun _ _ e => c_Table_get 1 (by decide) e hφ2) tw_841 kv_X9_get (cl_T 1 (by decide)) rfl ⟨Nat.le_of_ble_eq_true rfl, Nat.le_of_ble_eq_true rfl⟩ rfl dX2_turn_40 rfl (Nat.le_of_ble_eq_true rfl) hφ hφ2 (fun r40 σ40 ta h hφ hφ2 => ?_)
  refine nw_iload C dX2_turn_43 0 rfl ?_
  refine nw_isub C dX2_turn_45 ?_
  refine nw_aload_n C dX2_turn_46 rfl 2 rfl ?_
  refine nw_get (v := .ref (ad 12)) C in_X2 1 cl_Ground rfl 0 (by decide) tw_189 rfl rfl dX2_turn_47 ?_
  refine nw_iload_n C dX2_turn_50 rfl 5 rfl ?_
  refine nw_iconst (v := 1) C dX2_turn_51 (by decide) ?_
  refine nc_callVI (q0 := 12) (As := [.int p2, .int 1]) (rest := [.int (r40 - r17), .int (r28 - r6)]) C h (fun _ _ e => c_Table_get 1 (by decide) e hφ2) tw_841 kv_X9_get (cl_T 1 (by decide)) rfl ⟨Nat.le_of_ble_eq_true rfl, Nat.le_of_ble_eq_true rfl⟩ rfl dX2_turn_52 rfl (Nat.le_of_ble_eq_true rfl) hφ hφ2 (fun r52 σ52 ta h hφ hφ2 => ?_)
  refine nw_iload C dX2_turn_55 1 rfl ?_
  refine nw_isub C dX2_turn_57 ?_
  refine nw_aload_n C dX2_turn_58 rfl 2 rfl ?_
  refine nw_get (v := .ref (ad 12)) C in_X2 1 cl_Ground rfl 0 (by decide) tw_189 rfl rfl dX2_turn_59 ?_
  refine nw_iload_n C dX2_turn_62 rfl 5 rfl ?_
  refine nw_iconst (v := 2) C dX2_turn_63 (by decide) ?_
  refine nc_callVI (q0 := 12) (As := [.int p2, .int 2]) (rest := [.int (r52 - r6), .int (r40 - r17), .int (r28 - r6)]) C h (fun _ _ e => c_Table_get 1 (by decide) e hφ2) tw_841 kv_X9_get (cl_T 1 (by decide)) rfl ⟨Nat.le_of_ble_eq_true rfl, Nat.le_of_ble_eq_true rfl⟩ rfl dX2_turn_64 rfl (Nat.le_of_ble_eq_true rfl) hφ hφ2 (fun r64 σ64 ta h hφ hφ2 => ?_)
  refine nw_iload C dX2_turn_67 0 rfl ?_
  refine nw_isub C dX2_turn_69 ?_
  refine nc_callSI  (As := [.int (r28 - r6), .int (r40 - r17), .int (r52 - r6), .int (r64 - r17)]) (rest := []) C h (fun _ _ e => c_Ground_handOf e hφ2) tw_850 ks_X2_handOf ⟨Nat.le_of_ble_eq_true rfl, Nat.le_of_ble_eq_true rfl⟩ rfl dX2_turn_70 rfl (Nat.le_of_ble_eq_true rfl) hφ hφ2 (fun r70 σ70 ta h hφ hφ2 => ?_)
  exact nc_iret C hr dX2_turn_73 hφ hφ2 h
theorem dX2_foldsBack_0 : decode cX2_foldsBack 0 = .ok (.aload_n 0, 1) := by decide +kernel
theorem dX2_foldsBack_1 : decode cX2_foldsBack 1 = .ok (.getfield 16, 3) := by decide +kernel
theorem dX2_foldsBack_4 : decode cX2_foldsBack 4 = .ok (.iload_n 2, 1) := by decide +kernel
theorem dX2_foldsBack_5 : decode cX2_foldsBack 5 = .ok (.iconst 1, 1) := by decide +kernel
theorem dX2_foldsBack_6 : decode cX2_foldsBack 6 = .ok (.invokevirtual 31, 3) := by decide +kernel
theorem dX2_foldsBack_9 : decode cX2_foldsBack 9 = .ok (.istore 4, 2) := by decide +kernel
theorem dX2_foldsBack_11 : decode cX2_foldsBack 11 = .ok (.aload_n 0, 1) := by decide +kernel
theorem dX2_foldsBack_12 : decode cX2_foldsBack 12 = .ok (.getfield 16, 3) := by decide +kernel
theorem dX2_foldsBack_15 : decode cX2_foldsBack 15 = .ok (.iload_n 2, 1) := by decide +kernel
theorem dX2_foldsBack_16 : decode cX2_foldsBack 16 = .ok (.iconst 2, 1) := by decide +kernel
theorem dX2_foldsBack_17 : decode cX2_foldsBack 17 = .ok (.invokevirtual 31, 3) := by decide +kernel
theorem dX2_foldsBack_20 : decode cX2_foldsBack 20 = .ok (.istore 5, 2) := by decide +kernel
theorem dX2_foldsBack_22 : decode cX2_foldsBack 22 = .ok (.aload_n 0, 1) := by decide +kernel
theorem dX2_foldsBack_23 : decode cX2_foldsBack 23 = .ok (.getfield 16, 3) := by decide +kernel
theorem dX2_foldsBack_26 : decode cX2_foldsBack 26 = .ok (.iload_n 1, 1) := by decide +kernel
theorem dX2_foldsBack_27 : decode cX2_foldsBack 27 = .ok (.iconst 1, 1) := by decide +kernel
theorem dX2_foldsBack_28 : decode cX2_foldsBack 28 = .ok (.invokevirtual 31, 3) := by decide +kernel
theorem dX2_foldsBack_31 : decode cX2_foldsBack 31 = .ok (.iload 4, 2) := by decide +kernel
theorem dX2_foldsBack_33 : decode cX2_foldsBack 33 = .ok (.isub, 1) := by decide +kernel
theorem dX2_foldsBack_34 : decode cX2_foldsBack 34 = .ok (.aload_n 0, 1) := by decide +kernel
theorem dX2_foldsBack_35 : decode cX2_foldsBack 35 = .ok (.getfield 16, 3) := by decide +kernel
theorem dX2_foldsBack_38 : decode cX2_foldsBack 38 = .ok (.iload_n 3, 1) := by decide +kernel
theorem dX2_foldsBack_39 : decode cX2_foldsBack 39 = .ok (.iconst 1, 1) := by decide +kernel
theorem dX2_foldsBack_40 : decode cX2_foldsBack 40 = .ok (.invokevirtual 31, 3) := by decide +kernel
theorem dX2_foldsBack_43 : decode cX2_foldsBack 43 = .ok (.iload 4, 2) := by decide +kernel
theorem dX2_foldsBack_45 : decode cX2_foldsBack 45 = .ok (.isub, 1) := by decide +kernel
theorem dX2_foldsBack_46 : decode cX2_foldsBack 46 = .ok (.imul, 1) := by decide +kernel
theorem dX2_foldsBack_47 : decode cX2_foldsBack 47 = .ok (.aload_n 0, 1) := by decide +kernel
theorem dX2_foldsBack_48 : decode cX2_foldsBack 48 = .ok (.getfield 16, 3) := by decide +kernel
theorem dX2_foldsBack_51 : decode cX2_foldsBack 51 = .ok (.iload_n 1, 1) := by decide +kernel
theorem dX2_foldsBack_52 : decode cX2_foldsBack 52 = .ok (.iconst 2, 1) := by decide +kernel
theorem dX2_foldsBack_53 : decode cX2_foldsBack 53 = .ok (.invokevirtual 31, 3) := by decide +kernel
theorem dX2_foldsBack_56 : decode cX2_foldsBack 56 = .ok (.iload 5, 2) := by decide +kernel
theorem dX2_foldsBack_58 : decode cX2_foldsBack 58 = .ok (.isub, 1) := by decide +kernel
theorem dX2_foldsBack_59 : decode cX2_foldsBack 59 = .ok (.aload_n 0, 1) := by decide +kernel
theorem dX2_foldsBack_60 : decode cX2_foldsBack 60 = .ok (.getfield 16, 3) := by decide +kernel
theorem dX2_foldsBack_63 : decode cX2_foldsBack 63 = .ok (.iload_n 3, 1) := by decide +kernel
theorem dX2_foldsBack_64 : decode cX2_foldsBack 64 = .ok (.iconst 2, 1) := by decide +kernel
theorem dX2_foldsBack_65 : decode cX2_foldsBack 65 = .ok (.invokevirtual 31, 3) := by decide +kernel
theorem dX2_foldsBack_68 : decode cX2_foldsBack 68 = .ok (.iload 5, 2) := by decide +kernel
theorem dX2_foldsBack_70 : decode cX2_foldsBack 70 = .ok (.isub, 1) := by decide +kernel
theorem dX2_foldsBack_71 : decode cX2_foldsBack 71 = .ok (.imul, 1) := by decide +kernel
theorem dX2_foldsBack_72 : decode cX2_foldsBack 72 = .ok (.iadd, 1) := by decide +kernel
theorem dX2_foldsBack_73 : decode cX2_foldsBack 73 = .ok (.istore 6, 2) := by decide +kernel
theorem dX2_foldsBack_75 : decode cX2_foldsBack 75 = .ok (.iload 6, 2) := by decide +kernel
theorem dX2_foldsBack_77 : decode cX2_foldsBack 77 = .ok (.ifCond .le 17, 3) := by decide +kernel
theorem dX2_foldsBack_80 : decode cX2_foldsBack 80 = .ok (.aload_n 0, 1) := by decide +kernel
theorem dX2_foldsBack_81 : decode cX2_foldsBack 81 = .ok (.iload_n 1, 1) := by decide +kernel
theorem dX2_foldsBack_82 : decode cX2_foldsBack 82 = .ok (.iload_n 2, 1) := by decide +kernel
theorem dX2_foldsBack_83 : decode cX2_foldsBack 83 = .ok (.iload_n 3, 1) := by decide +kernel
theorem dX2_foldsBack_84 : decode cX2_foldsBack 84 = .ok (.invokevirtual 72, 3) := by decide +kernel
theorem dX2_foldsBack_87 : decode cX2_foldsBack 87 = .ok (.ifCond .ne 7, 3) := by decide +kernel
theorem dX2_foldsBack_90 : decode cX2_foldsBack 90 = .ok (.iconst 1, 1) := by decide +kernel
theorem dX2_foldsBack_91 : decode cX2_foldsBack 91 = .ok (.goto 4, 3) := by decide +kernel
theorem dX2_foldsBack_94 : decode cX2_foldsBack 94 = .ok (.iconst 0, 1) := by decide +kernel
theorem dX2_foldsBack_95 : decode cX2_foldsBack 95 = .ok (.ireturn, 1) := by decide +kernel
def f_Ground_foldsBack (p0 : Int32) (p1 : Int32) (p2 : Int32) (σ : CS) : Option (Int32 × CS) := bnd (f_Table_get 1 p1 1 σ) (fun r6 σ6 => bnd (f_Table_get 1 p1 2 σ6) (fun r17 σ17 => bnd (f_Table_get 1 p0 1 σ17) (fun r28 σ28 => bnd (f_Table_get 1 p2 1 σ28) (fun r40 σ40 => bnd (f_Table_get 1 p0 2 σ40) (fun r53 σ53 => bnd (f_Table_get 1 p2 2 σ53) (fun r65 σ65 => if (((r28 - r6) * (r40 - r6)) + ((r53 - r17) * (r65 - r17))) ≤ 0 then some (0, σ65) else bnd (f_Ground_turn p0 p1 p2 σ65) (fun r84 σ84 => if r84 = 0 then some (1, σ84) else some (0, σ84))))))))
set_option maxHeartbeats 4000000 in
set_option maxRecDepth 100000 in
theorem c_Ground_foldsBack {l : Launch} {g : EG} {ad ta : Nat → Nat} {Rr : va_W} {σ σ' : CS} {r : Int32} {p0 : Int32} {p1 : Int32} {p2 : Int32}  (h : f_Ground_foldsBack p0 p1 p2 σ = some (r, σ')) (hφ2 : ph σ.2.2 ≤ BB) : CtI l g yX2_foldsBack (.code yX2_foldsBack cX2_foldsBack 7 (some .boolean)) 2 49 ad ta Rr σ [.ref (ad 1), .int p0, .int p1, .int p2] r σ' := by
  refine Ct.of rfl (by decide) (Nat.le_of_ble_eq_true rfl) ?_
  intro p e s m args below meth c A C hr
  have hφ : ph σ.2.2 ≤ ph σ.2.2 := Nat.le_refl _
  refine nw_zero (ph σ.2.2) ?_
  show NI g p l e s m args below meth c A 2 49 7 ad Rr (ph σ.2.2) (r, σ') ta σ [(0, .ref (ad 1)), (1, .int p0), (2, .int p1), (3, .int p2)] 0 []
  unfold f_Ground_foldsBack at h
  refine nw_aload_n C dX2_foldsBack_0 rfl 0 rfl ?_
  refine nw_get (v := .ref (ad 12)) C in_X2 1 cl_Ground rfl 0 (by decide) tw_189 rfl rfl dX2_foldsBack_1 ?_
  refine nw_iload_n C dX2_foldsBack_4 rfl 2 rfl ?_
  refine nw_iconst (v := 1) C dX2_foldsBack_5 (by decide) ?_
  refine nc_callVI (q0 := 12) (As := [.int p1, .int 1]) (rest := []) C h (fun _ _ e => c_Table_get 1 (by decide) e hφ2) tw_841 kv_X9_get (cl_T 1 (by decide)) rfl ⟨Nat.le_of_ble_eq_true rfl, Nat.le_of_ble_eq_true rfl⟩ rfl dX2_foldsBack_6 rfl (Nat.le_of_ble_eq_true rfl) hφ hφ2 (fun r6 σ6 ta h hφ hφ2 => ?_)
  refine nw_istore (lv' := [(4, .int r6), (0, .ref (ad 1)), (1, .int p0), (2, .int p1), (3, .int p2)]) C dX2_foldsBack_9 (by decide) rfl ?_
  refine nw_aload_n C dX2_foldsBack_11 rfl 1 rfl ?_
  refine nw_get (v := .ref (ad 12)) C in_X2 1 cl_Ground rfl 0 (by decide) tw_189 rfl rfl dX2_foldsBack_12 ?_
  refine nw_iload_n C dX2_foldsBack_15 rfl 3 rfl ?_
  refine nw_iconst (v := 2) C dX2_foldsBack_16 (by decide) ?_
  refine nc_callVI (q0 := 12) (As := [.int p1, .int 2]) (rest := []) C h (fun _ _ e => c_Table_get 1 (by decide) e hφ2) tw_841 kv_X9_get (cl_T 1 (by decide)) rfl ⟨Nat.le_of_ble_eq_true rfl, Nat.le_of_ble_eq_true rfl⟩ rfl dX2_foldsBack_17 rfl (Nat.le_of_ble_eq_true rfl) hφ hφ2 (fun r17 σ17 ta h hφ hφ2 => ?_)
  refine nw_istore (lv' := [(5, .int r17), (4, .int r6), (0, .ref (ad 1)), (1, .int p0), (2, .int p1), (3, .int p2)]) C dX2_foldsBack_20 (by decide) rfl ?_
  refine nw_aload_n C dX2_foldsBack_22 rfl 2 rfl ?_
  refine nw_get (v := .ref (ad 12)) C in_X2 1 cl_Ground rfl 0 (by decide) tw_189 rfl rfl dX2_foldsBack_23 ?_
  refine nw_iload_n C dX2_foldsBack_26 rfl 3 rfl ?_
  refine nw_iconst (v := 1) C dX2_foldsBack_27 (by decide) ?_
  refine nc_callVI (q0 := 12) (As := [.int p0, .int 1]) (rest := []) C h (fun _ _ e => c_Table_get 1 (by decide) e hφ2) tw_841 kv_X9_get (cl_T 1 (by decide)) rfl ⟨Nat.le_of_ble_eq_true rfl, Nat.le_of_ble_eq_true rfl⟩ rfl dX2_foldsBack_28 rfl (Nat.le_of_ble_eq_true rfl) hφ hφ2 (fun r28 σ28 ta h hφ hφ2 => ?_)
  refine nw_iload C dX2_foldsBack_31 1 rfl ?_
  refine nw_isub C dX2_foldsBack_33 ?_
  refine nw_aload_n C dX2_foldsBack_34 rfl 2 rfl ?_
  refine nw_get (v := .ref (ad 12)) C in_X2 1 cl_Ground rfl 0 (by decide) tw_189 rfl rfl dX2_foldsBack_35 ?_
  refine nw_iload_n C dX2_foldsBack_38 rfl 5 rfl ?_
  refine nw_iconst (v := 1) C dX2_foldsBack_39 (by decide) ?_
  refine nc_callVI (q0 := 12) (As := [.int p2, .int 1]) (rest := [.int (r28 - r6)]) C h (fun _ _ e => c_Table_get 1 (by decide) e hφ2) tw_841 kv_X9_get (cl_T 1 (by decide)) rfl ⟨Nat.le_of_ble_eq_true rfl, Nat.le_of_ble_eq_true rfl⟩ rfl dX2_foldsBack_40 rfl (Nat.le_of_ble_eq_true rfl) hφ hφ2 (fun r40 σ40 ta h hφ hφ2 => ?_)
  refine nw_iload C dX2_foldsBack_43 1 rfl ?_
  refine nw_isub C dX2_foldsBack_45 ?_
  refine nw_imul C dX2_foldsBack_46 ?_
  refine nw_aload_n C dX2_foldsBack_47 rfl 2 rfl ?_
  refine nw_get (v := .ref (ad 12)) C in_X2 1 cl_Ground rfl 0 (by decide) tw_189 rfl rfl dX2_foldsBack_48 ?_
  refine nw_iload_n C dX2_foldsBack_51 rfl 3 rfl ?_
  refine nw_iconst (v := 2) C dX2_foldsBack_52 (by decide) ?_
  refine nc_callVI (q0 := 12) (As := [.int p0, .int 2]) (rest := [.int ((r28 - r6) * (r40 - r6))]) C h (fun _ _ e => c_Table_get 1 (by decide) e hφ2) tw_841 kv_X9_get (cl_T 1 (by decide)) rfl ⟨Nat.le_of_ble_eq_true rfl, Nat.le_of_ble_eq_true rfl⟩ rfl dX2_foldsBack_53 rfl (Nat.le_of_ble_eq_true rfl) hφ hφ2 (fun r53 σ53 ta h hφ hφ2 => ?_)
  refine nw_iload C dX2_foldsBack_56 0 rfl ?_
  refine nw_isub C dX2_foldsBack_58 ?_
  refine nw_aload_n C dX2_foldsBack_59 rfl 2 rfl ?_
  refine nw_get (v := .ref (ad 12)) C in_X2 1 cl_Ground rfl 0 (by decide) tw_189 rfl rfl dX2_foldsBack_60 ?_
  refine nw_iload_n C dX2_foldsBack_63 rfl 5 rfl ?_
  refine nw_iconst (v := 2) C dX2_foldsBack_64 (by decide) ?_
  refine nc_callVI (q0 := 12) (As := [.int p2, .int 2]) (rest := [.int (r53 - r17), .int ((r28 - r6) * (r40 - r6))]) C h (fun _ _ e => c_Table_get 1 (by decide) e hφ2) tw_841 kv_X9_get (cl_T 1 (by decide)) rfl ⟨Nat.le_of_ble_eq_true rfl, Nat.le_of_ble_eq_true rfl⟩ rfl dX2_foldsBack_65 rfl (Nat.le_of_ble_eq_true rfl) hφ hφ2 (fun r65 σ65 ta h hφ hφ2 => ?_)
  refine nw_iload C dX2_foldsBack_68 0 rfl ?_
  refine nw_isub C dX2_foldsBack_70 ?_
  refine nw_imul C dX2_foldsBack_71 ?_
  refine nw_iadd C dX2_foldsBack_72 ?_
  refine nw_istore (lv' := [(6, .int (((r28 - r6) * (r40 - r6)) + ((r53 - r17) * (r65 - r17)))), (5, .int r17), (4, .int r6), (0, .ref (ad 1)), (1, .int p0), (2, .int p1), (3, .int p2)]) C dX2_foldsBack_73 (by decide) rfl ?_
  refine nw_iload C dX2_foldsBack_75 0 rfl ?_
  refine nw_if_le (tgt := 94) C dX2_foldsBack_77 (by decide) h (fun _ h => ?_) (fun _ h => ?_)
  · refine nw_iconst (v := 0) C dX2_foldsBack_94 (by decide) ?_
    exact nc_zret C hr (Or.inl rfl) dX2_foldsBack_95 hφ hφ2 h
  · refine nw_aload_n C dX2_foldsBack_80 rfl 3 rfl ?_
    refine nw_iload_n C dX2_foldsBack_81 rfl 4 rfl ?_
    refine nw_iload_n C dX2_foldsBack_82 rfl 5 rfl ?_
    refine nw_iload_n C dX2_foldsBack_83 rfl 6 rfl ?_
    refine nc_callVI (q0 := 1) (As := [.int p0, .int p1, .int p2]) (rest := []) C h (fun _ _ e => c_Ground_turn e hφ2) tw_965 kv_X2_turn cl_Ground rfl ⟨Nat.le_of_ble_eq_true rfl, Nat.le_of_ble_eq_true rfl⟩ rfl dX2_foldsBack_84 rfl (Nat.le_of_ble_eq_true rfl) hφ hφ2 (fun r84 σ84 ta h hφ hφ2 => ?_)
    refine nw_if_ne (tgt := 94) C dX2_foldsBack_87 (by decide) h (fun _ h => ?_) (fun _ h => ?_)
    · refine nw_iconst (v := 1) C dX2_foldsBack_90 (by decide) ?_
      refine nw_goto (tgt := 95) C dX2_foldsBack_91 (by decide) ?_
      exact nc_zret C hr (Or.inr rfl) dX2_foldsBack_95 hφ hφ2 h
    · refine nw_iconst (v := 0) C dX2_foldsBack_94 (by decide) ?_
      exact nc_zret C hr (Or.inl rfl) dX2_foldsBack_95 hφ hφ2 h
theorem dX2_overlap_0 : decode cX2_overlap 0 = .ok (.iload_n 0, 1) := by decide +kernel
theorem dX2_overlap_1 : decode cX2_overlap 1 = .ok (.iload_n 1, 1) := by decide +kernel
theorem dX2_overlap_2 : decode cX2_overlap 2 = .ok (.invokestatic 79, 3) := by decide +kernel
theorem dX2_overlap_5 : decode cX2_overlap 5 = .ok (.iload_n 2, 1) := by decide +kernel
theorem dX2_overlap_6 : decode cX2_overlap 6 = .ok (.iload_n 3, 1) := by decide +kernel
theorem dX2_overlap_7 : decode cX2_overlap 7 = .ok (.invokestatic 84, 3) := by decide +kernel
theorem dX2_overlap_10 : decode cX2_overlap 10 = .ok (.if_icmp .lt 20, 3) := by decide +kernel
theorem dX2_overlap_13 : decode cX2_overlap 13 = .ok (.iload_n 2, 1) := by decide +kernel
theorem dX2_overlap_14 : decode cX2_overlap 14 = .ok (.iload_n 3, 1) := by decide +kernel
theorem dX2_overlap_15 : decode cX2_overlap 15 = .ok (.invokestatic 79, 3) := by decide +kernel
theorem dX2_overlap_18 : decode cX2_overlap 18 = .ok (.iload_n 0, 1) := by decide +kernel
theorem dX2_overlap_19 : decode cX2_overlap 19 = .ok (.iload_n 1, 1) := by decide +kernel
theorem dX2_overlap_20 : decode cX2_overlap 20 = .ok (.invokestatic 84, 3) := by decide +kernel
theorem dX2_overlap_23 : decode cX2_overlap 23 = .ok (.if_icmp .lt 7, 3) := by decide +kernel
theorem dX2_overlap_26 : decode cX2_overlap 26 = .ok (.iconst 1, 1) := by decide +kernel
theorem dX2_overlap_27 : decode cX2_overlap 27 = .ok (.goto 4, 3) := by decide +kernel
theorem dX2_overlap_30 : decode cX2_overlap 30 = .ok (.iconst 0, 1) := by decide +kernel
theorem dX2_overlap_31 : decode cX2_overlap 31 = .ok (.ireturn, 1) := by decide +kernel
def f_Ground_overlap (p0 : Int32) (p1 : Int32) (p2 : Int32) (p3 : Int32) (σ : CS) : Option (Int32 × CS) := if (if p0 < p1 then p1 else p0) < (if p3 < p2 then p3 else p2) then some (0, σ) else if (if p2 < p3 then p3 else p2) < (if p1 < p0 then p1 else p0) then some (0, σ) else some (1, σ)
set_option maxHeartbeats 4000000 in
set_option maxRecDepth 100000 in
theorem c_Ground_overlap {l : Launch} {g : EG} {ad ta : Nat → Nat} {Rr : va_W} {σ σ' : CS} {r : Int32} {p0 : Int32} {p1 : Int32} {p2 : Int32} {p3 : Int32}  (h : f_Ground_overlap p0 p1 p2 p3 σ = some (r, σ')) (hφ2 : ph σ.2.2 ≤ BB) : CtI l g yX2_overlap (.code yX2_overlap cX2_overlap 4 (some .boolean)) 1 40 ad ta Rr σ [.int p0, .int p1, .int p2, .int p3] r σ' := by
  refine Ct.of rfl (by decide) (Nat.le_of_ble_eq_true rfl) ?_
  intro p e s m args below meth c A C hr
  have hφ : ph σ.2.2 ≤ ph σ.2.2 := Nat.le_refl _
  refine nw_zero (ph σ.2.2) ?_
  show NI g p l e s m args below meth c A 1 40 4 ad Rr (ph σ.2.2) (r, σ') ta σ [(0, .int p0), (1, .int p1), (2, .int p2), (3, .int p3)] 0 []
  unfold f_Ground_overlap at h
  refine nw_iload_n C dX2_overlap_0 rfl 0 rfl ?_
  refine nw_iload_n C dX2_overlap_1 rfl 1 rfl ?_
  refine nw_mmax C tw_976 tw_165 tw_125 tm_max (Nat.le_of_ble_eq_true rfl) (Nat.le_of_ble_eq_true rfl) (Nat.sub_le_sub_right hφ2 _) (Nat.mul_le_mul_left 2 (Nat.sub_le_sub_right hφ2 _)) dX2_overlap_2 ?_
  refine nw_iload_n C dX2_overlap_5 rfl 2 rfl ?_
  refine nw_iload_n C dX2_overlap_6 rfl 3 rfl ?_
  refine nw_mmin C tw_977 tw_367 tw_125 tm_min (Nat.le_of_ble_eq_true rfl) (Nat.le_of_ble_eq_true rfl) (Nat.sub_le_sub_right hφ2 _) (Nat.mul_le_mul_left 2 (Nat.sub_le_sub_right hφ2 _)) dX2_overlap_7 ?_
  refine nw_icmp_lt (tgt := 30) C dX2_overlap_10 (by decide) h (fun _ h => ?_) (fun _ h => ?_)
  · refine nw_iconst (v := 0) C dX2_overlap_30 (by decide) ?_
    exact nc_zret C hr (Or.inl rfl) dX2_overlap_31 hφ hφ2 h
  · refine nw_iload_n C dX2_overlap_13 rfl 2 rfl ?_
    refine nw_iload_n C dX2_overlap_14 rfl 3 rfl ?_
    refine nw_mmax C tw_976 tw_165 tw_125 tm_max (Nat.le_of_ble_eq_true rfl) (Nat.le_of_ble_eq_true rfl) (Nat.sub_le_sub_right hφ2 _) (Nat.mul_le_mul_left 2 (Nat.sub_le_sub_right hφ2 _)) dX2_overlap_15 ?_
    refine nw_iload_n C dX2_overlap_18 rfl 0 rfl ?_
    refine nw_iload_n C dX2_overlap_19 rfl 1 rfl ?_
    refine nw_mmin C tw_977 tw_367 tw_125 tm_min (Nat.le_of_ble_eq_true rfl) (Nat.le_of_ble_eq_true rfl) (Nat.sub_le_sub_right hφ2 _) (Nat.mul_le_mul_left 2 (Nat.sub_le_sub_right hφ2 _)) dX2_overlap_20 ?_
    refine nw_icmp_lt (tgt := 30) C dX2_overlap_23 (by decide) h (fun _ h => ?_) (fun _ h => ?_)
    · refine nw_iconst (v := 0) C dX2_overlap_30 (by decide) ?_
      exact nc_zret C hr (Or.inl rfl) dX2_overlap_31 hφ hφ2 h
    · refine nw_iconst (v := 1) C dX2_overlap_26 (by decide) ?_
      refine nw_goto (tgt := 31) C dX2_overlap_27 (by decide) ?_
      exact nc_zret C hr (Or.inr rfl) dX2_overlap_31 hφ hφ2 h
theorem dX2_touch_0 : decode cX2_touch 0 = .ok (.aload_n 0, 1) := by decide +kernel
theorem dX2_touch_1 : decode cX2_touch 1 = .ok (.getfield 16, 3) := by decide +kernel
theorem dX2_touch_4 : decode cX2_touch 4 = .ok (.iload_n 1, 1) := by decide +kernel
theorem dX2_touch_5 : decode cX2_touch 5 = .ok (.iconst 1, 1) := by decide +kernel
theorem dX2_touch_6 : decode cX2_touch 6 = .ok (.invokevirtual 31, 3) := by decide +kernel
theorem dX2_touch_9 : decode cX2_touch 9 = .ok (.aload_n 0, 1) := by decide +kernel
theorem dX2_touch_10 : decode cX2_touch 10 = .ok (.getfield 16, 3) := by decide +kernel
theorem dX2_touch_13 : decode cX2_touch 13 = .ok (.iload_n 2, 1) := by decide +kernel
theorem dX2_touch_14 : decode cX2_touch 14 = .ok (.iconst 1, 1) := by decide +kernel
theorem dX2_touch_15 : decode cX2_touch 15 = .ok (.invokevirtual 31, 3) := by decide +kernel
theorem dX2_touch_18 : decode cX2_touch 18 = .ok (.aload_n 0, 1) := by decide +kernel
theorem dX2_touch_19 : decode cX2_touch 19 = .ok (.getfield 16, 3) := by decide +kernel
theorem dX2_touch_22 : decode cX2_touch 22 = .ok (.iload_n 3, 1) := by decide +kernel
theorem dX2_touch_23 : decode cX2_touch 23 = .ok (.iconst 1, 1) := by decide +kernel
theorem dX2_touch_24 : decode cX2_touch 24 = .ok (.invokevirtual 31, 3) := by decide +kernel
theorem dX2_touch_27 : decode cX2_touch 27 = .ok (.aload_n 0, 1) := by decide +kernel
theorem dX2_touch_28 : decode cX2_touch 28 = .ok (.getfield 16, 3) := by decide +kernel
theorem dX2_touch_31 : decode cX2_touch 31 = .ok (.iload 4, 2) := by decide +kernel
theorem dX2_touch_33 : decode cX2_touch 33 = .ok (.iconst 1, 1) := by decide +kernel
theorem dX2_touch_34 : decode cX2_touch 34 = .ok (.invokevirtual 31, 3) := by decide +kernel
theorem dX2_touch_37 : decode cX2_touch 37 = .ok (.invokestatic 76, 3) := by decide +kernel
theorem dX2_touch_40 : decode cX2_touch 40 = .ok (.ifCond .eq 89, 3) := by decide +kernel
theorem dX2_touch_43 : decode cX2_touch 43 = .ok (.aload_n 0, 1) := by decide +kernel
theorem dX2_touch_44 : decode cX2_touch 44 = .ok (.getfield 16, 3) := by decide +kernel
theorem dX2_touch_47 : decode cX2_touch 47 = .ok (.iload_n 1, 1) := by decide +kernel
theorem dX2_touch_48 : decode cX2_touch 48 = .ok (.iconst 2, 1) := by decide +kernel
theorem dX2_touch_49 : decode cX2_touch 49 = .ok (.invokevirtual 31, 3) := by decide +kernel
theorem dX2_touch_52 : decode cX2_touch 52 = .ok (.aload_n 0, 1) := by decide +kernel
theorem dX2_touch_53 : decode cX2_touch 53 = .ok (.getfield 16, 3) := by decide +kernel
theorem dX2_touch_56 : decode cX2_touch 56 = .ok (.iload_n 2, 1) := by decide +kernel
theorem dX2_touch_57 : decode cX2_touch 57 = .ok (.iconst 2, 1) := by decide +kernel
theorem dX2_touch_58 : decode cX2_touch 58 = .ok (.invokevirtual 31, 3) := by decide +kernel
theorem dX2_touch_61 : decode cX2_touch 61 = .ok (.aload_n 0, 1) := by decide +kernel
theorem dX2_touch_62 : decode cX2_touch 62 = .ok (.getfield 16, 3) := by decide +kernel
theorem dX2_touch_65 : decode cX2_touch 65 = .ok (.iload_n 3, 1) := by decide +kernel
theorem dX2_touch_66 : decode cX2_touch 66 = .ok (.iconst 2, 1) := by decide +kernel
theorem dX2_touch_67 : decode cX2_touch 67 = .ok (.invokevirtual 31, 3) := by decide +kernel
theorem dX2_touch_70 : decode cX2_touch 70 = .ok (.aload_n 0, 1) := by decide +kernel
theorem dX2_touch_71 : decode cX2_touch 71 = .ok (.getfield 16, 3) := by decide +kernel
theorem dX2_touch_74 : decode cX2_touch 74 = .ok (.iload 4, 2) := by decide +kernel
theorem dX2_touch_76 : decode cX2_touch 76 = .ok (.iconst 2, 1) := by decide +kernel
theorem dX2_touch_77 : decode cX2_touch 77 = .ok (.invokevirtual 31, 3) := by decide +kernel
theorem dX2_touch_80 : decode cX2_touch 80 = .ok (.invokestatic 76, 3) := by decide +kernel
theorem dX2_touch_83 : decode cX2_touch 83 = .ok (.ifCond .eq 46, 3) := by decide +kernel
theorem dX2_touch_86 : decode cX2_touch 86 = .ok (.aload_n 0, 1) := by decide +kernel
theorem dX2_touch_87 : decode cX2_touch 87 = .ok (.iload_n 1, 1) := by decide +kernel
theorem dX2_touch_88 : decode cX2_touch 88 = .ok (.iload_n 2, 1) := by decide +kernel
theorem dX2_touch_89 : decode cX2_touch 89 = .ok (.iload_n 3, 1) := by decide +kernel
theorem dX2_touch_90 : decode cX2_touch 90 = .ok (.invokevirtual 72, 3) := by decide +kernel
theorem dX2_touch_93 : decode cX2_touch 93 = .ok (.aload_n 0, 1) := by decide +kernel
theorem dX2_touch_94 : decode cX2_touch 94 = .ok (.iload_n 1, 1) := by decide +kernel
theorem dX2_touch_95 : decode cX2_touch 95 = .ok (.iload_n 2, 1) := by decide +kernel
theorem dX2_touch_96 : decode cX2_touch 96 = .ok (.iload 4, 2) := by decide +kernel
theorem dX2_touch_98 : decode cX2_touch 98 = .ok (.invokevirtual 72, 3) := by decide +kernel
theorem dX2_touch_101 : decode cX2_touch 101 = .ok (.imul, 1) := by decide +kernel
theorem dX2_touch_102 : decode cX2_touch 102 = .ok (.ifCond .gt 27, 3) := by decide +kernel
theorem dX2_touch_105 : decode cX2_touch 105 = .ok (.aload_n 0, 1) := by decide +kernel
theorem dX2_touch_106 : decode cX2_touch 106 = .ok (.iload_n 3, 1) := by decide +kernel
theorem dX2_touch_107 : decode cX2_touch 107 = .ok (.iload 4, 2) := by decide +kernel
theorem dX2_touch_109 : decode cX2_touch 109 = .ok (.iload_n 1, 1) := by decide +kernel
theorem dX2_touch_110 : decode cX2_touch 110 = .ok (.invokevirtual 72, 3) := by decide +kernel
theorem dX2_touch_113 : decode cX2_touch 113 = .ok (.aload_n 0, 1) := by decide +kernel
theorem dX2_touch_114 : decode cX2_touch 114 = .ok (.iload_n 3, 1) := by decide +kernel
theorem dX2_touch_115 : decode cX2_touch 115 = .ok (.iload 4, 2) := by decide +kernel
theorem dX2_touch_117 : decode cX2_touch 117 = .ok (.iload_n 2, 1) := by decide +kernel
theorem dX2_touch_118 : decode cX2_touch 118 = .ok (.invokevirtual 72, 3) := by decide +kernel
theorem dX2_touch_121 : decode cX2_touch 121 = .ok (.imul, 1) := by decide +kernel
theorem dX2_touch_122 : decode cX2_touch 122 = .ok (.ifCond .gt 7, 3) := by decide +kernel
theorem dX2_touch_125 : decode cX2_touch 125 = .ok (.iconst 1, 1) := by decide +kernel
theorem dX2_touch_126 : decode cX2_touch 126 = .ok (.goto 4, 3) := by decide +kernel
theorem dX2_touch_129 : decode cX2_touch 129 = .ok (.iconst 0, 1) := by decide +kernel
theorem dX2_touch_130 : decode cX2_touch 130 = .ok (.ireturn, 1) := by decide +kernel
def f_Ground_touch (p0 : Int32) (p1 : Int32) (p2 : Int32) (p3 : Int32) (σ : CS) : Option (Int32 × CS) := bnd (f_Table_get 1 p0 1 σ) (fun r6 σ6 => bnd (f_Table_get 1 p1 1 σ6) (fun r15 σ15 => bnd (f_Table_get 1 p2 1 σ15) (fun r24 σ24 => bnd (f_Table_get 1 p3 1 σ24) (fun r34 σ34 => bnd (f_Ground_overlap r6 r15 r24 r34 σ34) (fun r37 σ37 => if r37 = 0 then some (0, σ37) else bnd (f_Table_get 1 p0 2 σ37) (fun r49 σ49 => bnd (f_Table_get 1 p1 2 σ49) (fun r58 σ58 => bnd (f_Table_get 1 p2 2 σ58) (fun r67 σ67 => bnd (f_Table_get 1 p3 2 σ67) (fun r77 σ77 => bnd (f_Ground_overlap r49 r58 r67 r77 σ77) (fun r80 σ80 => if r80 = 0 then some (0, σ80) else bnd (f_Ground_turn p0 p1 p2 σ80) (fun r90 σ90 => bnd (f_Ground_turn p0 p1 p3 σ90) (fun r98 σ98 => if 0 < (r90 * r98) then some (0, σ98) else bnd (f_Ground_turn p2 p3 p0 σ98) (fun r110 σ110 => bnd (f_Ground_turn p2 p3 p1 σ110) (fun r118 σ118 => if 0 < (r110 * r118) then some (0, σ118) else some (1, σ118)))))))))))))))
set_option maxHeartbeats 4000000 in
set_option maxRecDepth 100000 in
theorem c_Ground_touch {l : Launch} {g : EG} {ad ta : Nat → Nat} {Rr : va_W} {σ σ' : CS} {r : Int32} {p0 : Int32} {p1 : Int32} {p2 : Int32} {p3 : Int32}  (h : f_Ground_touch p0 p1 p2 p3 σ = some (r, σ')) (hφ2 : ph σ.2.2 ≤ BB) : CtI l g yX2_touch (.code yX2_touch cX2_touch 5 (some .boolean)) 2 63 ad ta Rr σ [.ref (ad 1), .int p0, .int p1, .int p2, .int p3] r σ' := by
  refine Ct.of rfl (by decide) (Nat.le_of_ble_eq_true rfl) ?_
  intro p e s m args below meth c A C hr
  have hφ : ph σ.2.2 ≤ ph σ.2.2 := Nat.le_refl _
  refine nw_zero (ph σ.2.2) ?_
  show NI g p l e s m args below meth c A 2 63 5 ad Rr (ph σ.2.2) (r, σ') ta σ [(0, .ref (ad 1)), (1, .int p0), (2, .int p1), (3, .int p2), (4, .int p3)] 0 []
  unfold f_Ground_touch at h
  refine nw_aload_n C dX2_touch_0 rfl 0 rfl ?_
  refine nw_get (v := .ref (ad 12)) C in_X2 1 cl_Ground rfl 0 (by decide) tw_189 rfl rfl dX2_touch_1 ?_
  refine nw_iload_n C dX2_touch_4 rfl 1 rfl ?_
  refine nw_iconst (v := 1) C dX2_touch_5 (by decide) ?_
  refine nc_callVI (q0 := 12) (As := [.int p0, .int 1]) (rest := []) C h (fun _ _ e => c_Table_get 1 (by decide) e hφ2) tw_841 kv_X9_get (cl_T 1 (by decide)) rfl ⟨Nat.le_of_ble_eq_true rfl, Nat.le_of_ble_eq_true rfl⟩ rfl dX2_touch_6 rfl (Nat.le_of_ble_eq_true rfl) hφ hφ2 (fun r6 σ6 ta h hφ hφ2 => ?_)
  refine nw_aload_n C dX2_touch_9 rfl 0 rfl ?_
  refine nw_get (v := .ref (ad 12)) C in_X2 1 cl_Ground rfl 0 (by decide) tw_189 rfl rfl dX2_touch_10 ?_
  refine nw_iload_n C dX2_touch_13 rfl 2 rfl ?_
  refine nw_iconst (v := 1) C dX2_touch_14 (by decide) ?_
  refine nc_callVI (q0 := 12) (As := [.int p1, .int 1]) (rest := [.int r6]) C h (fun _ _ e => c_Table_get 1 (by decide) e hφ2) tw_841 kv_X9_get (cl_T 1 (by decide)) rfl ⟨Nat.le_of_ble_eq_true rfl, Nat.le_of_ble_eq_true rfl⟩ rfl dX2_touch_15 rfl (Nat.le_of_ble_eq_true rfl) hφ hφ2 (fun r15 σ15 ta h hφ hφ2 => ?_)
  refine nw_aload_n C dX2_touch_18 rfl 0 rfl ?_
  refine nw_get (v := .ref (ad 12)) C in_X2 1 cl_Ground rfl 0 (by decide) tw_189 rfl rfl dX2_touch_19 ?_
  refine nw_iload_n C dX2_touch_22 rfl 3 rfl ?_
  refine nw_iconst (v := 1) C dX2_touch_23 (by decide) ?_
  refine nc_callVI (q0 := 12) (As := [.int p2, .int 1]) (rest := [.int r15, .int r6]) C h (fun _ _ e => c_Table_get 1 (by decide) e hφ2) tw_841 kv_X9_get (cl_T 1 (by decide)) rfl ⟨Nat.le_of_ble_eq_true rfl, Nat.le_of_ble_eq_true rfl⟩ rfl dX2_touch_24 rfl (Nat.le_of_ble_eq_true rfl) hφ hφ2 (fun r24 σ24 ta h hφ hφ2 => ?_)
  refine nw_aload_n C dX2_touch_27 rfl 0 rfl ?_
  refine nw_get (v := .ref (ad 12)) C in_X2 1 cl_Ground rfl 0 (by decide) tw_189 rfl rfl dX2_touch_28 ?_
  refine nw_iload C dX2_touch_31 4 rfl ?_
  refine nw_iconst (v := 1) C dX2_touch_33 (by decide) ?_
  refine nc_callVI (q0 := 12) (As := [.int p3, .int 1]) (rest := [.int r24, .int r15, .int r6]) C h (fun _ _ e => c_Table_get 1 (by decide) e hφ2) tw_841 kv_X9_get (cl_T 1 (by decide)) rfl ⟨Nat.le_of_ble_eq_true rfl, Nat.le_of_ble_eq_true rfl⟩ rfl dX2_touch_34 rfl (Nat.le_of_ble_eq_true rfl) hφ hφ2 (fun r34 σ34 ta h hφ hφ2 => ?_)
  refine nc_callSI  (As := [.int r6, .int r15, .int r24, .int r34]) (rest := []) C h (fun _ _ e => c_Ground_overlap e hφ2) tw_973 ks_X2_overlap ⟨Nat.le_of_ble_eq_true rfl, Nat.le_of_ble_eq_true rfl⟩ rfl dX2_touch_37 rfl (Nat.le_of_ble_eq_true rfl) hφ hφ2 (fun r37 σ37 ta h hφ hφ2 => ?_)
  refine nw_if_eq (tgt := 129) C dX2_touch_40 (by decide) h (fun _ h => ?_) (fun _ h => ?_)
  · refine nw_iconst (v := 0) C dX2_touch_129 (by decide) ?_
    exact nc_zret C hr (Or.inl rfl) dX2_touch_130 hφ hφ2 h
  · refine nw_aload_n C dX2_touch_43 rfl 0 rfl ?_
    refine nw_get (v := .ref (ad 12)) C in_X2 1 cl_Ground rfl 0 (by decide) tw_189 rfl rfl dX2_touch_44 ?_
    refine nw_iload_n C dX2_touch_47 rfl 1 rfl ?_
    refine nw_iconst (v := 2) C dX2_touch_48 (by decide) ?_
    refine nc_callVI (q0 := 12) (As := [.int p0, .int 2]) (rest := []) C h (fun _ _ e => c_Table_get 1 (by decide) e hφ2) tw_841 kv_X9_get (cl_T 1 (by decide)) rfl ⟨Nat.le_of_ble_eq_true rfl, Nat.le_of_ble_eq_true rfl⟩ rfl dX2_touch_49 rfl (Nat.le_of_ble_eq_true rfl) hφ hφ2 (fun r49 σ49 ta h hφ hφ2 => ?_)
    refine nw_aload_n C dX2_touch_52 rfl 0 rfl ?_
    refine nw_get (v := .ref (ad 12)) C in_X2 1 cl_Ground rfl 0 (by decide) tw_189 rfl rfl dX2_touch_53 ?_
    refine nw_iload_n C dX2_touch_56 rfl 2 rfl ?_
    refine nw_iconst (v := 2) C dX2_touch_57 (by decide) ?_
    refine nc_callVI (q0 := 12) (As := [.int p1, .int 2]) (rest := [.int r49]) C h (fun _ _ e => c_Table_get 1 (by decide) e hφ2) tw_841 kv_X9_get (cl_T 1 (by decide)) rfl ⟨Nat.le_of_ble_eq_true rfl, Nat.le_of_ble_eq_true rfl⟩ rfl dX2_touch_58 rfl (Nat.le_of_ble_eq_true rfl) hφ hφ2 (fun r58 σ58 ta h hφ hφ2 => ?_)
    refine nw_aload_n C dX2_touch_61 rfl 0 rfl ?_
    refine nw_get (v := .ref (ad 12)) C in_X2 1 cl_Ground rfl 0 (by decide) tw_189 rfl rfl dX2_touch_62 ?_
    refine nw_iload_n C dX2_touch_65 rfl 3 rfl ?_
    refine nw_iconst (v := 2) C dX2_touch_66 (by decide) ?_
    refine nc_callVI (q0 := 12) (As := [.int p2, .int 2]) (rest := [.int r58, .int r49]) C h (fun _ _ e => c_Table_get 1 (by decide) e hφ2) tw_841 kv_X9_get (cl_T 1 (by decide)) rfl ⟨Nat.le_of_ble_eq_true rfl, Nat.le_of_ble_eq_true rfl⟩ rfl dX2_touch_67 rfl (Nat.le_of_ble_eq_true rfl) hφ hφ2 (fun r67 σ67 ta h hφ hφ2 => ?_)
    refine nw_aload_n C dX2_touch_70 rfl 0 rfl ?_
    refine nw_get (v := .ref (ad 12)) C in_X2 1 cl_Ground rfl 0 (by decide) tw_189 rfl rfl dX2_touch_71 ?_
    refine nw_iload C dX2_touch_74 4 rfl ?_
    refine nw_iconst (v := 2) C dX2_touch_76 (by decide) ?_
    refine nc_callVI (q0 := 12) (As := [.int p3, .int 2]) (rest := [.int r67, .int r58, .int r49]) C h (fun _ _ e => c_Table_get 1 (by decide) e hφ2) tw_841 kv_X9_get (cl_T 1 (by decide)) rfl ⟨Nat.le_of_ble_eq_true rfl, Nat.le_of_ble_eq_true rfl⟩ rfl dX2_touch_77 rfl (Nat.le_of_ble_eq_true rfl) hφ hφ2 (fun r77 σ77 ta h hφ hφ2 => ?_)
    refine nc_callSI  (As := [.int r49, .int r58, .int r67, .int r77]) (rest := []) C h (fun _ _ e => c_Ground_overlap e hφ2) tw_973 ks_X2_overlap ⟨Nat.le_of_ble_eq_true rfl, Nat.le_of_ble_eq_true rfl⟩ rfl dX2_touch_80 rfl (Nat.le_of_ble_eq_true rfl) hφ hφ2 (fun r80 σ80 ta h hφ hφ2 => ?_)
    refine nw_if_eq (tgt := 129) C dX2_touch_83 (by decide) h (fun _ h => ?_) (fun _ h => ?_)
    · refine nw_iconst (v := 0) C dX2_touch_129 (by decide) ?_
      exact nc_zret C hr (Or.inl rfl) dX2_touch_130 hφ hφ2 h
    · refine nw_aload_n C dX2_touch_86 rfl 0 rfl ?_
      refine nw_iload_n C dX2_touch_87 rfl 1 rfl ?_
      refine nw_iload_n C dX2_touch_88 rfl 2 rfl ?_
      refine nw_iload_n C dX2_touch_89 rfl 3 rfl ?_
      refine nc_callVI (q0 := 1) (As := [.int p0, .int p1, .int p2]) (rest := []) C h (fun _ _ e => c_Ground_turn e hφ2) tw_965 kv_X2_turn cl_Ground rfl ⟨Nat.le_of_ble_eq_true rfl, Nat.le_of_ble_eq_true rfl⟩ rfl dX2_touch_90 rfl (Nat.le_of_ble_eq_true rfl) hφ hφ2 (fun r90 σ90 ta h hφ hφ2 => ?_)
      refine nw_aload_n C dX2_touch_93 rfl 0 rfl ?_
      refine nw_iload_n C dX2_touch_94 rfl 1 rfl ?_
      refine nw_iload_n C dX2_touch_95 rfl 2 rfl ?_
      refine nw_iload C dX2_touch_96 4 rfl ?_
      refine nc_callVI (q0 := 1) (As := [.int p0, .int p1, .int p3]) (rest := [.int r90]) C h (fun _ _ e => c_Ground_turn e hφ2) tw_965 kv_X2_turn cl_Ground rfl ⟨Nat.le_of_ble_eq_true rfl, Nat.le_of_ble_eq_true rfl⟩ rfl dX2_touch_98 rfl (Nat.le_of_ble_eq_true rfl) hφ hφ2 (fun r98 σ98 ta h hφ hφ2 => ?_)
      refine nw_imul C dX2_touch_101 ?_
      refine nw_if_gt (tgt := 129) C dX2_touch_102 (by decide) h (fun _ h => ?_) (fun _ h => ?_)
      · refine nw_iconst (v := 0) C dX2_touch_129 (by decide) ?_
        exact nc_zret C hr (Or.inl rfl) dX2_touch_130 hφ hφ2 h
      · refine nw_aload_n C dX2_touch_105 rfl 0 rfl ?_
        refine nw_iload_n C dX2_touch_106 rfl 3 rfl ?_
        refine nw_iload C dX2_touch_107 4 rfl ?_
        refine nw_iload_n C dX2_touch_109 rfl 1 rfl ?_
        refine nc_callVI (q0 := 1) (As := [.int p2, .int p3, .int p0]) (rest := []) C h (fun _ _ e => c_Ground_turn e hφ2) tw_965 kv_X2_turn cl_Ground rfl ⟨Nat.le_of_ble_eq_true rfl, Nat.le_of_ble_eq_true rfl⟩ rfl dX2_touch_110 rfl (Nat.le_of_ble_eq_true rfl) hφ hφ2 (fun r110 σ110 ta h hφ hφ2 => ?_)
        refine nw_aload_n C dX2_touch_113 rfl 0 rfl ?_
        refine nw_iload_n C dX2_touch_114 rfl 3 rfl ?_
        refine nw_iload C dX2_touch_115 4 rfl ?_
        refine nw_iload_n C dX2_touch_117 rfl 2 rfl ?_
        refine nc_callVI (q0 := 1) (As := [.int p2, .int p3, .int p1]) (rest := [.int r110]) C h (fun _ _ e => c_Ground_turn e hφ2) tw_965 kv_X2_turn cl_Ground rfl ⟨Nat.le_of_ble_eq_true rfl, Nat.le_of_ble_eq_true rfl⟩ rfl dX2_touch_118 rfl (Nat.le_of_ble_eq_true rfl) hφ hφ2 (fun r118 σ118 ta h hφ hφ2 => ?_)
        refine nw_imul C dX2_touch_121 ?_
        refine nw_if_gt (tgt := 129) C dX2_touch_122 (by decide) h (fun _ h => ?_) (fun _ h => ?_)
        · refine nw_iconst (v := 0) C dX2_touch_129 (by decide) ?_
          exact nc_zret C hr (Or.inl rfl) dX2_touch_130 hφ hφ2 h
        · refine nw_iconst (v := 1) C dX2_touch_125 (by decide) ?_
          refine nw_goto (tgt := 130) C dX2_touch_126 (by decide) ?_
          exact nc_zret C hr (Or.inr rfl) dX2_touch_130 hφ hφ2 h
theorem dX2_follows_0 : decode cX2_follows 0 = .ok (.iload_n 2, 1) := by decide +kernel
theorem dX2_follows_1 : decode cX2_follows 1 = .ok (.ifCond .lt 9, 3) := by decide +kernel
theorem dX2_follows_4 : decode cX2_follows 4 = .ok (.iload_n 2, 1) := by decide +kernel
theorem dX2_follows_5 : decode cX2_follows 5 = .ok (.aload_n 1, 1) := by decide +kernel
theorem dX2_follows_6 : decode cX2_follows 6 = .ok (.arraylength, 1) := by decide +kernel
theorem dX2_follows_7 : decode cX2_follows 7 = .ok (.if_icmp .lt 5, 3) := by decide +kernel
theorem dX2_follows_10 : decode cX2_follows 10 = .ok (.iconst 0, 1) := by decide +kernel
theorem dX2_follows_11 : decode cX2_follows 11 = .ok (.ireturn, 1) := by decide +kernel
theorem dX2_follows_12 : decode cX2_follows 12 = .ok (.iconst 0, 1) := by decide +kernel
theorem dX2_follows_13 : decode cX2_follows 13 = .ok (.istore_n 3, 1) := by decide +kernel
theorem dX2_follows_14 : decode cX2_follows 14 = .ok (.iload_n 3, 1) := by decide +kernel
theorem dX2_follows_15 : decode cX2_follows 15 = .ok (.iload_n 2, 1) := by decide +kernel
theorem dX2_follows_16 : decode cX2_follows 16 = .ok (.if_icmp .ge 24, 3) := by decide +kernel
theorem dX2_follows_19 : decode cX2_follows 19 = .ok (.aload_n 0, 1) := by decide +kernel
theorem dX2_follows_20 : decode cX2_follows 20 = .ok (.aload_n 1, 1) := by decide +kernel
theorem dX2_follows_21 : decode cX2_follows 21 = .ok (.iload_n 3, 1) := by decide +kernel
theorem dX2_follows_22 : decode cX2_follows 22 = .ok (.iaload, 1) := by decide +kernel
theorem dX2_follows_23 : decode cX2_follows 23 = .ok (.aload_n 1, 1) := by decide +kernel
theorem dX2_follows_24 : decode cX2_follows 24 = .ok (.iload_n 2, 1) := by decide +kernel
theorem dX2_follows_25 : decode cX2_follows 25 = .ok (.iaload, 1) := by decide +kernel
theorem dX2_follows_26 : decode cX2_follows 26 = .ok (.invokevirtual 60, 3) := by decide +kernel
theorem dX2_follows_29 : decode cX2_follows 29 = .ok (.ifCond .eq 5, 3) := by decide +kernel
theorem dX2_follows_32 : decode cX2_follows 32 = .ok (.iconst 0, 1) := by decide +kernel
theorem dX2_follows_33 : decode cX2_follows 33 = .ok (.ireturn, 1) := by decide +kernel
theorem dX2_follows_34 : decode cX2_follows 34 = .ok (.iinc 3 1, 3) := by decide +kernel
theorem dX2_follows_37 : decode cX2_follows 37 = .ok (.goto (-23), 3) := by decide +kernel
theorem dX2_follows_40 : decode cX2_follows 40 = .ok (.iload_n 2, 1) := by decide +kernel
theorem dX2_follows_41 : decode cX2_follows 41 = .ok (.iconst 2, 1) := by decide +kernel
theorem dX2_follows_42 : decode cX2_follows 42 = .ok (.if_icmp .lt 25, 3) := by decide +kernel
theorem dX2_follows_45 : decode cX2_follows 45 = .ok (.aload_n 0, 1) := by decide +kernel
theorem dX2_follows_46 : decode cX2_follows 46 = .ok (.aload_n 1, 1) := by decide +kernel
theorem dX2_follows_47 : decode cX2_follows 47 = .ok (.iload_n 2, 1) := by decide +kernel
theorem dX2_follows_48 : decode cX2_follows 48 = .ok (.iconst 2, 1) := by decide +kernel
theorem dX2_follows_49 : decode cX2_follows 49 = .ok (.isub, 1) := by decide +kernel
theorem dX2_follows_50 : decode cX2_follows 50 = .ok (.iaload, 1) := by decide +kernel
theorem dX2_follows_51 : decode cX2_follows 51 = .ok (.aload_n 1, 1) := by decide +kernel
theorem dX2_follows_52 : decode cX2_follows 52 = .ok (.iload_n 2, 1) := by decide +kernel
theorem dX2_follows_53 : decode cX2_follows 53 = .ok (.iconst 1, 1) := by decide +kernel
theorem dX2_follows_54 : decode cX2_follows 54 = .ok (.isub, 1) := by decide +kernel
theorem dX2_follows_55 : decode cX2_follows 55 = .ok (.iaload, 1) := by decide +kernel
theorem dX2_follows_56 : decode cX2_follows 56 = .ok (.aload_n 1, 1) := by decide +kernel
theorem dX2_follows_57 : decode cX2_follows 57 = .ok (.iload_n 2, 1) := by decide +kernel
theorem dX2_follows_58 : decode cX2_follows 58 = .ok (.iaload, 1) := by decide +kernel
theorem dX2_follows_59 : decode cX2_follows 59 = .ok (.invokevirtual 64, 3) := by decide +kernel
theorem dX2_follows_62 : decode cX2_follows 62 = .ok (.ifCond .eq 5, 3) := by decide +kernel
theorem dX2_follows_65 : decode cX2_follows 65 = .ok (.iconst 0, 1) := by decide +kernel
theorem dX2_follows_66 : decode cX2_follows 66 = .ok (.ireturn, 1) := by decide +kernel
theorem dX2_follows_67 : decode cX2_follows 67 = .ok (.iconst 0, 1) := by decide +kernel
theorem dX2_follows_68 : decode cX2_follows 68 = .ok (.istore_n 3, 1) := by decide +kernel
theorem dX2_follows_69 : decode cX2_follows 69 = .ok (.iload_n 3, 1) := by decide +kernel
theorem dX2_follows_70 : decode cX2_follows 70 = .ok (.iconst 2, 1) := by decide +kernel
theorem dX2_follows_71 : decode cX2_follows 71 = .ok (.iadd, 1) := by decide +kernel
theorem dX2_follows_72 : decode cX2_follows 72 = .ok (.iload_n 2, 1) := by decide +kernel
theorem dX2_follows_73 : decode cX2_follows 73 = .ok (.if_icmp .ge 34, 3) := by decide +kernel
theorem dX2_follows_76 : decode cX2_follows 76 = .ok (.aload_n 0, 1) := by decide +kernel
theorem dX2_follows_77 : decode cX2_follows 77 = .ok (.aload_n 1, 1) := by decide +kernel
theorem dX2_follows_78 : decode cX2_follows 78 = .ok (.iload_n 3, 1) := by decide +kernel
theorem dX2_follows_79 : decode cX2_follows 79 = .ok (.iaload, 1) := by decide +kernel
theorem dX2_follows_80 : decode cX2_follows 80 = .ok (.aload_n 1, 1) := by decide +kernel
theorem dX2_follows_81 : decode cX2_follows 81 = .ok (.iload_n 3, 1) := by decide +kernel
theorem dX2_follows_82 : decode cX2_follows 82 = .ok (.iconst 1, 1) := by decide +kernel
theorem dX2_follows_83 : decode cX2_follows 83 = .ok (.iadd, 1) := by decide +kernel
theorem dX2_follows_84 : decode cX2_follows 84 = .ok (.iaload, 1) := by decide +kernel
theorem dX2_follows_85 : decode cX2_follows 85 = .ok (.aload_n 1, 1) := by decide +kernel
theorem dX2_follows_86 : decode cX2_follows 86 = .ok (.iload_n 2, 1) := by decide +kernel
theorem dX2_follows_87 : decode cX2_follows 87 = .ok (.iconst 1, 1) := by decide +kernel
theorem dX2_follows_88 : decode cX2_follows 88 = .ok (.isub, 1) := by decide +kernel
theorem dX2_follows_89 : decode cX2_follows 89 = .ok (.iaload, 1) := by decide +kernel
theorem dX2_follows_90 : decode cX2_follows 90 = .ok (.aload_n 1, 1) := by decide +kernel
theorem dX2_follows_91 : decode cX2_follows 91 = .ok (.iload_n 2, 1) := by decide +kernel
theorem dX2_follows_92 : decode cX2_follows 92 = .ok (.iaload, 1) := by decide +kernel
theorem dX2_follows_93 : decode cX2_follows 93 = .ok (.invokevirtual 68, 3) := by decide +kernel
theorem dX2_follows_96 : decode cX2_follows 96 = .ok (.ifCond .eq 5, 3) := by decide +kernel
theorem dX2_follows_99 : decode cX2_follows 99 = .ok (.iconst 0, 1) := by decide +kernel
theorem dX2_follows_100 : decode cX2_follows 100 = .ok (.ireturn, 1) := by decide +kernel
theorem dX2_follows_101 : decode cX2_follows 101 = .ok (.iinc 3 1, 3) := by decide +kernel
theorem dX2_follows_104 : decode cX2_follows 104 = .ok (.goto (-35), 3) := by decide +kernel
theorem dX2_follows_107 : decode cX2_follows 107 = .ok (.iconst 1, 1) := by decide +kernel
theorem dX2_follows_108 : decode cX2_follows 108 = .ok (.ireturn, 1) := by decide +kernel
def L_Ground_follows_14 (a0 : Nat) (k40 : Int32 → CS → Option (Int32 × CS)) (x2 : Int32) : Nat → Int32 → CS → Option (Int32 × CS)
  | 0, _, _ => none
  | n + 1, x3, σ => if x2 ≤ x3 then k40 x2 σ else gix x3 (lenA a0) (gix x2 (lenA a0) (bnd (f_Ground_isSamePlace (rd σ a0 x3) (rd σ a0 x2) σ) (fun r26 σ26 => if r26 = 0 then (L_Ground_follows_14 a0 k40 x2 n) (x3 + 1) σ26 else some (0, σ26))))
set_option maxHeartbeats 4000000 in
set_option maxRecDepth 100000 in
theorem w_Ground_follows_14 (C : Cx g p s m args meth c A 4 cX2_follows yX2_follows.cls) (hr : meth.sig.returnType = (some .boolean)) {a0 : Nat} (ha0 : okI a0 = true) {res : Int32 × CS}  (x2 : Int32) {k40 : Int32 → CS → Option (Int32 × CS)} (hk40 : ∀ (x2 : Int32) (σ : CS) (ta : Nat → Nat), φ0 ≤ ph σ.2.2 → ph σ.2.2 ≤ BB → k40 x2 σ = some res → NI g p l e s m args below meth c A 3 87 4 ad Rr φ0 res ta σ [(0, .ref (ad 1)), (1, .ref (ad (27 + a0))), (2, .int x2)] 40 []) : ∀ (n : Nat) (x3 : Int32) (σ : CS) (ta : Nat → Nat), φ0 ≤ ph σ.2.2 → ph σ.2.2 ≤ BB → L_Ground_follows_14 a0 k40 x2 n x3 σ = some res → NI g p l e s m args below meth c A 3 87 4 ad Rr φ0 res ta σ [(0, .ref (ad 1)), (1, .ref (ad (27 + a0))), (2, .int x2), (3, .int x3)] 14 [] := by
  intro n
  induction n with
  | zero =>
    intro x3 σ ta hφ hφ2 h
    exact absurd (show (none : Option (Int32 × CS)) = some res from h) (by intro h9; cases h9)
  | succ n ih =>
    intro x3 σ ta hφ hφ2 h
    rw [L_Ground_follows_14] at h
    refine nw_iload_n C dX2_follows_14 rfl 3 rfl ?_
    refine nw_iload_n C dX2_follows_15 rfl 2 rfl ?_
    refine nw_icmp_ge (tgt := 40) C dX2_follows_16 (by decide) h (fun _ h => ?_) (fun _ h => ?_)
    · exact nw_lv (lv' := [(0, .ref (ad 1)), (1, .ref (ad (27 + a0))), (2, .int x2)]) [0, 1, 2] rfl (hk40 x2 _ _ hφ hφ2 h)
    · refine nw_aload_n C dX2_follows_19 rfl 0 rfl ?_
      refine nw_aload_n C dX2_follows_20 rfl 1 rfl ?_
      refine nw_iload_n C dX2_follows_21 rfl 3 rfl ?_
      refine nw_iald C (27 + a0) (cl_I a0 ha0) dX2_follows_22 h (fun h => ?_)
      refine nw_aload_n C dX2_follows_23 rfl 1 rfl ?_
      refine nw_iload_n C dX2_follows_24 rfl 2 rfl ?_
      refine nw_iald C (27 + a0) (cl_I a0 ha0) dX2_follows_25 h (fun h => ?_)
      refine nc_callVI (q0 := 1) (As := [.int (rd σ a0 x3), .int (rd σ a0 x2)]) (rest := []) C h (fun _ _ e => c_Ground_isSamePlace e hφ2) tw_957 kv_X2_isSamePlace cl_Ground rfl ⟨Nat.le_of_ble_eq_true rfl, Nat.le_of_ble_eq_true rfl⟩ rfl dX2_follows_26 rfl (Nat.le_of_ble_eq_true rfl) hφ hφ2 (fun r26 σ26 ta h hφ hφ2 => ?_)
      refine nw_if_eq (tgt := 34) C dX2_follows_29 (by decide) h (fun _ h => ?_) (fun _ h => ?_)
      · refine nw_iinc (lv' := [(3, .int (x3 + 1)), (0, .ref (ad 1)), (1, .ref (ad (27 + a0))), (2, .int x2)]) C (x3 + 1) dX2_follows_34 3 rfl rfl (by decide) rfl ?_
        refine nw_goto (tgt := 14) C dX2_follows_37 (by decide) ?_
        exact nw_lv (lv' := [(0, .ref (ad 1)), (1, .ref (ad (27 + a0))), (2, .int x2), (3, .int (x3 + 1))]) [1, 2, 3, 0] rfl (ih (x3 + 1) _ _ hφ hφ2 h)
      · refine nw_iconst (v := 0) C dX2_follows_32 (by decide) ?_
        exact nc_zret C hr (Or.inl rfl) dX2_follows_33 hφ hφ2 h
def L_Ground_follows_69 (a0 : Nat)  (x2 : Int32) : Nat → Int32 → CS → Option (Int32 × CS)
  | 0, _, _ => none
  | n + 1, x3, σ => if x2 ≤ (x3 + 2) then some (1, σ) else gix x3 (lenA a0) (gix (x3 + 1) (lenA a0) (gix (x2 - 1) (lenA a0) (gix x2 (lenA a0) (bnd (f_Ground_touch (rd σ a0 x3) (rd σ a0 (x3 + 1)) (rd σ a0 (x2 - 1)) (rd σ a0 x2) σ) (fun r93 σ93 => if r93 = 0 then (L_Ground_follows_69 a0 x2 n) (x3 + 1) σ93 else some (0, σ93))))))
set_option maxHeartbeats 4000000 in
set_option maxRecDepth 100000 in
theorem w_Ground_follows_69 (C : Cx g p s m args meth c A 4 cX2_follows yX2_follows.cls) (hr : meth.sig.returnType = (some .boolean)) {a0 : Nat} (ha0 : okI a0 = true) {res : Int32 × CS}  (x2 : Int32)  : ∀ (n : Nat) (x3 : Int32) (σ : CS) (ta : Nat → Nat), φ0 ≤ ph σ.2.2 → ph σ.2.2 ≤ BB → L_Ground_follows_69 a0 x2 n x3 σ = some res → NI g p l e s m args below meth c A 3 87 4 ad Rr φ0 res ta σ [(0, .ref (ad 1)), (1, .ref (ad (27 + a0))), (2, .int x2), (3, .int x3)] 69 [] := by
  intro n
  induction n with
  | zero =>
    intro x3 σ ta hφ hφ2 h
    exact absurd (show (none : Option (Int32 × CS)) = some res from h) (by intro h9; cases h9)
  | succ n ih =>
    intro x3 σ ta hφ hφ2 h
    rw [L_Ground_follows_69] at h
    refine nw_iload_n C dX2_follows_69 rfl 3 rfl ?_
    refine nw_iconst (v := 2) C dX2_follows_70 (by decide) ?_
    refine nw_iadd C dX2_follows_71 ?_
    refine nw_iload_n C dX2_follows_72 rfl 2 rfl ?_
    refine nw_icmp_ge (tgt := 107) C dX2_follows_73 (by decide) h (fun _ h => ?_) (fun _ h => ?_)
    · refine nw_iconst (v := 1) C dX2_follows_107 (by decide) ?_
      exact nc_zret C hr (Or.inr rfl) dX2_follows_108 hφ hφ2 h
    · refine nw_aload_n C dX2_follows_76 rfl 0 rfl ?_
      refine nw_aload_n C dX2_follows_77 rfl 1 rfl ?_
      refine nw_iload_n C dX2_follows_78 rfl 3 rfl ?_
      refine nw_iald C (27 + a0) (cl_I a0 ha0) dX2_follows_79 h (fun h => ?_)
      refine nw_aload_n C dX2_follows_80 rfl 1 rfl ?_
      refine nw_iload_n C dX2_follows_81 rfl 3 rfl ?_
      refine nw_iconst (v := 1) C dX2_follows_82 (by decide) ?_
      refine nw_iadd C dX2_follows_83 ?_
      refine nw_iald C (27 + a0) (cl_I a0 ha0) dX2_follows_84 h (fun h => ?_)
      refine nw_aload_n C dX2_follows_85 rfl 1 rfl ?_
      refine nw_iload_n C dX2_follows_86 rfl 2 rfl ?_
      refine nw_iconst (v := 1) C dX2_follows_87 (by decide) ?_
      refine nw_isub C dX2_follows_88 ?_
      refine nw_iald C (27 + a0) (cl_I a0 ha0) dX2_follows_89 h (fun h => ?_)
      refine nw_aload_n C dX2_follows_90 rfl 1 rfl ?_
      refine nw_iload_n C dX2_follows_91 rfl 2 rfl ?_
      refine nw_iald C (27 + a0) (cl_I a0 ha0) dX2_follows_92 h (fun h => ?_)
      refine nc_callVI (q0 := 1) (As := [.int (rd σ a0 x3), .int (rd σ a0 (x3 + 1)), .int (rd σ a0 (x2 - 1)), .int (rd σ a0 x2)]) (rest := []) C h (fun _ _ e => c_Ground_touch e hφ2) tw_969 kv_X2_touch cl_Ground rfl ⟨Nat.le_of_ble_eq_true rfl, Nat.le_of_ble_eq_true rfl⟩ rfl dX2_follows_93 rfl (Nat.le_of_ble_eq_true rfl) hφ hφ2 (fun r93 σ93 ta h hφ hφ2 => ?_)
      refine nw_if_eq (tgt := 101) C dX2_follows_96 (by decide) h (fun _ h => ?_) (fun _ h => ?_)
      · refine nw_iinc (lv' := [(3, .int (x3 + 1)), (0, .ref (ad 1)), (1, .ref (ad (27 + a0))), (2, .int x2)]) C (x3 + 1) dX2_follows_101 3 rfl rfl (by decide) rfl ?_
        refine nw_goto (tgt := 69) C dX2_follows_104 (by decide) ?_
        exact nw_lv (lv' := [(0, .ref (ad 1)), (1, .ref (ad (27 + a0))), (2, .int x2), (3, .int (x3 + 1))]) [1, 2, 3, 0] rfl (ih (x3 + 1) _ _ hφ hφ2 h)
      · refine nw_iconst (v := 0) C dX2_follows_99 (by decide) ?_
        exact nc_zret C hr (Or.inl rfl) dX2_follows_100 hφ hφ2 h
def B_Ground_follows_40 (a0 : Nat)   (x2 : Int32) (σ : CS) : Option (Int32 × CS) := if x2 < 2 then L_Ground_follows_69 a0 x2 FU 0 σ else gix (x2 - 2) (lenA a0) (gix (x2 - 1) (lenA a0) (gix x2 (lenA a0) (bnd (f_Ground_foldsBack (rd σ a0 (x2 - 2)) (rd σ a0 (x2 - 1)) (rd σ a0 x2) σ) (fun r59 σ59 => if r59 = 0 then L_Ground_follows_69 a0 x2 FU 0 σ59 else some (0, σ59)))))
set_option maxHeartbeats 4000000 in
set_option maxRecDepth 100000 in
theorem w_Ground_follows_40 (C : Cx g p s m args meth c A 4 cX2_follows yX2_follows.cls) (hr : meth.sig.returnType = (some .boolean)) {a0 : Nat} (ha0 : okI a0 = true) {res : Int32 × CS}   (x2 : Int32)  (σ : CS) (ta : Nat → Nat) (hφ : φ0 ≤ ph σ.2.2) (hφ2 : ph σ.2.2 ≤ BB) (h : B_Ground_follows_40 a0 x2 σ = some res) : NI g p l e s m args below meth c A 3 87 4 ad Rr φ0 res ta σ [(0, .ref (ad 1)), (1, .ref (ad (27 + a0))), (2, .int x2)] 40 [] := by
  unfold B_Ground_follows_40 at h
  refine nw_iload_n C dX2_follows_40 rfl 2 rfl ?_
  refine nw_iconst (v := 2) C dX2_follows_41 (by decide) ?_
  refine nw_icmp_lt (tgt := 67) C dX2_follows_42 (by decide) h (fun _ h => ?_) (fun _ h => ?_)
  · refine nw_iconst (v := 0) C dX2_follows_67 (by decide) ?_
    refine nw_istore_n (lv' := [(3, .int 0), (0, .ref (ad 1)), (1, .ref (ad (27 + a0))), (2, .int x2)]) C dX2_follows_68 rfl (by decide) rfl ?_
    exact nw_lv (lv' := [(0, .ref (ad 1)), (1, .ref (ad (27 + a0))), (2, .int x2), (3, .int 0)]) [1, 2, 3, 0] rfl (w_Ground_follows_69 C hr ha0 x2 FU 0 _ _ hφ hφ2 h)
  · refine nw_aload_n C dX2_follows_45 rfl 0 rfl ?_
    refine nw_aload_n C dX2_follows_46 rfl 1 rfl ?_
    refine nw_iload_n C dX2_follows_47 rfl 2 rfl ?_
    refine nw_iconst (v := 2) C dX2_follows_48 (by decide) ?_
    refine nw_isub C dX2_follows_49 ?_
    refine nw_iald C (27 + a0) (cl_I a0 ha0) dX2_follows_50 h (fun h => ?_)
    refine nw_aload_n C dX2_follows_51 rfl 1 rfl ?_
    refine nw_iload_n C dX2_follows_52 rfl 2 rfl ?_
    refine nw_iconst (v := 1) C dX2_follows_53 (by decide) ?_
    refine nw_isub C dX2_follows_54 ?_
    refine nw_iald C (27 + a0) (cl_I a0 ha0) dX2_follows_55 h (fun h => ?_)
    refine nw_aload_n C dX2_follows_56 rfl 1 rfl ?_
    refine nw_iload_n C dX2_follows_57 rfl 2 rfl ?_
    refine nw_iald C (27 + a0) (cl_I a0 ha0) dX2_follows_58 h (fun h => ?_)
    refine nc_callVI (q0 := 1) (As := [.int (rd σ a0 (x2 - 2)), .int (rd σ a0 (x2 - 1)), .int (rd σ a0 x2)]) (rest := []) C h (fun _ _ e => c_Ground_foldsBack e hφ2) tw_961 kv_X2_foldsBack cl_Ground rfl ⟨Nat.le_of_ble_eq_true rfl, Nat.le_of_ble_eq_true rfl⟩ rfl dX2_follows_59 rfl (Nat.le_of_ble_eq_true rfl) hφ hφ2 (fun r59 σ59 ta h hφ hφ2 => ?_)
    refine nw_if_eq (tgt := 67) C dX2_follows_62 (by decide) h (fun _ h => ?_) (fun _ h => ?_)
    · refine nw_iconst (v := 0) C dX2_follows_67 (by decide) ?_
      refine nw_istore_n (lv' := [(3, .int 0), (0, .ref (ad 1)), (1, .ref (ad (27 + a0))), (2, .int x2)]) C dX2_follows_68 rfl (by decide) rfl ?_
      exact nw_lv (lv' := [(0, .ref (ad 1)), (1, .ref (ad (27 + a0))), (2, .int x2), (3, .int 0)]) [1, 2, 3, 0] rfl (w_Ground_follows_69 C hr ha0 x2 FU 0 _ _ hφ hφ2 h)
    · refine nw_iconst (v := 0) C dX2_follows_65 (by decide) ?_
      exact nc_zret C hr (Or.inl rfl) dX2_follows_66 hφ hφ2 h
def f_Ground_follows (a0 : Nat) (p1 : Int32) (σ : CS) : Option (Int32 × CS) := if p1 < 0 then some (0, σ) else if p1 < (nI (lenA a0)) then L_Ground_follows_14 a0 (B_Ground_follows_40 a0) p1 FU 0 σ else some (0, σ)
set_option maxHeartbeats 4000000 in
set_option maxRecDepth 100000 in
theorem c_Ground_follows {l : Launch} {g : EG} {ad ta : Nat → Nat} {Rr : va_W} {σ σ' : CS} {r : Int32} {p1 : Int32} (a0 : Nat) (ha0 : okI a0 = true) (h : f_Ground_follows a0 p1 σ = some (r, σ')) (hφ2 : ph σ.2.2 ≤ BB) : CtI l g yX2_follows (.code yX2_follows cX2_follows 4 (some .boolean)) 3 87 ad ta Rr σ [.ref (ad 1), .ref (ad (27 + a0)), .int p1] r σ' := by
  refine Ct.of rfl (by decide) (Nat.le_of_ble_eq_true rfl) ?_
  intro p e s m args below meth c A C hr
  have hφ : ph σ.2.2 ≤ ph σ.2.2 := Nat.le_refl _
  refine nw_zero (ph σ.2.2) ?_
  show NI g p l e s m args below meth c A 3 87 4 ad Rr (ph σ.2.2) (r, σ') ta σ [(0, .ref (ad 1)), (1, .ref (ad (27 + a0))), (2, .int p1)] 0 []
  unfold f_Ground_follows at h
  refine nw_iload_n C dX2_follows_0 rfl 2 rfl ?_
  refine nw_if_lt (tgt := 10) C dX2_follows_1 (by decide) h (fun _ h => ?_) (fun _ h => ?_)
  · refine nw_iconst (v := 0) C dX2_follows_10 (by decide) ?_
    exact nc_zret C hr (Or.inl rfl) dX2_follows_11 hφ hφ2 h
  · refine nw_iload_n C dX2_follows_4 rfl 2 rfl ?_
    refine nw_aload_n C dX2_follows_5 rfl 1 rfl ?_
    refine nw_alenI C (27 + a0) (cl_I a0 ha0) dX2_follows_6 ?_
    refine nw_icmp_lt (tgt := 12) C dX2_follows_7 (by decide) h (fun _ h => ?_) (fun _ h => ?_)
    · refine nw_iconst (v := 0) C dX2_follows_12 (by decide) ?_
      refine nw_istore_n (lv' := [(3, .int 0), (0, .ref (ad 1)), (1, .ref (ad (27 + a0))), (2, .int p1)]) C dX2_follows_13 rfl (by decide) rfl ?_
      exact nw_lv (lv' := [(0, .ref (ad 1)), (1, .ref (ad (27 + a0))), (2, .int p1), (3, .int 0)]) [1, 2, 3, 0] rfl (w_Ground_follows_14 C hr ha0 p1 (fun x2_ σ_ ta_ hφ_ hφ2_ h_ => w_Ground_follows_40 C hr ha0 x2_ σ_ ta_ hφ_ hφ2_ h_) FU 0 _ _ hφ hφ2 h)
    · refine nw_iconst (v := 0) C dX2_follows_10 (by decide) ?_
      exact nc_zret C hr (Or.inl rfl) dX2_follows_11 hφ hφ2 h
theorem dX2_closes_0 : decode cX2_closes 0 = .ok (.iload_n 2, 1) := by decide +kernel
theorem dX2_closes_1 : decode cX2_closes 1 = .ok (.iconst 3, 1) := by decide +kernel
theorem dX2_closes_2 : decode cX2_closes 2 = .ok (.if_icmp .lt 9, 3) := by decide +kernel
theorem dX2_closes_5 : decode cX2_closes 5 = .ok (.iload_n 2, 1) := by decide +kernel
theorem dX2_closes_6 : decode cX2_closes 6 = .ok (.aload_n 1, 1) := by decide +kernel
theorem dX2_closes_7 : decode cX2_closes 7 = .ok (.arraylength, 1) := by decide +kernel
theorem dX2_closes_8 : decode cX2_closes 8 = .ok (.if_icmp .le 5, 3) := by decide +kernel
theorem dX2_closes_11 : decode cX2_closes 11 = .ok (.iconst 0, 1) := by decide +kernel
theorem dX2_closes_12 : decode cX2_closes 12 = .ok (.ireturn, 1) := by decide +kernel
theorem dX2_closes_13 : decode cX2_closes 13 = .ok (.aload_n 1, 1) := by decide +kernel
theorem dX2_closes_14 : decode cX2_closes 14 = .ok (.iload_n 2, 1) := by decide +kernel
theorem dX2_closes_15 : decode cX2_closes 15 = .ok (.iconst 1, 1) := by decide +kernel
theorem dX2_closes_16 : decode cX2_closes 16 = .ok (.isub, 1) := by decide +kernel
theorem dX2_closes_17 : decode cX2_closes 17 = .ok (.iaload, 1) := by decide +kernel
theorem dX2_closes_18 : decode cX2_closes 18 = .ok (.istore_n 3, 1) := by decide +kernel
theorem dX2_closes_19 : decode cX2_closes 19 = .ok (.aload_n 0, 1) := by decide +kernel
theorem dX2_closes_20 : decode cX2_closes 20 = .ok (.aload_n 1, 1) := by decide +kernel
theorem dX2_closes_21 : decode cX2_closes 21 = .ok (.iload_n 2, 1) := by decide +kernel
theorem dX2_closes_22 : decode cX2_closes 22 = .ok (.iconst 2, 1) := by decide +kernel
theorem dX2_closes_23 : decode cX2_closes 23 = .ok (.isub, 1) := by decide +kernel
theorem dX2_closes_24 : decode cX2_closes 24 = .ok (.iaload, 1) := by decide +kernel
theorem dX2_closes_25 : decode cX2_closes 25 = .ok (.iload_n 3, 1) := by decide +kernel
theorem dX2_closes_26 : decode cX2_closes 26 = .ok (.aload_n 1, 1) := by decide +kernel
theorem dX2_closes_27 : decode cX2_closes 27 = .ok (.iconst 0, 1) := by decide +kernel
theorem dX2_closes_28 : decode cX2_closes 28 = .ok (.iaload, 1) := by decide +kernel
theorem dX2_closes_29 : decode cX2_closes 29 = .ok (.invokevirtual 64, 3) := by decide +kernel
theorem dX2_closes_32 : decode cX2_closes 32 = .ok (.ifCond .ne 17, 3) := by decide +kernel
theorem dX2_closes_35 : decode cX2_closes 35 = .ok (.aload_n 0, 1) := by decide +kernel
theorem dX2_closes_36 : decode cX2_closes 36 = .ok (.iload_n 3, 1) := by decide +kernel
theorem dX2_closes_37 : decode cX2_closes 37 = .ok (.aload_n 1, 1) := by decide +kernel
theorem dX2_closes_38 : decode cX2_closes 38 = .ok (.iconst 0, 1) := by decide +kernel
theorem dX2_closes_39 : decode cX2_closes 39 = .ok (.iaload, 1) := by decide +kernel
theorem dX2_closes_40 : decode cX2_closes 40 = .ok (.aload_n 1, 1) := by decide +kernel
theorem dX2_closes_41 : decode cX2_closes 41 = .ok (.iconst 1, 1) := by decide +kernel
theorem dX2_closes_42 : decode cX2_closes 42 = .ok (.iaload, 1) := by decide +kernel
theorem dX2_closes_43 : decode cX2_closes 43 = .ok (.invokevirtual 64, 3) := by decide +kernel
theorem dX2_closes_46 : decode cX2_closes 46 = .ok (.ifCond .eq 5, 3) := by decide +kernel
theorem dX2_closes_49 : decode cX2_closes 49 = .ok (.iconst 0, 1) := by decide +kernel
theorem dX2_closes_50 : decode cX2_closes 50 = .ok (.ireturn, 1) := by decide +kernel
theorem dX2_closes_51 : decode cX2_closes 51 = .ok (.iconst 1, 1) := by decide +kernel
theorem dX2_closes_52 : decode cX2_closes 52 = .ok (.istore 4, 2) := by decide +kernel
theorem dX2_closes_54 : decode cX2_closes 54 = .ok (.iload 4, 2) := by decide +kernel
theorem dX2_closes_56 : decode cX2_closes 56 = .ok (.iconst 2, 1) := by decide +kernel
theorem dX2_closes_57 : decode cX2_closes 57 = .ok (.iadd, 1) := by decide +kernel
theorem dX2_closes_58 : decode cX2_closes 58 = .ok (.iload_n 2, 1) := by decide +kernel
theorem dX2_closes_59 : decode cX2_closes 59 = .ok (.if_icmp .ge 32, 3) := by decide +kernel
theorem dX2_closes_62 : decode cX2_closes 62 = .ok (.aload_n 0, 1) := by decide +kernel
theorem dX2_closes_63 : decode cX2_closes 63 = .ok (.aload_n 1, 1) := by decide +kernel
theorem dX2_closes_64 : decode cX2_closes 64 = .ok (.iload 4, 2) := by decide +kernel
theorem dX2_closes_66 : decode cX2_closes 66 = .ok (.iaload, 1) := by decide +kernel
theorem dX2_closes_67 : decode cX2_closes 67 = .ok (.aload_n 1, 1) := by decide +kernel
theorem dX2_closes_68 : decode cX2_closes 68 = .ok (.iload 4, 2) := by decide +kernel
theorem dX2_closes_70 : decode cX2_closes 70 = .ok (.iconst 1, 1) := by decide +kernel
theorem dX2_closes_71 : decode cX2_closes 71 = .ok (.iadd, 1) := by decide +kernel
theorem dX2_closes_72 : decode cX2_closes 72 = .ok (.iaload, 1) := by decide +kernel
theorem dX2_closes_73 : decode cX2_closes 73 = .ok (.iload_n 3, 1) := by decide +kernel
theorem dX2_closes_74 : decode cX2_closes 74 = .ok (.aload_n 1, 1) := by decide +kernel
theorem dX2_closes_75 : decode cX2_closes 75 = .ok (.iconst 0, 1) := by decide +kernel
theorem dX2_closes_76 : decode cX2_closes 76 = .ok (.iaload, 1) := by decide +kernel
theorem dX2_closes_77 : decode cX2_closes 77 = .ok (.invokevirtual 68, 3) := by decide +kernel
theorem dX2_closes_80 : decode cX2_closes 80 = .ok (.ifCond .eq 5, 3) := by decide +kernel
theorem dX2_closes_83 : decode cX2_closes 83 = .ok (.iconst 0, 1) := by decide +kernel
theorem dX2_closes_84 : decode cX2_closes 84 = .ok (.ireturn, 1) := by decide +kernel
theorem dX2_closes_85 : decode cX2_closes 85 = .ok (.iinc 4 1, 3) := by decide +kernel
theorem dX2_closes_88 : decode cX2_closes 88 = .ok (.goto (-34), 3) := by decide +kernel
theorem dX2_closes_91 : decode cX2_closes 91 = .ok (.iconst 1, 1) := by decide +kernel
theorem dX2_closes_92 : decode cX2_closes 92 = .ok (.ireturn, 1) := by decide +kernel
def L_Ground_closes_54 (a0 : Nat)  (x2 : Int32) (x3 : Int32) : Nat → Int32 → CS → Option (Int32 × CS)
  | 0, _, _ => none
  | n + 1, x4, σ => if x2 ≤ (x4 + 2) then some (1, σ) else gix x4 (lenA a0) (gix (x4 + 1) (lenA a0) (gix 0 (lenA a0) (bnd (f_Ground_touch (rd σ a0 x4) (rd σ a0 (x4 + 1)) x3 (rd σ a0 0) σ) (fun r77 σ77 => if r77 = 0 then (L_Ground_closes_54 a0 x2 x3 n) (x4 + 1) σ77 else some (0, σ77)))))
set_option maxHeartbeats 4000000 in
set_option maxRecDepth 100000 in
theorem w_Ground_closes_54 (C : Cx g p s m args meth c A 5 cX2_closes yX2_closes.cls) (hr : meth.sig.returnType = (some .boolean)) {a0 : Nat} (ha0 : okI a0 = true) {res : Int32 × CS}  (x2 : Int32) (x3 : Int32)  : ∀ (n : Nat) (x4 : Int32) (σ : CS) (ta : Nat → Nat), φ0 ≤ ph σ.2.2 → ph σ.2.2 ≤ BB → L_Ground_closes_54 a0 x2 x3 n x4 σ = some res → NI g p l e s m args below meth c A 3 87 5 ad Rr φ0 res ta σ [(0, .ref (ad 1)), (1, .ref (ad (27 + a0))), (2, .int x2), (3, .int x3), (4, .int x4)] 54 [] := by
  intro n
  induction n with
  | zero =>
    intro x4 σ ta hφ hφ2 h
    exact absurd (show (none : Option (Int32 × CS)) = some res from h) (by intro h9; cases h9)
  | succ n ih =>
    intro x4 σ ta hφ hφ2 h
    rw [L_Ground_closes_54] at h
    refine nw_iload C dX2_closes_54 4 rfl ?_
    refine nw_iconst (v := 2) C dX2_closes_56 (by decide) ?_
    refine nw_iadd C dX2_closes_57 ?_
    refine nw_iload_n C dX2_closes_58 rfl 2 rfl ?_
    refine nw_icmp_ge (tgt := 91) C dX2_closes_59 (by decide) h (fun _ h => ?_) (fun _ h => ?_)
    · refine nw_iconst (v := 1) C dX2_closes_91 (by decide) ?_
      exact nc_zret C hr (Or.inr rfl) dX2_closes_92 hφ hφ2 h
    · refine nw_aload_n C dX2_closes_62 rfl 0 rfl ?_
      refine nw_aload_n C dX2_closes_63 rfl 1 rfl ?_
      refine nw_iload C dX2_closes_64 4 rfl ?_
      refine nw_iald C (27 + a0) (cl_I a0 ha0) dX2_closes_66 h (fun h => ?_)
      refine nw_aload_n C dX2_closes_67 rfl 1 rfl ?_
      refine nw_iload C dX2_closes_68 4 rfl ?_
      refine nw_iconst (v := 1) C dX2_closes_70 (by decide) ?_
      refine nw_iadd C dX2_closes_71 ?_
      refine nw_iald C (27 + a0) (cl_I a0 ha0) dX2_closes_72 h (fun h => ?_)
      refine nw_iload_n C dX2_closes_73 rfl 3 rfl ?_
      refine nw_aload_n C dX2_closes_74 rfl 1 rfl ?_
      refine nw_iconst (v := 0) C dX2_closes_75 (by decide) ?_
      refine nw_iald C (27 + a0) (cl_I a0 ha0) dX2_closes_76 h (fun h => ?_)
      refine nc_callVI (q0 := 1) (As := [.int (rd σ a0 x4), .int (rd σ a0 (x4 + 1)), .int x3, .int (rd σ a0 0)]) (rest := []) C h (fun _ _ e => c_Ground_touch e hφ2) tw_969 kv_X2_touch cl_Ground rfl ⟨Nat.le_of_ble_eq_true rfl, Nat.le_of_ble_eq_true rfl⟩ rfl dX2_closes_77 rfl (Nat.le_of_ble_eq_true rfl) hφ hφ2 (fun r77 σ77 ta h hφ hφ2 => ?_)
      refine nw_if_eq (tgt := 85) C dX2_closes_80 (by decide) h (fun _ h => ?_) (fun _ h => ?_)
      · refine nw_iinc (lv' := [(4, .int (x4 + 1)), (0, .ref (ad 1)), (1, .ref (ad (27 + a0))), (2, .int x2), (3, .int x3)]) C (x4 + 1) dX2_closes_85 4 rfl rfl (by decide) rfl ?_
        refine nw_goto (tgt := 54) C dX2_closes_88 (by decide) ?_
        exact nw_lv (lv' := [(0, .ref (ad 1)), (1, .ref (ad (27 + a0))), (2, .int x2), (3, .int x3), (4, .int (x4 + 1))]) [1, 2, 3, 4, 0] rfl (ih (x4 + 1) _ _ hφ hφ2 h)
      · refine nw_iconst (v := 0) C dX2_closes_83 (by decide) ?_
        exact nc_zret C hr (Or.inl rfl) dX2_closes_84 hφ hφ2 h
def f_Ground_closes (a0 : Nat) (p1 : Int32) (σ : CS) : Option (Int32 × CS) := if p1 < 3 then some (0, σ) else if p1 ≤ (nI (lenA a0)) then gix (p1 - 1) (lenA a0) (gix (p1 - 2) (lenA a0) (gix 0 (lenA a0) (bnd (f_Ground_foldsBack (rd σ a0 (p1 - 2)) (rd σ a0 (p1 - 1)) (rd σ a0 0) σ) (fun r29 σ29 => if r29 = 0 then gix 0 (lenA a0) (gix 1 (lenA a0) (bnd (f_Ground_foldsBack (rd σ a0 (p1 - 1)) (rd σ29 a0 0) (rd σ29 a0 1) σ29) (fun r43 σ43 => if r43 = 0 then L_Ground_closes_54 a0 p1 (rd σ a0 (p1 - 1)) FU 1 σ43 else some (0, σ43)))) else some (0, σ29))))) else some (0, σ)
set_option maxHeartbeats 4000000 in
set_option maxRecDepth 100000 in
theorem c_Ground_closes {l : Launch} {g : EG} {ad ta : Nat → Nat} {Rr : va_W} {σ σ' : CS} {r : Int32} {p1 : Int32} (a0 : Nat) (ha0 : okI a0 = true) (h : f_Ground_closes a0 p1 σ = some (r, σ')) (hφ2 : ph σ.2.2 ≤ BB) : CtI l g yX2_closes (.code yX2_closes cX2_closes 5 (some .boolean)) 3 87 ad ta Rr σ [.ref (ad 1), .ref (ad (27 + a0)), .int p1] r σ' := by
  refine Ct.of rfl (by decide) (Nat.le_of_ble_eq_true rfl) ?_
  intro p e s m args below meth c A C hr
  have hφ : ph σ.2.2 ≤ ph σ.2.2 := Nat.le_refl _
  refine nw_zero (ph σ.2.2) ?_
  show NI g p l e s m args below meth c A 3 87 5 ad Rr (ph σ.2.2) (r, σ') ta σ [(0, .ref (ad 1)), (1, .ref (ad (27 + a0))), (2, .int p1)] 0 []
  unfold f_Ground_closes at h
  refine nw_iload_n C dX2_closes_0 rfl 2 rfl ?_
  refine nw_iconst (v := 3) C dX2_closes_1 (by decide) ?_
  refine nw_icmp_lt (tgt := 11) C dX2_closes_2 (by decide) h (fun _ h => ?_) (fun _ h => ?_)
  · refine nw_iconst (v := 0) C dX2_closes_11 (by decide) ?_
    exact nc_zret C hr (Or.inl rfl) dX2_closes_12 hφ hφ2 h
  · refine nw_iload_n C dX2_closes_5 rfl 2 rfl ?_
    refine nw_aload_n C dX2_closes_6 rfl 1 rfl ?_
    refine nw_alenI C (27 + a0) (cl_I a0 ha0) dX2_closes_7 ?_
    refine nw_icmp_le (tgt := 13) C dX2_closes_8 (by decide) h (fun _ h => ?_) (fun _ h => ?_)
    · refine nw_aload_n C dX2_closes_13 rfl 1 rfl ?_
      refine nw_iload_n C dX2_closes_14 rfl 2 rfl ?_
      refine nw_iconst (v := 1) C dX2_closes_15 (by decide) ?_
      refine nw_isub C dX2_closes_16 ?_
      refine nw_iald C (27 + a0) (cl_I a0 ha0) dX2_closes_17 h (fun h => ?_)
      refine nw_istore_n (lv' := [(3, .int (rd σ a0 (p1 - 1))), (0, .ref (ad 1)), (1, .ref (ad (27 + a0))), (2, .int p1)]) C dX2_closes_18 rfl (by decide) rfl ?_
      refine nw_aload_n C dX2_closes_19 rfl 1 rfl ?_
      refine nw_aload_n C dX2_closes_20 rfl 2 rfl ?_
      refine nw_iload_n C dX2_closes_21 rfl 3 rfl ?_
      refine nw_iconst (v := 2) C dX2_closes_22 (by decide) ?_
      refine nw_isub C dX2_closes_23 ?_
      refine nw_iald C (27 + a0) (cl_I a0 ha0) dX2_closes_24 h (fun h => ?_)
      refine nw_iload_n C dX2_closes_25 rfl 0 rfl ?_
      refine nw_aload_n C dX2_closes_26 rfl 2 rfl ?_
      refine nw_iconst (v := 0) C dX2_closes_27 (by decide) ?_
      refine nw_iald C (27 + a0) (cl_I a0 ha0) dX2_closes_28 h (fun h => ?_)
      refine nc_callVI (q0 := 1) (As := [.int (rd σ a0 (p1 - 2)), .int (rd σ a0 (p1 - 1)), .int (rd σ a0 0)]) (rest := []) C h (fun _ _ e => c_Ground_foldsBack e hφ2) tw_961 kv_X2_foldsBack cl_Ground rfl ⟨Nat.le_of_ble_eq_true rfl, Nat.le_of_ble_eq_true rfl⟩ rfl dX2_closes_29 rfl (Nat.le_of_ble_eq_true rfl) hφ hφ2 (fun r29 σ29 ta h hφ hφ2 => ?_)
      refine nw_if_ne (tgt := 49) C dX2_closes_32 (by decide) h (fun _ h => ?_) (fun _ h => ?_)
      · refine nw_aload_n C dX2_closes_35 rfl 1 rfl ?_
        refine nw_iload_n C dX2_closes_36 rfl 0 rfl ?_
        refine nw_aload_n C dX2_closes_37 rfl 2 rfl ?_
        refine nw_iconst (v := 0) C dX2_closes_38 (by decide) ?_
        refine nw_iald C (27 + a0) (cl_I a0 ha0) dX2_closes_39 h (fun h => ?_)
        refine nw_aload_n C dX2_closes_40 rfl 2 rfl ?_
        refine nw_iconst (v := 1) C dX2_closes_41 (by decide) ?_
        refine nw_iald C (27 + a0) (cl_I a0 ha0) dX2_closes_42 h (fun h => ?_)
        refine nc_callVI (q0 := 1) (As := [.int (rd σ a0 (p1 - 1)), .int (rd σ29 a0 0), .int (rd σ29 a0 1)]) (rest := []) C h (fun _ _ e => c_Ground_foldsBack e hφ2) tw_961 kv_X2_foldsBack cl_Ground rfl ⟨Nat.le_of_ble_eq_true rfl, Nat.le_of_ble_eq_true rfl⟩ rfl dX2_closes_43 rfl (Nat.le_of_ble_eq_true rfl) hφ hφ2 (fun r43 σ43 ta h hφ hφ2 => ?_)
        refine nw_if_eq (tgt := 51) C dX2_closes_46 (by decide) h (fun _ h => ?_) (fun _ h => ?_)
        · refine nw_iconst (v := 1) C dX2_closes_51 (by decide) ?_
          refine nw_istore (lv' := [(4, .int 1), (3, .int (rd σ a0 (p1 - 1))), (0, .ref (ad 1)), (1, .ref (ad (27 + a0))), (2, .int p1)]) C dX2_closes_52 (by decide) rfl ?_
          exact nw_lv (lv' := [(0, .ref (ad 1)), (1, .ref (ad (27 + a0))), (2, .int p1), (3, .int (rd σ a0 (p1 - 1))), (4, .int 1)]) [2, 3, 4, 1, 0] rfl (w_Ground_closes_54 C hr ha0 p1 (rd σ a0 (p1 - 1)) FU 1 _ _ hφ hφ2 h)
        · refine nw_iconst (v := 0) C dX2_closes_49 (by decide) ?_
          exact nc_zret C hr (Or.inl rfl) dX2_closes_50 hφ hφ2 h
      · refine nw_iconst (v := 0) C dX2_closes_49 (by decide) ?_
        exact nc_zret C hr (Or.inl rfl) dX2_closes_50 hφ hφ2 h
    · refine nw_iconst (v := 0) C dX2_closes_11 (by decide) ?_
      exact nc_zret C hr (Or.inl rfl) dX2_closes_12 hφ hφ2 h
theorem dX2_isSimple_0 : decode cX2_isSimple 0 = .ok (.iconst 0, 1) := by decide +kernel
theorem dX2_isSimple_1 : decode cX2_isSimple 1 = .ok (.istore_n 2, 1) := by decide +kernel
theorem dX2_isSimple_2 : decode cX2_isSimple 2 = .ok (.iload_n 2, 1) := by decide +kernel
theorem dX2_isSimple_3 : decode cX2_isSimple 3 = .ok (.iload_n 1, 1) := by decide +kernel
theorem dX2_isSimple_4 : decode cX2_isSimple 4 = .ok (.if_icmp .ge 23, 3) := by decide +kernel
theorem dX2_isSimple_7 : decode cX2_isSimple 7 = .ok (.aload_n 0, 1) := by decide +kernel
theorem dX2_isSimple_8 : decode cX2_isSimple 8 = .ok (.aload_n 0, 1) := by decide +kernel
theorem dX2_isSimple_9 : decode cX2_isSimple 9 = .ok (.getfield 23, 3) := by decide +kernel
theorem dX2_isSimple_12 : decode cX2_isSimple 12 = .ok (.iload_n 2, 1) := by decide +kernel
theorem dX2_isSimple_13 : decode cX2_isSimple 13 = .ok (.invokevirtual 53, 3) := by decide +kernel
theorem dX2_isSimple_16 : decode cX2_isSimple 16 = .ok (.ifCond .ne 5, 3) := by decide +kernel
theorem dX2_isSimple_19 : decode cX2_isSimple 19 = .ok (.iconst 0, 1) := by decide +kernel
theorem dX2_isSimple_20 : decode cX2_isSimple 20 = .ok (.ireturn, 1) := by decide +kernel
theorem dX2_isSimple_21 : decode cX2_isSimple 21 = .ok (.iinc 2 1, 3) := by decide +kernel
theorem dX2_isSimple_24 : decode cX2_isSimple 24 = .ok (.goto (-22), 3) := by decide +kernel
theorem dX2_isSimple_27 : decode cX2_isSimple 27 = .ok (.aload_n 0, 1) := by decide +kernel
theorem dX2_isSimple_28 : decode cX2_isSimple 28 = .ok (.aload_n 0, 1) := by decide +kernel
theorem dX2_isSimple_29 : decode cX2_isSimple 29 = .ok (.getfield 23, 3) := by decide +kernel
theorem dX2_isSimple_32 : decode cX2_isSimple 32 = .ok (.iload_n 1, 1) := by decide +kernel
theorem dX2_isSimple_33 : decode cX2_isSimple 33 = .ok (.invokevirtual 57, 3) := by decide +kernel
theorem dX2_isSimple_36 : decode cX2_isSimple 36 = .ok (.ireturn, 1) := by decide +kernel
def L_Ground_isSimple_2 (k27 : Int32 → CS → Option (Int32 × CS)) (x1 : Int32) : Nat → Int32 → CS → Option (Int32 × CS)
  | 0, _, _ => none
  | n + 1, x2, σ => if x1 ≤ x2 then k27 x1 σ else bnd (f_Ground_follows 16 x2 σ) (fun r13 σ13 => if r13 = 0 then some (0, σ13) else (L_Ground_isSimple_2 k27 x1 n) (x2 + 1) σ13)
set_option maxHeartbeats 4000000 in
set_option maxRecDepth 100000 in
theorem w_Ground_isSimple_2 (C : Cx g p s m args meth c A 3 cX2_isSimple yX2_isSimple.cls) (hr : meth.sig.returnType = (some .boolean))  {res : Int32 × CS}  (x1 : Int32) {k27 : Int32 → CS → Option (Int32 × CS)} (hk27 : ∀ (x1 : Int32) (σ : CS) (ta : Nat → Nat), φ0 ≤ ph σ.2.2 → ph σ.2.2 ≤ BB → k27 x1 σ = some res → NI g p l e s m args below meth c A 4 111 3 ad Rr φ0 res ta σ [(0, .ref (ad 1)), (1, .int x1)] 27 []) : ∀ (n : Nat) (x2 : Int32) (σ : CS) (ta : Nat → Nat), φ0 ≤ ph σ.2.2 → ph σ.2.2 ≤ BB → L_Ground_isSimple_2 k27 x1 n x2 σ = some res → NI g p l e s m args below meth c A 4 111 3 ad Rr φ0 res ta σ [(0, .ref (ad 1)), (1, .int x1), (2, .int x2)] 2 [] := by
  intro n
  induction n with
  | zero =>
    intro x2 σ ta hφ hφ2 h
    exact absurd (show (none : Option (Int32 × CS)) = some res from h) (by intro h9; cases h9)
  | succ n ih =>
    intro x2 σ ta hφ hφ2 h
    rw [L_Ground_isSimple_2] at h
    refine nw_iload_n C dX2_isSimple_2 rfl 2 rfl ?_
    refine nw_iload_n C dX2_isSimple_3 rfl 1 rfl ?_
    refine nw_icmp_ge (tgt := 27) C dX2_isSimple_4 (by decide) h (fun _ h => ?_) (fun _ h => ?_)
    · exact nw_lv (lv' := [(0, .ref (ad 1)), (1, .int x1)]) [0, 1] rfl (hk27 x1 _ _ hφ hφ2 h)
    · refine nw_aload_n C dX2_isSimple_7 rfl 0 rfl ?_
      refine nw_aload_n C dX2_isSimple_8 rfl 0 rfl ?_
      refine nw_get (v := .ref (ad 43)) C in_X2 1 cl_Ground rfl 2 (by decide) tw_194 rfl rfl dX2_isSimple_9 ?_
      refine nw_iload_n C dX2_isSimple_12 rfl 2 rfl ?_
      refine nc_callVI (q0 := 1) (As := [.ref (ad 43), .int x2]) (rest := []) C h (fun _ _ e => c_Ground_follows 16 rfl e hφ2) tw_953 kv_X2_follows cl_Ground rfl ⟨Nat.le_of_ble_eq_true rfl, Nat.le_of_ble_eq_true rfl⟩ rfl dX2_isSimple_13 rfl (Nat.le_of_ble_eq_true rfl) hφ hφ2 (fun r13 σ13 ta h hφ hφ2 => ?_)
      refine nw_if_ne (tgt := 21) C dX2_isSimple_16 (by decide) h (fun _ h => ?_) (fun _ h => ?_)
      · refine nw_iconst (v := 0) C dX2_isSimple_19 (by decide) ?_
        exact nc_zret C hr (Or.inl rfl) dX2_isSimple_20 hφ hφ2 h
      · refine nw_iinc (lv' := [(2, .int (x2 + 1)), (0, .ref (ad 1)), (1, .int x1)]) C (x2 + 1) dX2_isSimple_21 2 rfl rfl (by decide) rfl ?_
        refine nw_goto (tgt := 2) C dX2_isSimple_24 (by decide) ?_
        exact nw_lv (lv' := [(0, .ref (ad 1)), (1, .int x1), (2, .int (x2 + 1))]) [1, 2, 0] rfl (ih (x2 + 1) _ _ hφ hφ2 h)
def B_Ground_isSimple_27   (x1 : Int32) (σ : CS) : Option (Int32 × CS) := bnd (f_Ground_closes 16 x1 σ) (fun r33 σ33 => grd (r33 = 0 ∨ r33 = 1) (some (r33, σ33)))
set_option maxHeartbeats 4000000 in
set_option maxRecDepth 100000 in
theorem w_Ground_isSimple_27 (C : Cx g p s m args meth c A 3 cX2_isSimple yX2_isSimple.cls) (hr : meth.sig.returnType = (some .boolean))  {res : Int32 × CS}   (x1 : Int32)  (σ : CS) (ta : Nat → Nat) (hφ : φ0 ≤ ph σ.2.2) (hφ2 : ph σ.2.2 ≤ BB) (h : B_Ground_isSimple_27 x1 σ = some res) : NI g p l e s m args below meth c A 4 111 3 ad Rr φ0 res ta σ [(0, .ref (ad 1)), (1, .int x1)] 27 [] := by
  unfold B_Ground_isSimple_27 at h
  refine nw_aload_n C dX2_isSimple_27 rfl 0 rfl ?_
  refine nw_aload_n C dX2_isSimple_28 rfl 0 rfl ?_
  refine nw_get (v := .ref (ad 43)) C in_X2 1 cl_Ground rfl 2 (by decide) tw_194 rfl rfl dX2_isSimple_29 ?_
  refine nw_iload_n C dX2_isSimple_32 rfl 1 rfl ?_
  refine nc_callVI (q0 := 1) (As := [.ref (ad 43), .int x1]) (rest := []) C h (fun _ _ e => c_Ground_closes 16 rfl e hφ2) tw_978 kv_X2_closes cl_Ground rfl ⟨Nat.le_of_ble_eq_true rfl, Nat.le_of_ble_eq_true rfl⟩ rfl dX2_isSimple_33 rfl (Nat.le_of_ble_eq_true rfl) hφ hφ2 (fun r33 σ33 ta h hφ hφ2 => ?_)
  exact nc_zretg C hr dX2_isSimple_36 hφ hφ2 h
def f_Ground_isSimple (p0 : Int32) (σ : CS) : Option (Int32 × CS) := L_Ground_isSimple_2 (B_Ground_isSimple_27) p0 FU 0 σ
set_option maxHeartbeats 4000000 in
set_option maxRecDepth 100000 in
theorem c_Ground_isSimple {l : Launch} {g : EG} {ad ta : Nat → Nat} {Rr : va_W} {σ σ' : CS} {r : Int32} {p0 : Int32}  (h : f_Ground_isSimple p0 σ = some (r, σ')) (hφ2 : ph σ.2.2 ≤ BB) : CtI l g yX2_isSimple (.code yX2_isSimple cX2_isSimple 3 (some .boolean)) 4 111 ad ta Rr σ [.ref (ad 1), .int p0] r σ' := by
  refine Ct.of rfl (by decide) (Nat.le_of_ble_eq_true rfl) ?_
  intro p e s m args below meth c A C hr
  have hφ : ph σ.2.2 ≤ ph σ.2.2 := Nat.le_refl _
  refine nw_zero (ph σ.2.2) ?_
  show NI g p l e s m args below meth c A 4 111 3 ad Rr (ph σ.2.2) (r, σ') ta σ [(0, .ref (ad 1)), (1, .int p0)] 0 []
  unfold f_Ground_isSimple at h
  refine nw_iconst (v := 0) C dX2_isSimple_0 (by decide) ?_
  refine nw_istore_n (lv' := [(2, .int 0), (0, .ref (ad 1)), (1, .int p0)]) C dX2_isSimple_1 rfl (by decide) rfl ?_
  exact nw_lv (lv' := [(0, .ref (ad 1)), (1, .int p0), (2, .int 0)]) [1, 2, 0] rfl (w_Ground_isSimple_2 C hr p0 (fun x1_ σ_ ta_ hφ_ hφ2_ h_ => w_Ground_isSimple_27 C hr x1_ σ_ ta_ hφ_ hφ2_ h_) FU 0 _ _ hφ hφ2 h)
theorem dX2_addRing_0 : decode cX2_addRing 0 = .ok (.aload_n 2, 1) := by decide +kernel
theorem dX2_addRing_1 : decode cX2_addRing 1 = .ok (.invokevirtual 27, 3) := by decide +kernel
theorem dX2_addRing_4 : decode cX2_addRing 4 = .ok (.istore_n 3, 1) := by decide +kernel
theorem dX2_addRing_5 : decode cX2_addRing 5 = .ok (.aload_n 0, 1) := by decide +kernel
theorem dX2_addRing_6 : decode cX2_addRing 6 = .ok (.getfield 20, 3) := by decide +kernel
theorem dX2_addRing_9 : decode cX2_addRing 9 = .ok (.invokevirtual 42, 3) := by decide +kernel
theorem dX2_addRing_12 : decode cX2_addRing 12 = .ok (.ifCond .eq 5, 3) := by decide +kernel
theorem dX2_addRing_15 : decode cX2_addRing 15 = .ok (.iconst (-1), 1) := by decide +kernel
theorem dX2_addRing_16 : decode cX2_addRing 16 = .ok (.ireturn, 1) := by decide +kernel
theorem dX2_addRing_17 : decode cX2_addRing 17 = .ok (.iload_n 3, 1) := by decide +kernel
theorem dX2_addRing_18 : decode cX2_addRing 18 = .ok (.iconst 3, 1) := by decide +kernel
theorem dX2_addRing_19 : decode cX2_addRing 19 = .ok (.if_icmp .lt 9, 3) := by decide +kernel
theorem dX2_addRing_22 : decode cX2_addRing 22 = .ok (.iload_n 3, 1) := by decide +kernel
theorem dX2_addRing_23 : decode cX2_addRing 23 = .ok (.bipush 10, 2) := by decide +kernel
theorem dX2_addRing_25 : decode cX2_addRing 25 = .ok (.if_icmp .le 6, 3) := by decide +kernel
theorem dX2_addRing_28 : decode cX2_addRing 28 = .ok (.bipush (-2), 2) := by decide +kernel
theorem dX2_addRing_30 : decode cX2_addRing 30 = .ok (.ireturn, 1) := by decide +kernel
theorem dX2_addRing_31 : decode cX2_addRing 31 = .ok (.iconst 0, 1) := by decide +kernel
theorem dX2_addRing_32 : decode cX2_addRing 32 = .ok (.istore 4, 2) := by decide +kernel
theorem dX2_addRing_34 : decode cX2_addRing 34 = .ok (.iload 4, 2) := by decide +kernel
theorem dX2_addRing_36 : decode cX2_addRing 36 = .ok (.iload_n 3, 1) := by decide +kernel
theorem dX2_addRing_37 : decode cX2_addRing 37 = .ok (.if_icmp .ge 53, 3) := by decide +kernel
theorem dX2_addRing_40 : decode cX2_addRing 40 = .ok (.iload 4, 2) := by decide +kernel
theorem dX2_addRing_42 : decode cX2_addRing 42 = .ok (.aload_n 0, 1) := by decide +kernel
theorem dX2_addRing_43 : decode cX2_addRing 43 = .ok (.getfield 23, 3) := by decide +kernel
theorem dX2_addRing_46 : decode cX2_addRing 46 = .ok (.arraylength, 1) := by decide +kernel
theorem dX2_addRing_47 : decode cX2_addRing 47 = .ok (.if_icmp .ge 43, 3) := by decide +kernel
theorem dX2_addRing_50 : decode cX2_addRing 50 = .ok (.aload_n 0, 1) := by decide +kernel
theorem dX2_addRing_51 : decode cX2_addRing 51 = .ok (.getfield 23, 3) := by decide +kernel
theorem dX2_addRing_54 : decode cX2_addRing 54 = .ok (.iload 4, 2) := by decide +kernel
theorem dX2_addRing_56 : decode cX2_addRing 56 = .ok (.aload_n 2, 1) := by decide +kernel
theorem dX2_addRing_57 : decode cX2_addRing 57 = .ok (.iload 4, 2) := by decide +kernel
theorem dX2_addRing_59 : decode cX2_addRing 59 = .ok (.iconst 0, 1) := by decide +kernel
theorem dX2_addRing_60 : decode cX2_addRing 60 = .ok (.invokevirtual 31, 3) := by decide +kernel
theorem dX2_addRing_63 : decode cX2_addRing 63 = .ok (.iastore, 1) := by decide +kernel
theorem dX2_addRing_64 : decode cX2_addRing 64 = .ok (.aload_n 0, 1) := by decide +kernel
theorem dX2_addRing_65 : decode cX2_addRing 65 = .ok (.getfield 16, 3) := by decide +kernel
theorem dX2_addRing_68 : decode cX2_addRing 68 = .ok (.aload_n 0, 1) := by decide +kernel
theorem dX2_addRing_69 : decode cX2_addRing 69 = .ok (.getfield 23, 3) := by decide +kernel
theorem dX2_addRing_72 : decode cX2_addRing 72 = .ok (.iload 4, 2) := by decide +kernel
theorem dX2_addRing_74 : decode cX2_addRing 74 = .ok (.iaload, 1) := by decide +kernel
theorem dX2_addRing_75 : decode cX2_addRing 75 = .ok (.invokevirtual 46, 3) := by decide +kernel
theorem dX2_addRing_78 : decode cX2_addRing 78 = .ok (.ifCond .ne 6, 3) := by decide +kernel
theorem dX2_addRing_81 : decode cX2_addRing 81 = .ok (.bipush (-3), 2) := by decide +kernel
theorem dX2_addRing_83 : decode cX2_addRing 83 = .ok (.ireturn, 1) := by decide +kernel
theorem dX2_addRing_84 : decode cX2_addRing 84 = .ok (.iinc 4 1, 3) := by decide +kernel
theorem dX2_addRing_87 : decode cX2_addRing 87 = .ok (.goto (-53), 3) := by decide +kernel
theorem dX2_addRing_90 : decode cX2_addRing 90 = .ok (.aload_n 0, 1) := by decide +kernel
theorem dX2_addRing_91 : decode cX2_addRing 91 = .ok (.iload_n 3, 1) := by decide +kernel
theorem dX2_addRing_92 : decode cX2_addRing 92 = .ok (.invokevirtual 50, 3) := by decide +kernel
theorem dX2_addRing_95 : decode cX2_addRing 95 = .ok (.ifCond .ne 6, 3) := by decide +kernel
theorem dX2_addRing_98 : decode cX2_addRing 98 = .ok (.bipush (-4), 2) := by decide +kernel
theorem dX2_addRing_100 : decode cX2_addRing 100 = .ok (.ireturn, 1) := by decide +kernel
theorem dX2_addRing_101 : decode cX2_addRing 101 = .ok (.aload_n 0, 1) := by decide +kernel
theorem dX2_addRing_102 : decode cX2_addRing 102 = .ok (.getfield 20, 3) := by decide +kernel
theorem dX2_addRing_105 : decode cX2_addRing 105 = .ok (.invokevirtual 35, 3) := by decide +kernel
theorem dX2_addRing_108 : decode cX2_addRing 108 = .ok (.istore 4, 2) := by decide +kernel
theorem dX2_addRing_110 : decode cX2_addRing 110 = .ok (.aload_n 0, 1) := by decide +kernel
theorem dX2_addRing_111 : decode cX2_addRing 111 = .ok (.getfield 20, 3) := by decide +kernel
theorem dX2_addRing_114 : decode cX2_addRing 114 = .ok (.iload 4, 2) := by decide +kernel
theorem dX2_addRing_116 : decode cX2_addRing 116 = .ok (.iconst 0, 1) := by decide +kernel
theorem dX2_addRing_117 : decode cX2_addRing 117 = .ok (.iload_n 1, 1) := by decide +kernel
theorem dX2_addRing_118 : decode cX2_addRing 118 = .ok (.invokevirtual 38, 3) := by decide +kernel
theorem dX2_addRing_121 : decode cX2_addRing 121 = .ok (.aload_n 0, 1) := by decide +kernel
theorem dX2_addRing_122 : decode cX2_addRing 122 = .ok (.getfield 20, 3) := by decide +kernel
theorem dX2_addRing_125 : decode cX2_addRing 125 = .ok (.iload 4, 2) := by decide +kernel
theorem dX2_addRing_127 : decode cX2_addRing 127 = .ok (.iconst 2, 1) := by decide +kernel
theorem dX2_addRing_128 : decode cX2_addRing 128 = .ok (.iload_n 3, 1) := by decide +kernel
theorem dX2_addRing_129 : decode cX2_addRing 129 = .ok (.invokevirtual 38, 3) := by decide +kernel
theorem dX2_addRing_132 : decode cX2_addRing 132 = .ok (.iconst 0, 1) := by decide +kernel
theorem dX2_addRing_133 : decode cX2_addRing 133 = .ok (.istore 5, 2) := by decide +kernel
theorem dX2_addRing_135 : decode cX2_addRing 135 = .ok (.iload 5, 2) := by decide +kernel
theorem dX2_addRing_137 : decode cX2_addRing 137 = .ok (.iload_n 3, 1) := by decide +kernel
theorem dX2_addRing_138 : decode cX2_addRing 138 = .ok (.if_icmp .ge 39, 3) := by decide +kernel
theorem dX2_addRing_141 : decode cX2_addRing 141 = .ok (.iload 5, 2) := by decide +kernel
theorem dX2_addRing_143 : decode cX2_addRing 143 = .ok (.aload_n 0, 1) := by decide +kernel
theorem dX2_addRing_144 : decode cX2_addRing 144 = .ok (.getfield 23, 3) := by decide +kernel
theorem dX2_addRing_147 : decode cX2_addRing 147 = .ok (.arraylength, 1) := by decide +kernel
theorem dX2_addRing_148 : decode cX2_addRing 148 = .ok (.if_icmp .ge 29, 3) := by decide +kernel
theorem dX2_addRing_151 : decode cX2_addRing 151 = .ok (.aload_n 0, 1) := by decide +kernel
theorem dX2_addRing_152 : decode cX2_addRing 152 = .ok (.getfield 20, 3) := by decide +kernel
theorem dX2_addRing_155 : decode cX2_addRing 155 = .ok (.iload 4, 2) := by decide +kernel
theorem dX2_addRing_157 : decode cX2_addRing 157 = .ok (.iconst 3, 1) := by decide +kernel
theorem dX2_addRing_158 : decode cX2_addRing 158 = .ok (.iload 5, 2) := by decide +kernel
theorem dX2_addRing_160 : decode cX2_addRing 160 = .ok (.iadd, 1) := by decide +kernel
theorem dX2_addRing_161 : decode cX2_addRing 161 = .ok (.aload_n 0, 1) := by decide +kernel
theorem dX2_addRing_162 : decode cX2_addRing 162 = .ok (.getfield 23, 3) := by decide +kernel
theorem dX2_addRing_165 : decode cX2_addRing 165 = .ok (.iload 5, 2) := by decide +kernel
theorem dX2_addRing_167 : decode cX2_addRing 167 = .ok (.iaload, 1) := by decide +kernel
theorem dX2_addRing_168 : decode cX2_addRing 168 = .ok (.invokevirtual 38, 3) := by decide +kernel
theorem dX2_addRing_171 : decode cX2_addRing 171 = .ok (.iinc 5 1, 3) := by decide +kernel
theorem dX2_addRing_174 : decode cX2_addRing 174 = .ok (.goto (-39), 3) := by decide +kernel
theorem dX2_addRing_177 : decode cX2_addRing 177 = .ok (.iload 4, 2) := by decide +kernel
theorem dX2_addRing_179 : decode cX2_addRing 179 = .ok (.ireturn, 1) := by decide +kernel
def L_Ground_addRing_34 (k90 : Int32 → Int32 → CS → Option (Int32 × CS)) (x1 : Int32) (x3 : Int32) : Nat → Int32 → CS → Option (Int32 × CS)
  | 0, _, _ => none
  | n + 1, x4, σ => if x3 ≤ x4 then k90 x1 x3 σ else if 10 ≤ x4 then k90 x1 x3 σ else bnd (f_Table_get 0 x4 0 σ) (fun r60 σ60 => gix x4 10 (gix x4 10 (bnd (f_Table_has 1 (rd (wr σ60 16 x4 r60) 16 x4) (wr σ60 16 x4 r60)) (fun r75 σ75 => if r75 = 0 then some ((-3), σ75) else (L_Ground_addRing_34 k90 x1 x3 n) (x4 + 1) σ75))))
set_option maxHeartbeats 4000000 in
set_option maxRecDepth 100000 in
theorem w_Ground_addRing_34 (C : Cx g p s m args meth c A 6 cX2_addRing yX2_addRing.cls) (hr : meth.sig.returnType = (some .int))  {res : Int32 × CS}  (x1 : Int32) (x3 : Int32) {k90 : Int32 → Int32 → CS → Option (Int32 × CS)} (hk90 : ∀ (x1 : Int32) (x3 : Int32) (σ : CS) (ta : Nat → Nat), φ0 ≤ ph σ.2.2 → ph σ.2.2 ≤ BB → k90 x1 x3 σ = some res → NI g p l e s m args below meth c A 5 222 6 ad Rr φ0 res ta σ [(0, .ref (ad 1)), (1, .int x1), (3, .int x3)] 90 []) : ∀ (n : Nat) (x4 : Int32) (σ : CS) (ta : Nat → Nat), φ0 ≤ ph σ.2.2 → ph σ.2.2 ≤ BB → L_Ground_addRing_34 k90 x1 x3 n x4 σ = some res → NI g p l e s m args below meth c A 5 222 6 ad Rr φ0 res ta σ [(0, .ref (ad 1)), (1, .int x1), (2, .ref (ad 11)), (3, .int x3), (4, .int x4)] 34 [] := by
  intro n
  induction n with
  | zero =>
    intro x4 σ ta hφ hφ2 h
    exact absurd (show (none : Option (Int32 × CS)) = some res from h) (by intro h9; cases h9)
  | succ n ih =>
    intro x4 σ ta hφ hφ2 h
    rw [L_Ground_addRing_34] at h
    refine nw_iload C dX2_addRing_34 4 rfl ?_
    refine nw_iload_n C dX2_addRing_36 rfl 3 rfl ?_
    refine nw_icmp_ge (tgt := 90) C dX2_addRing_37 (by decide) h (fun _ h => ?_) (fun _ h => ?_)
    · exact nw_lv (lv' := [(0, .ref (ad 1)), (1, .int x1), (3, .int x3)]) [0, 1, 3] rfl (hk90 x1 x3 _ _ hφ hφ2 h)
    · refine nw_iload C dX2_addRing_40 4 rfl ?_
      refine nw_aload_n C dX2_addRing_42 rfl 0 rfl ?_
      refine nw_get (v := .ref (ad 43)) C in_X2 1 cl_Ground rfl 2 (by decide) tw_194 rfl rfl dX2_addRing_43 ?_
      refine nw_alenI C 43 (cl_I 16 rfl) dX2_addRing_46 ?_
      refine nw_st (st' := [.int 10, .int x4]) rfl ?_
      refine nw_icmp_ge (tgt := 90) C dX2_addRing_47 (by decide) h (fun _ h => ?_) (fun _ h => ?_)
      · exact nw_lv (lv' := [(0, .ref (ad 1)), (1, .int x1), (3, .int x3)]) [0, 1, 3] rfl (hk90 x1 x3 _ _ hφ hφ2 h)
      · refine nw_aload_n C dX2_addRing_50 rfl 0 rfl ?_
        refine nw_get (v := .ref (ad 43)) C in_X2 1 cl_Ground rfl 2 (by decide) tw_194 rfl rfl dX2_addRing_51 ?_
        refine nw_iload C dX2_addRing_54 4 rfl ?_
        refine nw_aload_n C dX2_addRing_56 rfl 2 rfl ?_
        refine nw_iload C dX2_addRing_57 4 rfl ?_
        refine nw_iconst (v := 0) C dX2_addRing_59 (by decide) ?_
        refine nc_callVI (q0 := 11) (As := [.int x4, .int 0]) (rest := [.int x4, .ref (ad 43)]) C h (fun _ _ e => c_Table_get 0 (by decide) e hφ2) tw_841 kv_X9_get (cl_T 0 (by decide)) rfl ⟨Nat.le_of_ble_eq_true rfl, Nat.le_of_ble_eq_true rfl⟩ rfl dX2_addRing_60 rfl (Nat.le_of_ble_eq_true rfl) hφ hφ2 (fun r60 σ60 ta h hφ hφ2 => ?_)
        refine nw_iast C 43 (cl_I 16 rfl) dX2_addRing_63 h (cs_I 16 rfl) (fun h => ?_)
        refine nw_aload_n C dX2_addRing_64 rfl 0 rfl ?_
        refine nw_get (v := .ref (ad 12)) C in_X2 1 cl_Ground rfl 0 (by decide) tw_189 rfl rfl dX2_addRing_65 ?_
        refine nw_aload_n C dX2_addRing_68 rfl 0 rfl ?_
        refine nw_get (v := .ref (ad 43)) C in_X2 1 cl_Ground rfl 2 (by decide) tw_194 rfl rfl dX2_addRing_69 ?_
        refine nw_iload C dX2_addRing_72 4 rfl ?_
        refine nw_iald C 43 (cl_I 16 rfl) dX2_addRing_74 h (fun h => ?_)
        refine nw_st (st' := [.int (rd (wr σ60 16 x4 r60) 16 x4), .ref (ad 12)]) rfl ?_
        refine nc_callVI (q0 := 12) (As := [.int (rd (wr σ60 16 x4 r60) 16 x4)]) (rest := []) C h (fun _ _ e => c_Table_has 1 (by decide) e hφ2) tw_948 kv_X9_has (cl_T 1 (by decide)) rfl ⟨Nat.le_of_ble_eq_true rfl, Nat.le_of_ble_eq_true rfl⟩ rfl dX2_addRing_75 rfl (Nat.le_of_ble_eq_true rfl) hφ hφ2 (fun r75 σ75 ta h hφ hφ2 => ?_)
        refine nw_if_ne (tgt := 84) C dX2_addRing_78 (by decide) h (fun _ h => ?_) (fun _ h => ?_)
        · refine nw_bipush (v := (-3)) C dX2_addRing_81 (by decide) ?_
          exact nc_iret C hr dX2_addRing_83 hφ hφ2 h
        · refine nw_iinc (lv' := [(4, .int (x4 + 1)), (0, .ref (ad 1)), (1, .int x1), (2, .ref (ad 11)), (3, .int x3)]) C (x4 + 1) dX2_addRing_84 4 rfl rfl (by decide) rfl ?_
          refine nw_goto (tgt := 34) C dX2_addRing_87 (by decide) ?_
          exact nw_lv (lv' := [(0, .ref (ad 1)), (1, .int x1), (2, .ref (ad 11)), (3, .int x3), (4, .int (x4 + 1))]) [1, 2, 3, 4, 0] rfl (ih (x4 + 1) _ _ hφ hφ2 h)
def L_Ground_addRing_135  (x3 : Int32) (x4 : Int32) : Nat → Int32 → CS → Option (Int32 × CS)
  | 0, _, _ => none
  | n + 1, x5, σ => if x3 ≤ x5 then some (x4, σ) else if 10 ≤ x5 then some (x4, σ) else gix x5 10 (bnd (f_Table_put 2 x4 (3 + x5) (rd σ 16 x5) σ) (fun _ σ168 => (L_Ground_addRing_135 x3 x4 n) (x5 + 1) σ168))
set_option maxHeartbeats 4000000 in
set_option maxRecDepth 100000 in
theorem w_Ground_addRing_135 (C : Cx g p s m args meth c A 6 cX2_addRing yX2_addRing.cls) (hr : meth.sig.returnType = (some .int))  {res : Int32 × CS}  (x3 : Int32) (x4 : Int32)  : ∀ (n : Nat) (x5 : Int32) (σ : CS) (ta : Nat → Nat), φ0 ≤ ph σ.2.2 → ph σ.2.2 ≤ BB → L_Ground_addRing_135 x3 x4 n x5 σ = some res → NI g p l e s m args below meth c A 5 222 6 ad Rr φ0 res ta σ [(0, .ref (ad 1)), (3, .int x3), (4, .int x4), (5, .int x5)] 135 [] := by
  intro n
  induction n with
  | zero =>
    intro x5 σ ta hφ hφ2 h
    exact absurd (show (none : Option (Int32 × CS)) = some res from h) (by intro h9; cases h9)
  | succ n ih =>
    intro x5 σ ta hφ hφ2 h
    rw [L_Ground_addRing_135] at h
    refine nw_iload C dX2_addRing_135 3 rfl ?_
    refine nw_iload_n C dX2_addRing_137 rfl 1 rfl ?_
    refine nw_icmp_ge (tgt := 177) C dX2_addRing_138 (by decide) h (fun _ h => ?_) (fun _ h => ?_)
    · refine nw_iload C dX2_addRing_177 2 rfl ?_
      exact nc_iret C hr dX2_addRing_179 hφ hφ2 h
    · refine nw_iload C dX2_addRing_141 3 rfl ?_
      refine nw_aload_n C dX2_addRing_143 rfl 0 rfl ?_
      refine nw_get (v := .ref (ad 43)) C in_X2 1 cl_Ground rfl 2 (by decide) tw_194 rfl rfl dX2_addRing_144 ?_
      refine nw_alenI C 43 (cl_I 16 rfl) dX2_addRing_147 ?_
      refine nw_st (st' := [.int 10, .int x5]) rfl ?_
      refine nw_icmp_ge (tgt := 177) C dX2_addRing_148 (by decide) h (fun _ h => ?_) (fun _ h => ?_)
      · refine nw_iload C dX2_addRing_177 2 rfl ?_
        exact nc_iret C hr dX2_addRing_179 hφ hφ2 h
      · refine nw_aload_n C dX2_addRing_151 rfl 0 rfl ?_
        refine nw_get (v := .ref (ad 13)) C in_X2 1 cl_Ground rfl 1 (by decide) tw_192 rfl rfl dX2_addRing_152 ?_
        refine nw_iload C dX2_addRing_155 2 rfl ?_
        refine nw_iconst (v := 3) C dX2_addRing_157 (by decide) ?_
        refine nw_iload C dX2_addRing_158 3 rfl ?_
        refine nw_iadd C dX2_addRing_160 ?_
        refine nw_aload_n C dX2_addRing_161 rfl 0 rfl ?_
        refine nw_get (v := .ref (ad 43)) C in_X2 1 cl_Ground rfl 2 (by decide) tw_194 rfl rfl dX2_addRing_162 ?_
        refine nw_iload C dX2_addRing_165 3 rfl ?_
        refine nw_iald C 43 (cl_I 16 rfl) dX2_addRing_167 h (fun h => ?_)
        refine nc_callVV (q0 := 13) (As := [.int x4, .int (3 + x5), .int (rd σ 16 x5)]) (rest := []) C h (fun _ _ e => c_Table_put 2 (by decide) e hφ2) tw_928 kv_X9_put (cl_T 2 (by decide)) rfl ⟨Nat.le_of_ble_eq_true rfl, Nat.le_of_ble_eq_true rfl⟩ rfl dX2_addRing_168 rfl (Nat.le_of_ble_eq_true rfl) hφ hφ2 (fun r168 σ168 ta h hφ hφ2 => ?_)
        refine nw_iinc (lv' := [(5, .int (x5 + 1)), (0, .ref (ad 1)), (3, .int x3), (4, .int x4)]) C (x5 + 1) dX2_addRing_171 3 rfl rfl (by decide) rfl ?_
        refine nw_goto (tgt := 135) C dX2_addRing_174 (by decide) ?_
        exact nw_lv (lv' := [(0, .ref (ad 1)), (3, .int x3), (4, .int x4), (5, .int (x5 + 1))]) [1, 2, 3, 0] rfl (ih (x5 + 1) _ _ hφ hφ2 h)
def B_Ground_addRing_90   (x1 : Int32) (x3 : Int32) (σ : CS) : Option (Int32 × CS) := bnd (f_Ground_isSimple x3 σ) (fun r92 σ92 => if r92 = 0 then some ((-4), σ92) else bnd (f_Table_add 2 σ92) (fun r105 σ105 => bnd (f_Table_put 2 r105 0 x1 σ105) (fun _ σ118 => bnd (f_Table_put 2 r105 2 x3 σ118) (fun _ σ129 => L_Ground_addRing_135 x3 r105 FU 0 σ129))))
set_option maxHeartbeats 4000000 in
set_option maxRecDepth 100000 in
theorem w_Ground_addRing_90 (C : Cx g p s m args meth c A 6 cX2_addRing yX2_addRing.cls) (hr : meth.sig.returnType = (some .int))  {res : Int32 × CS}   (x1 : Int32) (x3 : Int32)  (σ : CS) (ta : Nat → Nat) (hφ : φ0 ≤ ph σ.2.2) (hφ2 : ph σ.2.2 ≤ BB) (h : B_Ground_addRing_90 x1 x3 σ = some res) : NI g p l e s m args below meth c A 5 222 6 ad Rr φ0 res ta σ [(0, .ref (ad 1)), (1, .int x1), (3, .int x3)] 90 [] := by
  unfold B_Ground_addRing_90 at h
  refine nw_aload_n C dX2_addRing_90 rfl 0 rfl ?_
  refine nw_iload_n C dX2_addRing_91 rfl 2 rfl ?_
  refine nc_callVI (q0 := 1) (As := [.int x3]) (rest := []) C h (fun _ _ e => c_Ground_isSimple e hφ2) tw_949 kv_X2_isSimple cl_Ground rfl ⟨Nat.le_of_ble_eq_true rfl, Nat.le_of_ble_eq_true rfl⟩ rfl dX2_addRing_92 rfl (Nat.le_of_ble_eq_true rfl) hφ hφ2 (fun r92 σ92 ta h hφ hφ2 => ?_)
  refine nw_if_ne (tgt := 101) C dX2_addRing_95 (by decide) h (fun _ h => ?_) (fun _ h => ?_)
  · refine nw_bipush (v := (-4)) C dX2_addRing_98 (by decide) ?_
    exact nc_iret C hr dX2_addRing_100 hφ hφ2 h
  · refine nw_aload_n C dX2_addRing_101 rfl 0 rfl ?_
    refine nw_get (v := .ref (ad 13)) C in_X2 1 cl_Ground rfl 1 (by decide) tw_192 rfl rfl dX2_addRing_102 ?_
    refine nc_callVI (q0 := 13) (As := []) (rest := []) C h (fun _ _ e => c_Table_add 2 (by decide) e hφ2) tw_927 kv_X9_add (cl_T 2 (by decide)) rfl ⟨Nat.le_of_ble_eq_true rfl, Nat.le_of_ble_eq_true rfl⟩ rfl dX2_addRing_105 rfl (Nat.le_of_ble_eq_true rfl) hφ hφ2 (fun r105 σ105 ta h hφ hφ2 => ?_)
    refine nw_istore (lv' := [(4, .int r105), (0, .ref (ad 1)), (1, .int x1), (3, .int x3)]) C dX2_addRing_108 (by decide) rfl ?_
    refine nw_aload_n C dX2_addRing_110 rfl 1 rfl ?_
    refine nw_get (v := .ref (ad 13)) C in_X2 1 cl_Ground rfl 1 (by decide) tw_192 rfl rfl dX2_addRing_111 ?_
    refine nw_iload C dX2_addRing_114 0 rfl ?_
    refine nw_iconst (v := 0) C dX2_addRing_116 (by decide) ?_
    refine nw_iload_n C dX2_addRing_117 rfl 2 rfl ?_
    refine nc_callVV (q0 := 13) (As := [.int r105, .int 0, .int x1]) (rest := []) C h (fun _ _ e => c_Table_put 2 (by decide) e hφ2) tw_928 kv_X9_put (cl_T 2 (by decide)) rfl ⟨Nat.le_of_ble_eq_true rfl, Nat.le_of_ble_eq_true rfl⟩ rfl dX2_addRing_118 rfl (Nat.le_of_ble_eq_true rfl) hφ hφ2 (fun r118 σ118 ta h hφ hφ2 => ?_)
    refine nw_aload_n C dX2_addRing_121 rfl 1 rfl ?_
    refine nw_get (v := .ref (ad 13)) C in_X2 1 cl_Ground rfl 1 (by decide) tw_192 rfl rfl dX2_addRing_122 ?_
    refine nw_iload C dX2_addRing_125 0 rfl ?_
    refine nw_iconst (v := 2) C dX2_addRing_127 (by decide) ?_
    refine nw_iload_n C dX2_addRing_128 rfl 3 rfl ?_
    refine nc_callVV (q0 := 13) (As := [.int r105, .int 2, .int x3]) (rest := []) C h (fun _ _ e => c_Table_put 2 (by decide) e hφ2) tw_928 kv_X9_put (cl_T 2 (by decide)) rfl ⟨Nat.le_of_ble_eq_true rfl, Nat.le_of_ble_eq_true rfl⟩ rfl dX2_addRing_129 rfl (Nat.le_of_ble_eq_true rfl) hφ hφ2 (fun r129 σ129 ta h hφ hφ2 => ?_)
    refine nw_iconst (v := 0) C dX2_addRing_132 (by decide) ?_
    refine nw_istore (lv' := [(5, .int 0), (4, .int r105), (0, .ref (ad 1)), (1, .int x1), (3, .int x3)]) C dX2_addRing_133 (by decide) rfl ?_
    exact nw_lv (lv' := [(0, .ref (ad 1)), (3, .int x3), (4, .int r105), (5, .int 0)]) [2, 4, 1, 0] rfl (w_Ground_addRing_135 C hr x3 r105 FU 0 _ _ hφ hφ2 h)
def f_Ground_addRing (p0 : Int32) (σ : CS) : Option (Int32 × CS) := bnd (f_Table_size 0 σ) (fun r1 σ1 => bnd (f_Table_isFull 2 σ1) (fun r9 σ9 => if r9 = 0 then if r1 < 3 then some ((-2), σ9) else if r1 ≤ 10 then L_Ground_addRing_34 (B_Ground_addRing_90) p0 r1 FU 0 σ9 else some ((-2), σ9) else some ((-1), σ9)))
set_option maxHeartbeats 4000000 in
set_option maxRecDepth 100000 in
theorem c_Ground_addRing {l : Launch} {g : EG} {ad ta : Nat → Nat} {Rr : va_W} {σ σ' : CS} {r : Int32} {p0 : Int32}  (h : f_Ground_addRing p0 σ = some (r, σ')) (hφ2 : ph σ.2.2 ≤ BB) : CtI l g yX2_addRing (.code yX2_addRing cX2_addRing 6 (some .int)) 5 222 ad ta Rr σ [.ref (ad 1), .int p0, .ref (ad 11)] r σ' := by
  refine Ct.of rfl (by decide) (Nat.le_of_ble_eq_true rfl) ?_
  intro p e s m args below meth c A C hr
  have hφ : ph σ.2.2 ≤ ph σ.2.2 := Nat.le_refl _
  refine nw_zero (ph σ.2.2) ?_
  show NI g p l e s m args below meth c A 5 222 6 ad Rr (ph σ.2.2) (r, σ') ta σ [(0, .ref (ad 1)), (1, .int p0), (2, .ref (ad 11))] 0 []
  unfold f_Ground_addRing at h
  refine nw_aload_n C dX2_addRing_0 rfl 2 rfl ?_
  refine nc_callVI (q0 := 11) (As := []) (rest := []) C h (fun _ _ e => c_Table_size 0 (by decide) e hφ2) tw_840 kv_X9_size (cl_T 0 (by decide)) rfl ⟨Nat.le_of_ble_eq_true rfl, Nat.le_of_ble_eq_true rfl⟩ rfl dX2_addRing_1 rfl (Nat.le_of_ble_eq_true rfl) hφ hφ2 (fun r1 σ1 ta h hφ hφ2 => ?_)
  refine nw_istore_n (lv' := [(3, .int r1), (0, .ref (ad 1)), (1, .int p0), (2, .ref (ad 11))]) C dX2_addRing_4 rfl (by decide) rfl ?_
  refine nw_aload_n C dX2_addRing_5 rfl 1 rfl ?_
  refine nw_get (v := .ref (ad 13)) C in_X2 1 cl_Ground rfl 1 (by decide) tw_192 rfl rfl dX2_addRing_6 ?_
  refine nc_callVI (q0 := 13) (As := []) (rest := []) C h (fun _ _ e => c_Table_isFull 2 (by decide) e hφ2) tw_947 kv_X9_isFull (cl_T 2 (by decide)) rfl ⟨Nat.le_of_ble_eq_true rfl, Nat.le_of_ble_eq_true rfl⟩ rfl dX2_addRing_9 rfl (Nat.le_of_ble_eq_true rfl) hφ hφ2 (fun r9 σ9 ta h hφ hφ2 => ?_)
  refine nw_if_eq (tgt := 17) C dX2_addRing_12 (by decide) h (fun _ h => ?_) (fun _ h => ?_)
  · refine nw_iload_n C dX2_addRing_17 rfl 0 rfl ?_
    refine nw_iconst (v := 3) C dX2_addRing_18 (by decide) ?_
    refine nw_icmp_lt (tgt := 28) C dX2_addRing_19 (by decide) h (fun _ h => ?_) (fun _ h => ?_)
    · refine nw_bipush (v := (-2)) C dX2_addRing_28 (by decide) ?_
      exact nc_iret C hr dX2_addRing_30 hφ hφ2 h
    · refine nw_iload_n C dX2_addRing_22 rfl 0 rfl ?_
      refine nw_bipush (v := 10) C dX2_addRing_23 (by decide) ?_
      refine nw_icmp_le (tgt := 31) C dX2_addRing_25 (by decide) h (fun _ h => ?_) (fun _ h => ?_)
      · refine nw_iconst (v := 0) C dX2_addRing_31 (by decide) ?_
        refine nw_istore (lv' := [(4, .int 0), (3, .int r1), (0, .ref (ad 1)), (1, .int p0), (2, .ref (ad 11))]) C dX2_addRing_32 (by decide) rfl ?_
        exact nw_lv (lv' := [(0, .ref (ad 1)), (1, .int p0), (2, .ref (ad 11)), (3, .int r1), (4, .int 0)]) [2, 3, 4, 1, 0] rfl (w_Ground_addRing_34 C hr p0 r1 (fun x1_ x3_ σ_ ta_ hφ_ hφ2_ h_ => w_Ground_addRing_90 C hr x1_ x3_ σ_ ta_ hφ_ hφ2_ h_) FU 0 _ _ hφ hφ2 h)
      · refine nw_bipush (v := (-2)) C dX2_addRing_28 (by decide) ?_
        exact nc_iret C hr dX2_addRing_30 hφ hφ2 h
  · refine nw_iconst (v := (-1)) C dX2_addRing_15 (by decide) ?_
    exact nc_iret C hr dX2_addRing_16 hφ hφ2 h
theorem dX2_wayOf_0 : decode cX2_wayOf 0 = .ok (.aload_n 0, 1) := by decide +kernel
theorem dX2_wayOf_1 : decode cX2_wayOf 1 = .ok (.getfield 16, 3) := by decide +kernel
theorem dX2_wayOf_4 : decode cX2_wayOf 4 = .ok (.iload_n 1, 1) := by decide +kernel
theorem dX2_wayOf_5 : decode cX2_wayOf 5 = .ok (.iconst 1, 1) := by decide +kernel
theorem dX2_wayOf_6 : decode cX2_wayOf 6 = .ok (.invokevirtual 31, 3) := by decide +kernel
theorem dX2_wayOf_9 : decode cX2_wayOf 9 = .ok (.aload_n 0, 1) := by decide +kernel
theorem dX2_wayOf_10 : decode cX2_wayOf 10 = .ok (.getfield 16, 3) := by decide +kernel
theorem dX2_wayOf_13 : decode cX2_wayOf 13 = .ok (.iload_n 1, 1) := by decide +kernel
theorem dX2_wayOf_14 : decode cX2_wayOf 14 = .ok (.iconst 2, 1) := by decide +kernel
theorem dX2_wayOf_15 : decode cX2_wayOf 15 = .ok (.invokevirtual 31, 3) := by decide +kernel
theorem dX2_wayOf_18 : decode cX2_wayOf 18 = .ok (.aload_n 0, 1) := by decide +kernel
theorem dX2_wayOf_19 : decode cX2_wayOf 19 = .ok (.getfield 16, 3) := by decide +kernel
theorem dX2_wayOf_22 : decode cX2_wayOf 22 = .ok (.iload_n 2, 1) := by decide +kernel
theorem dX2_wayOf_23 : decode cX2_wayOf 23 = .ok (.iconst 1, 1) := by decide +kernel
theorem dX2_wayOf_24 : decode cX2_wayOf 24 = .ok (.invokevirtual 31, 3) := by decide +kernel
theorem dX2_wayOf_27 : decode cX2_wayOf 27 = .ok (.aload_n 0, 1) := by decide +kernel
theorem dX2_wayOf_28 : decode cX2_wayOf 28 = .ok (.getfield 16, 3) := by decide +kernel
theorem dX2_wayOf_31 : decode cX2_wayOf 31 = .ok (.iload_n 2, 1) := by decide +kernel
theorem dX2_wayOf_32 : decode cX2_wayOf 32 = .ok (.iconst 2, 1) := by decide +kernel
theorem dX2_wayOf_33 : decode cX2_wayOf 33 = .ok (.invokevirtual 31, 3) := by decide +kernel
theorem dX2_wayOf_36 : decode cX2_wayOf 36 = .ok (.invokestatic 91, 3) := by decide +kernel
theorem dX2_wayOf_39 : decode cX2_wayOf 39 = .ok (.ireturn, 1) := by decide +kernel
def f_Ground_wayOf (p0 : Int32) (p1 : Int32) (σ : CS) : Option (Int32 × CS) := bnd (f_Table_get 1 p0 1 σ) (fun r6 σ6 => bnd (f_Table_get 1 p0 2 σ6) (fun r15 σ15 => bnd (f_Table_get 1 p1 1 σ15) (fun r24 σ24 => bnd (f_Table_get 1 p1 2 σ24) (fun r33 σ33 => bnd (f_FC_wayBetween r6 r15 r24 r33 σ33) (fun r36 σ36 => some (r36, σ36))))))
set_option maxHeartbeats 4000000 in
set_option maxRecDepth 100000 in
theorem c_Ground_wayOf {l : Launch} {g : EG} {ad ta : Nat → Nat} {Rr : va_W} {σ σ' : CS} {r : Int32} {p0 : Int32} {p1 : Int32}  (h : f_Ground_wayOf p0 p1 σ = some (r, σ')) (hφ2 : ph σ.2.2 ≤ BB) : CtI l g yX2_wayOf (.code yX2_wayOf cX2_wayOf 3 (some .int)) 2 63 ad ta Rr σ [.ref (ad 1), .int p0, .int p1] r σ' := by
  refine Ct.of rfl (by decide) (Nat.le_of_ble_eq_true rfl) ?_
  intro p e s m args below meth c A C hr
  have hφ : ph σ.2.2 ≤ ph σ.2.2 := Nat.le_refl _
  refine nw_zero (ph σ.2.2) ?_
  show NI g p l e s m args below meth c A 2 63 3 ad Rr (ph σ.2.2) (r, σ') ta σ [(0, .ref (ad 1)), (1, .int p0), (2, .int p1)] 0 []
  unfold f_Ground_wayOf at h
  refine nw_aload_n C dX2_wayOf_0 rfl 0 rfl ?_
  refine nw_get (v := .ref (ad 12)) C in_X2 1 cl_Ground rfl 0 (by decide) tw_189 rfl rfl dX2_wayOf_1 ?_
  refine nw_iload_n C dX2_wayOf_4 rfl 1 rfl ?_
  refine nw_iconst (v := 1) C dX2_wayOf_5 (by decide) ?_
  refine nc_callVI (q0 := 12) (As := [.int p0, .int 1]) (rest := []) C h (fun _ _ e => c_Table_get 1 (by decide) e hφ2) tw_841 kv_X9_get (cl_T 1 (by decide)) rfl ⟨Nat.le_of_ble_eq_true rfl, Nat.le_of_ble_eq_true rfl⟩ rfl dX2_wayOf_6 rfl (Nat.le_of_ble_eq_true rfl) hφ hφ2 (fun r6 σ6 ta h hφ hφ2 => ?_)
  refine nw_aload_n C dX2_wayOf_9 rfl 0 rfl ?_
  refine nw_get (v := .ref (ad 12)) C in_X2 1 cl_Ground rfl 0 (by decide) tw_189 rfl rfl dX2_wayOf_10 ?_
  refine nw_iload_n C dX2_wayOf_13 rfl 1 rfl ?_
  refine nw_iconst (v := 2) C dX2_wayOf_14 (by decide) ?_
  refine nc_callVI (q0 := 12) (As := [.int p0, .int 2]) (rest := [.int r6]) C h (fun _ _ e => c_Table_get 1 (by decide) e hφ2) tw_841 kv_X9_get (cl_T 1 (by decide)) rfl ⟨Nat.le_of_ble_eq_true rfl, Nat.le_of_ble_eq_true rfl⟩ rfl dX2_wayOf_15 rfl (Nat.le_of_ble_eq_true rfl) hφ hφ2 (fun r15 σ15 ta h hφ hφ2 => ?_)
  refine nw_aload_n C dX2_wayOf_18 rfl 0 rfl ?_
  refine nw_get (v := .ref (ad 12)) C in_X2 1 cl_Ground rfl 0 (by decide) tw_189 rfl rfl dX2_wayOf_19 ?_
  refine nw_iload_n C dX2_wayOf_22 rfl 2 rfl ?_
  refine nw_iconst (v := 1) C dX2_wayOf_23 (by decide) ?_
  refine nc_callVI (q0 := 12) (As := [.int p1, .int 1]) (rest := [.int r15, .int r6]) C h (fun _ _ e => c_Table_get 1 (by decide) e hφ2) tw_841 kv_X9_get (cl_T 1 (by decide)) rfl ⟨Nat.le_of_ble_eq_true rfl, Nat.le_of_ble_eq_true rfl⟩ rfl dX2_wayOf_24 rfl (Nat.le_of_ble_eq_true rfl) hφ hφ2 (fun r24 σ24 ta h hφ hφ2 => ?_)
  refine nw_aload_n C dX2_wayOf_27 rfl 0 rfl ?_
  refine nw_get (v := .ref (ad 12)) C in_X2 1 cl_Ground rfl 0 (by decide) tw_189 rfl rfl dX2_wayOf_28 ?_
  refine nw_iload_n C dX2_wayOf_31 rfl 2 rfl ?_
  refine nw_iconst (v := 2) C dX2_wayOf_32 (by decide) ?_
  refine nc_callVI (q0 := 12) (As := [.int p1, .int 2]) (rest := [.int r24, .int r15, .int r6]) C h (fun _ _ e => c_Table_get 1 (by decide) e hφ2) tw_841 kv_X9_get (cl_T 1 (by decide)) rfl ⟨Nat.le_of_ble_eq_true rfl, Nat.le_of_ble_eq_true rfl⟩ rfl dX2_wayOf_33 rfl (Nat.le_of_ble_eq_true rfl) hφ hφ2 (fun r33 σ33 ta h hφ hφ2 => ?_)
  refine nc_callSNI  (As := [.int r6, .int r15, .int r24, .int r33]) (rest := []) C h (fun _ _ e => c_FC_wayBetween e hφ2) tw_1063 ks_X11_wayBetween ⟨Nat.le_of_ble_eq_true rfl, Nat.le_of_ble_eq_true rfl⟩ rfl dX2_wayOf_36 rfl (Nat.le_of_ble_eq_true rfl) hφ hφ2 (fun r36 σ36 ta h hφ hφ2 => ?_)
  exact nc_iret C hr dX2_wayOf_39 hφ hφ2 h
theorem dX6_begin_0 : decode cX6_begin 0 = .ok (.aload_n 0, 1) := by decide +kernel
theorem dX6_begin_1 : decode cX6_begin 1 = .ok (.aload_n 0, 1) := by decide +kernel
theorem dX6_begin_2 : decode cX6_begin 2 = .ok (.getfield 9, 3) := by decide +kernel
theorem dX6_begin_5 : decode cX6_begin 5 = .ok (.invokevirtual 21, 3) := by decide +kernel
theorem dX6_begin_8 : decode cX6_begin 8 = .ok (.putfield 27, 3) := by decide +kernel
theorem dX6_begin_11 : decode cX6_begin 11 = .ok (.aload_n 0, 1) := by decide +kernel
theorem dX6_begin_12 : decode cX6_begin 12 = .ok (.iconst 0, 1) := by decide +kernel
theorem dX6_begin_13 : decode cX6_begin 13 = .ok (.putfield 31, 3) := by decide +kernel
theorem dX6_begin_16 : decode cX6_begin 16 = .ok (.aload_n 0, 1) := by decide +kernel
theorem dX6_begin_17 : decode cX6_begin 17 = .ok (.iload_n 1, 1) := by decide +kernel
theorem dX6_begin_18 : decode cX6_begin 18 = .ok (.putfield 34, 3) := by decide +kernel
theorem dX6_begin_21 : decode cX6_begin 21 = .ok (.aload_n 0, 1) := by decide +kernel
theorem dX6_begin_22 : decode cX6_begin 22 = .ok (.iconst 0, 1) := by decide +kernel
theorem dX6_begin_23 : decode cX6_begin 23 = .ok (.putfield 37, 3) := by decide +kernel
theorem dX6_begin_26 : decode cX6_begin 26 = .ok (.aload_n 0, 1) := by decide +kernel
theorem dX6_begin_27 : decode cX6_begin 27 = .ok (.iconst (-1), 1) := by decide +kernel
theorem dX6_begin_28 : decode cX6_begin 28 = .ok (.putfield 40, 3) := by decide +kernel
theorem dX6_begin_31 : decode cX6_begin 31 = .ok (.return_, 1) := by decide +kernel
def f_Reader_begin (p0 : Int32) (σ : CS) : Option (Int32 × CS) := bnd (f_Table_size 0 σ) (fun r5 σ5 => some (0, (sF (sF (sF (sF (sF σ5 55 r5) 56 0) 57 p0) 58 0) 59 (-1))))
set_option maxHeartbeats 4000000 in
set_option maxRecDepth 100000 in
theorem c_Reader_begin {l : Launch} {g : EG} {ad ta : Nat → Nat} {Rr : va_W} {σ σ' : CS} {r : Int32} {p0 : Int32}  (h : f_Reader_begin p0 σ = some (r, σ')) (hφ2 : ph σ.2.2 ≤ BB) : CtV l g yX6_begin (.code yX6_begin cX6_begin 2 none) 1 20 ad ta Rr σ [.ref (ad 4), .int p0] r σ' := by
  refine Ct.of rfl (by decide) (Nat.le_of_ble_eq_true rfl) ?_
  intro p e s m args below meth c A C hr
  have hφ : ph σ.2.2 ≤ ph σ.2.2 := Nat.le_refl _
  refine nw_zero (ph σ.2.2) ?_
  show NV g p l e s m args below meth c A 1 20 2 ad Rr (ph σ.2.2) (r, σ') ta σ [(0, .ref (ad 4)), (1, .int p0)] 0 []
  unfold f_Reader_begin at h
  refine nw_aload_n C dX6_begin_0 rfl 0 rfl ?_
  refine nw_aload_n C dX6_begin_1 rfl 0 rfl ?_
  refine nw_get (v := .ref (ad 11)) C in_X6 4 cl_Reader rfl 0 (by decide) tw_249 rfl rfl dX6_begin_2 ?_
  refine nc_callVI (q0 := 11) (As := []) (rest := [.ref (ad 4)]) C h (fun _ _ e => c_Table_size 0 (by decide) e hφ2) tw_1081 kv_X9_size (cl_T 0 (by decide)) rfl ⟨Nat.le_of_ble_eq_true rfl, Nat.le_of_ble_eq_true rfl⟩ rfl dX6_begin_5 rfl (Nat.le_of_ble_eq_true rfl) hφ hφ2 (fun r5 σ5 ta h hφ hφ2 => ?_)
  refine nw_put (ty := .int) C in_X6 4 cl_Reader rfl 3 (by decide) tyX6 tyX6_ok nmX6 tw_252 rfl rfl (by decide +kernel) rfl rfl (Nat.le_of_ble_eq_true rfl) dX6_begin_8 cs_Reader_end ?_
  refine nw_aload_n C dX6_begin_11 rfl 0 rfl ?_
  refine nw_iconst (v := 0) C dX6_begin_12 (by decide) ?_
  refine nw_put (ty := .int) C in_X6 4 cl_Reader rfl 4 (by decide) tyX6 tyX6_ok nmX6 tw_253 rfl rfl (by decide +kernel) rfl rfl (Nat.le_of_ble_eq_true rfl) dX6_begin_13 cs_Reader_at ?_
  refine nw_aload_n C dX6_begin_16 rfl 0 rfl ?_
  refine nw_iload_n C dX6_begin_17 rfl 1 rfl ?_
  refine nw_put (ty := .int) C in_X6 4 cl_Reader rfl 5 (by decide) tyX6 tyX6_ok nmX6 tw_254 rfl rfl (by decide +kernel) rfl rfl (Nat.le_of_ble_eq_true rfl) dX6_begin_18 cs_Reader_text ?_
  refine nw_aload_n C dX6_begin_21 rfl 0 rfl ?_
  refine nw_iconst (v := 0) C dX6_begin_22 (by decide) ?_
  refine nw_put (ty := .int) C in_X6 4 cl_Reader rfl 6 (by decide) tyX6 tyX6_ok nmX6 tw_255 rfl rfl (by decide +kernel) rfl rfl (Nat.le_of_ble_eq_true rfl) dX6_begin_23 cs_Reader_fault ?_
  refine nw_aload_n C dX6_begin_26 rfl 0 rfl ?_
  refine nw_iconst (v := (-1)) C dX6_begin_27 (by decide) ?_
  refine nw_put (ty := .int) C in_X6 4 cl_Reader rfl 7 (by decide) tyX6 tyX6_ok nmX6 tw_257 rfl rfl (by decide +kernel) rfl rfl (Nat.le_of_ble_eq_true rfl) dX6_begin_28 cs_Reader_place ?_
  exact nc_vret C hr dX6_begin_31 hφ hφ2 h
theorem dX6_skipBlanks_0 : decode cX6_skipBlanks 0 = .ok (.aload_n 0, 1) := by decide +kernel
theorem dX6_skipBlanks_1 : decode cX6_skipBlanks 1 = .ok (.getfield 31, 3) := by decide +kernel
theorem dX6_skipBlanks_4 : decode cX6_skipBlanks 4 = .ok (.istore_n 1, 1) := by decide +kernel
theorem dX6_skipBlanks_5 : decode cX6_skipBlanks 5 = .ok (.iload_n 1, 1) := by decide +kernel
theorem dX6_skipBlanks_6 : decode cX6_skipBlanks 6 = .ok (.aload_n 0, 1) := by decide +kernel
theorem dX6_skipBlanks_7 : decode cX6_skipBlanks 7 = .ok (.getfield 27, 3) := by decide +kernel
theorem dX6_skipBlanks_10 : decode cX6_skipBlanks 10 = .ok (.if_icmp .ge 30, 3) := by decide +kernel
theorem dX6_skipBlanks_13 : decode cX6_skipBlanks 13 = .ok (.aload_n 0, 1) := by decide +kernel
theorem dX6_skipBlanks_14 : decode cX6_skipBlanks 14 = .ok (.getfield 9, 3) := by decide +kernel
theorem dX6_skipBlanks_17 : decode cX6_skipBlanks 17 = .ok (.iload_n 1, 1) := by decide +kernel
theorem dX6_skipBlanks_18 : decode cX6_skipBlanks 18 = .ok (.iconst 0, 1) := by decide +kernel
theorem dX6_skipBlanks_19 : decode cX6_skipBlanks 19 = .ok (.invokevirtual 122, 3) := by decide +kernel
theorem dX6_skipBlanks_22 : decode cX6_skipBlanks 22 = .ok (.bipush 32, 2) := by decide +kernel
theorem dX6_skipBlanks_24 : decode cX6_skipBlanks 24 = .ok (.if_icmp .ne 16, 3) := by decide +kernel
theorem dX6_skipBlanks_27 : decode cX6_skipBlanks 27 = .ok (.aload_n 0, 1) := by decide +kernel
theorem dX6_skipBlanks_28 : decode cX6_skipBlanks 28 = .ok (.iload_n 1, 1) := by decide +kernel
theorem dX6_skipBlanks_29 : decode cX6_skipBlanks 29 = .ok (.iconst 1, 1) := by decide +kernel
theorem dX6_skipBlanks_30 : decode cX6_skipBlanks 30 = .ok (.iadd, 1) := by decide +kernel
theorem dX6_skipBlanks_31 : decode cX6_skipBlanks 31 = .ok (.putfield 31, 3) := by decide +kernel
theorem dX6_skipBlanks_34 : decode cX6_skipBlanks 34 = .ok (.iinc 1 1, 3) := by decide +kernel
theorem dX6_skipBlanks_37 : decode cX6_skipBlanks 37 = .ok (.goto (-32), 3) := by decide +kernel
theorem dX6_skipBlanks_40 : decode cX6_skipBlanks 40 = .ok (.return_, 1) := by decide +kernel
def L_Reader_skipBlanks_5   : Nat → Int32 → CS → Option (Int32 × CS)
  | 0, _, _ => none
  | n + 1, x1, σ => if (σ.1 55) ≤ x1 then some (0, σ) else bnd (f_Table_get 0 x1 0 σ) (fun r19 σ19 => if r19 = 32 then (L_Reader_skipBlanks_5 n) (x1 + 1) (sF σ19 56 (x1 + 1)) else some (0, σ19))
set_option maxHeartbeats 4000000 in
set_option maxRecDepth 100000 in
theorem w_Reader_skipBlanks_5 (C : Cx g p s m args meth c A 2 cX6_skipBlanks yX6_skipBlanks.cls) (hr : meth.sig.returnType = none)  {res : Int32 × CS}    : ∀ (n : Nat) (x1 : Int32) (σ : CS) (ta : Nat → Nat), φ0 ≤ ph σ.2.2 → ph σ.2.2 ≤ BB → L_Reader_skipBlanks_5 n x1 σ = some res → NV g p l e s m args below meth c A 1 23 2 ad Rr φ0 res ta σ [(0, .ref (ad 4)), (1, .int x1)] 5 [] := by
  intro n
  induction n with
  | zero =>
    intro x1 σ ta hφ hφ2 h
    exact absurd (show (none : Option (Int32 × CS)) = some res from h) (by intro h9; cases h9)
  | succ n ih =>
    intro x1 σ ta hφ hφ2 h
    rw [L_Reader_skipBlanks_5] at h
    refine nw_iload_n C dX6_skipBlanks_5 rfl 1 rfl ?_
    refine nw_aload_n C dX6_skipBlanks_6 rfl 0 rfl ?_
    refine nw_get (v := .int (σ.1 55)) C in_X6 4 cl_Reader rfl 3 (by decide) tw_252 rfl rfl dX6_skipBlanks_7 ?_
    refine nw_icmp_ge (tgt := 40) C dX6_skipBlanks_10 (by decide) h (fun _ h => ?_) (fun _ h => ?_)
    · exact nc_vret C hr dX6_skipBlanks_40 hφ hφ2 h
    · refine nw_aload_n C dX6_skipBlanks_13 rfl 0 rfl ?_
      refine nw_get (v := .ref (ad 11)) C in_X6 4 cl_Reader rfl 0 (by decide) tw_249 rfl rfl dX6_skipBlanks_14 ?_
      refine nw_iload_n C dX6_skipBlanks_17 rfl 1 rfl ?_
      refine nw_iconst (v := 0) C dX6_skipBlanks_18 (by decide) ?_
      refine nc_callVI (q0 := 11) (As := [.int x1, .int 0]) (rest := []) C h (fun _ _ e => c_Table_get 0 (by decide) e hφ2) tw_1090 kv_X9_get (cl_T 0 (by decide)) rfl ⟨Nat.le_of_ble_eq_true rfl, Nat.le_of_ble_eq_true rfl⟩ rfl dX6_skipBlanks_19 rfl (Nat.le_of_ble_eq_true rfl) hφ hφ2 (fun r19 σ19 ta h hφ hφ2 => ?_)
      refine nw_bipush (v := 32) C dX6_skipBlanks_22 (by decide) ?_
      refine nw_icmp_ne (tgt := 40) C dX6_skipBlanks_24 (by decide) h (fun _ h => ?_) (fun _ h => ?_)
      · refine nw_aload_n C dX6_skipBlanks_27 rfl 0 rfl ?_
        refine nw_iload_n C dX6_skipBlanks_28 rfl 1 rfl ?_
        refine nw_iconst (v := 1) C dX6_skipBlanks_29 (by decide) ?_
        refine nw_iadd C dX6_skipBlanks_30 ?_
        refine nw_put (ty := .int) C in_X6 4 cl_Reader rfl 4 (by decide) tyX6 tyX6_ok nmX6 tw_253 rfl rfl (by decide +kernel) rfl rfl (Nat.le_of_ble_eq_true rfl) dX6_skipBlanks_31 cs_Reader_at ?_
        refine nw_iinc (lv' := [(1, .int (x1 + 1)), (0, .ref (ad 4))]) C (x1 + 1) dX6_skipBlanks_34 1 rfl rfl (by decide) rfl ?_
        refine nw_goto (tgt := 5) C dX6_skipBlanks_37 (by decide) ?_
        exact nw_lv (lv' := [(0, .ref (ad 4)), (1, .int (x1 + 1))]) [1, 0] rfl (ih (x1 + 1) _ _ hφ hφ2 h)
      · exact nc_vret C hr dX6_skipBlanks_40 hφ hφ2 h
def f_Reader_skipBlanks  (σ : CS) : Option (Int32 × CS) := L_Reader_skipBlanks_5 FU (σ.1 56) σ
set_option maxHeartbeats 4000000 in
set_option maxRecDepth 100000 in
theorem c_Reader_skipBlanks {l : Launch} {g : EG} {ad ta : Nat → Nat} {Rr : va_W} {σ σ' : CS} {r : Int32}   (h : f_Reader_skipBlanks σ = some (r, σ')) (hφ2 : ph σ.2.2 ≤ BB) : CtV l g yX6_skipBlanks (.code yX6_skipBlanks cX6_skipBlanks 2 none) 1 23 ad ta Rr σ [.ref (ad 4)] r σ' := by
  refine Ct.of rfl (by decide) (Nat.le_of_ble_eq_true rfl) ?_
  intro p e s m args below meth c A C hr
  have hφ : ph σ.2.2 ≤ ph σ.2.2 := Nat.le_refl _
  refine nw_zero (ph σ.2.2) ?_
  show NV g p l e s m args below meth c A 1 23 2 ad Rr (ph σ.2.2) (r, σ') ta σ [(0, .ref (ad 4))] 0 []
  unfold f_Reader_skipBlanks at h
  refine nw_aload_n C dX6_skipBlanks_0 rfl 0 rfl ?_
  refine nw_get (v := .int (σ.1 56)) C in_X6 4 cl_Reader rfl 4 (by decide) tw_253 rfl rfl dX6_skipBlanks_1 ?_
  refine nw_istore_n (lv' := [(1, .int (σ.1 56)), (0, .ref (ad 4))]) C dX6_skipBlanks_4 rfl (by decide) rfl ?_
  exact nw_lv (lv' := [(0, .ref (ad 4)), (1, .int (σ.1 56))]) [1, 0] rfl (w_Reader_skipBlanks_5 C hr FU (σ.1 56) _ _ hφ hφ2 h)
theorem dX6_goesOn_0 : decode cX6_goesOn 0 = .ok (.aload_n 0, 1) := by decide +kernel
theorem dX6_goesOn_1 : decode cX6_goesOn 1 = .ok (.invokevirtual 43, 3) := by decide +kernel
theorem dX6_goesOn_4 : decode cX6_goesOn 4 = .ok (.aload_n 0, 1) := by decide +kernel
theorem dX6_goesOn_5 : decode cX6_goesOn 5 = .ok (.getfield 37, 3) := by decide +kernel
theorem dX6_goesOn_8 : decode cX6_goesOn 8 = .ok (.ifCond .ne 18, 3) := by decide +kernel
theorem dX6_goesOn_11 : decode cX6_goesOn 11 = .ok (.aload_n 0, 1) := by decide +kernel
theorem dX6_goesOn_12 : decode cX6_goesOn 12 = .ok (.getfield 31, 3) := by decide +kernel
theorem dX6_goesOn_15 : decode cX6_goesOn 15 = .ok (.aload_n 0, 1) := by decide +kernel
theorem dX6_goesOn_16 : decode cX6_goesOn 16 = .ok (.getfield 27, 3) := by decide +kernel
theorem dX6_goesOn_19 : decode cX6_goesOn 19 = .ok (.if_icmp .ge 7, 3) := by decide +kernel
theorem dX6_goesOn_22 : decode cX6_goesOn 22 = .ok (.iconst 1, 1) := by decide +kernel
theorem dX6_goesOn_23 : decode cX6_goesOn 23 = .ok (.goto 4, 3) := by decide +kernel
theorem dX6_goesOn_26 : decode cX6_goesOn 26 = .ok (.iconst 0, 1) := by decide +kernel
theorem dX6_goesOn_27 : decode cX6_goesOn 27 = .ok (.ireturn, 1) := by decide +kernel
def f_Reader_goesOn  (σ : CS) : Option (Int32 × CS) := bnd (f_Reader_skipBlanks σ) (fun _ σ1 => if (σ1.1 58) = 0 then if (σ1.1 55) ≤ (σ1.1 56) then some (0, σ1) else some (1, σ1) else some (0, σ1))
set_option maxHeartbeats 4000000 in
set_option maxRecDepth 100000 in
theorem c_Reader_goesOn {l : Launch} {g : EG} {ad ta : Nat → Nat} {Rr : va_W} {σ σ' : CS} {r : Int32}   (h : f_Reader_goesOn σ = some (r, σ')) (hφ2 : ph σ.2.2 ≤ BB) : CtI l g yX6_goesOn (.code yX6_goesOn cX6_goesOn 1 (some .boolean)) 2 44 ad ta Rr σ [.ref (ad 4)] r σ' := by
  refine Ct.of rfl (by decide) (Nat.le_of_ble_eq_true rfl) ?_
  intro p e s m args below meth c A C hr
  have hφ : ph σ.2.2 ≤ ph σ.2.2 := Nat.le_refl _
  refine nw_zero (ph σ.2.2) ?_
  show NI g p l e s m args below meth c A 2 44 1 ad Rr (ph σ.2.2) (r, σ') ta σ [(0, .ref (ad 4))] 0 []
  unfold f_Reader_goesOn at h
  refine nw_aload_n C dX6_goesOn_0 rfl 0 rfl ?_
  refine nc_callVV (q0 := 4) (As := []) (rest := []) C h (fun _ _ e => c_Reader_skipBlanks e hφ2) tw_1086 kv_X6_skipBlanks cl_Reader rfl ⟨Nat.le_of_ble_eq_true rfl, Nat.le_of_ble_eq_true rfl⟩ rfl dX6_goesOn_1 rfl (Nat.le_of_ble_eq_true rfl) hφ hφ2 (fun r1 σ1 ta h hφ hφ2 => ?_)
  refine nw_aload_n C dX6_goesOn_4 rfl 0 rfl ?_
  refine nw_get (v := .int (σ1.1 58)) C in_X6 4 cl_Reader rfl 6 (by decide) tw_255 rfl rfl dX6_goesOn_5 ?_
  refine nw_if_ne (tgt := 26) C dX6_goesOn_8 (by decide) h (fun _ h => ?_) (fun _ h => ?_)
  · refine nw_aload_n C dX6_goesOn_11 rfl 0 rfl ?_
    refine nw_get (v := .int (σ1.1 56)) C in_X6 4 cl_Reader rfl 4 (by decide) tw_253 rfl rfl dX6_goesOn_12 ?_
    refine nw_aload_n C dX6_goesOn_15 rfl 0 rfl ?_
    refine nw_get (v := .int (σ1.1 55)) C in_X6 4 cl_Reader rfl 3 (by decide) tw_252 rfl rfl dX6_goesOn_16 ?_
    refine nw_icmp_ge (tgt := 26) C dX6_goesOn_19 (by decide) h (fun _ h => ?_) (fun _ h => ?_)
    · refine nw_iconst (v := 0) C dX6_goesOn_26 (by decide) ?_
      exact nc_zret C hr (Or.inl rfl) dX6_goesOn_27 hφ hφ2 h
    · refine nw_iconst (v := 1) C dX6_goesOn_22 (by decide) ?_
      refine nw_goto (tgt := 27) C dX6_goesOn_23 (by decide) ?_
      exact nc_zret C hr (Or.inr rfl) dX6_goesOn_27 hφ hφ2 h
  · refine nw_iconst (v := 0) C dX6_goesOn_26 (by decide) ?_
    exact nc_zret C hr (Or.inl rfl) dX6_goesOn_27 hφ hφ2 h
theorem dX6_isLetter_0 : decode cX6_isLetter 0 = .ok (.iload_n 0, 1) := by decide +kernel
theorem dX6_isLetter_1 : decode cX6_isLetter 1 = .ok (.bipush 97, 2) := by decide +kernel
theorem dX6_isLetter_3 : decode cX6_isLetter 3 = .ok (.bipush 122, 2) := by decide +kernel
theorem dX6_isLetter_5 : decode cX6_isLetter 5 = .ok (.invokestatic 144, 3) := by decide +kernel
theorem dX6_isLetter_8 : decode cX6_isLetter 8 = .ok (.ireturn, 1) := by decide +kernel
def f_Reader_isLetter (p0 : Int32) (σ : CS) : Option (Int32 × CS) := bnd (f_FC_within p0 97 122 σ) (fun r5 σ5 => grd (r5 = 0 ∨ r5 = 1) (some (r5, σ5)))
set_option maxHeartbeats 4000000 in
set_option maxRecDepth 100000 in
theorem c_Reader_isLetter {l : Launch} {g : EG} {ad ta : Nat → Nat} {Rr : va_W} {σ σ' : CS} {r : Int32} {p0 : Int32}  (h : f_Reader_isLetter p0 σ = some (r, σ')) (hφ2 : ph σ.2.2 ≤ BB) : CtI l g yX6_isLetter (.code yX6_isLetter cX6_isLetter 1 (some .boolean)) 1 22 ad ta Rr σ [.int p0] r σ' := by
  refine Ct.of rfl (by decide) (Nat.le_of_ble_eq_true rfl) ?_
  intro p e s m args below meth c A C hr
  have hφ : ph σ.2.2 ≤ ph σ.2.2 := Nat.le_refl _
  refine nw_zero (ph σ.2.2) ?_
  show NI g p l e s m args below meth c A 1 22 1 ad Rr (ph σ.2.2) (r, σ') ta σ [(0, .int p0)] 0 []
  unfold f_Reader_isLetter at h
  refine nw_iload_n C dX6_isLetter_0 rfl 0 rfl ?_
  refine nw_bipush (v := 97) C dX6_isLetter_1 (by decide) ?_
  refine nw_bipush (v := 122) C dX6_isLetter_3 (by decide) ?_
  refine nc_callSNI  (As := [.int p0, .int 97, .int 122]) (rest := []) C h (fun _ _ e => c_FC_within e hφ2) tw_1103 ks_X11_within ⟨Nat.le_of_ble_eq_true rfl, Nat.le_of_ble_eq_true rfl⟩ rfl dX6_isLetter_5 rfl (Nat.le_of_ble_eq_true rfl) hφ hφ2 (fun r5 σ5 ta h hφ hφ2 => ?_)
  exact nc_zretg C hr dX6_isLetter_8 hφ hφ2 h
theorem dX6_isWord_0 : decode cX6_isWord 0 = .ok (.iload_n 3, 1) := by decide +kernel
theorem dX6_isWord_1 : decode cX6_isWord 1 = .ok (.iload_n 2, 1) := by decide +kernel
theorem dX6_isWord_2 : decode cX6_isWord 2 = .ok (.isub, 1) := by decide +kernel
theorem dX6_isWord_3 : decode cX6_isWord 3 = .ok (.iload 4, 2) := by decide +kernel
theorem dX6_isWord_5 : decode cX6_isWord 5 = .ok (.aload_n 0, 1) := by decide +kernel
theorem dX6_isWord_6 : decode cX6_isWord 6 = .ok (.getfield 31, 3) := by decide +kernel
theorem dX6_isWord_9 : decode cX6_isWord 9 = .ok (.isub, 1) := by decide +kernel
theorem dX6_isWord_10 : decode cX6_isWord 10 = .ok (.if_icmp .ne 11, 3) := by decide +kernel
theorem dX6_isWord_13 : decode cX6_isWord 13 = .ok (.iload_n 3, 1) := by decide +kernel
theorem dX6_isWord_14 : decode cX6_isWord 14 = .ok (.aload_n 1, 1) := by decide +kernel
theorem dX6_isWord_15 : decode cX6_isWord 15 = .ok (.invokevirtual 151, 3) := by decide +kernel
theorem dX6_isWord_18 : decode cX6_isWord 18 = .ok (.if_icmp .le 5, 3) := by decide +kernel
theorem dX6_isWord_21 : decode cX6_isWord 21 = .ok (.iconst 0, 1) := by decide +kernel
theorem dX6_isWord_22 : decode cX6_isWord 22 = .ok (.ireturn, 1) := by decide +kernel
theorem dX6_isWord_23 : decode cX6_isWord 23 = .ok (.iload_n 2, 1) := by decide +kernel
theorem dX6_isWord_24 : decode cX6_isWord 24 = .ok (.istore 5, 2) := by decide +kernel
theorem dX6_isWord_26 : decode cX6_isWord 26 = .ok (.iload 5, 2) := by decide +kernel
theorem dX6_isWord_28 : decode cX6_isWord 28 = .ok (.iload_n 3, 1) := by decide +kernel
theorem dX6_isWord_29 : decode cX6_isWord 29 = .ok (.if_icmp .ge 37, 3) := by decide +kernel
theorem dX6_isWord_32 : decode cX6_isWord 32 = .ok (.aload_n 1, 1) := by decide +kernel
theorem dX6_isWord_33 : decode cX6_isWord 33 = .ok (.iload 5, 2) := by decide +kernel
theorem dX6_isWord_35 : decode cX6_isWord 35 = .ok (.invokevirtual 156, 3) := by decide +kernel
theorem dX6_isWord_38 : decode cX6_isWord 38 = .ok (.aload_n 0, 1) := by decide +kernel
theorem dX6_isWord_39 : decode cX6_isWord 39 = .ok (.getfield 9, 3) := by decide +kernel
theorem dX6_isWord_42 : decode cX6_isWord 42 = .ok (.aload_n 0, 1) := by decide +kernel
theorem dX6_isWord_43 : decode cX6_isWord 43 = .ok (.getfield 31, 3) := by decide +kernel
theorem dX6_isWord_46 : decode cX6_isWord 46 = .ok (.iload 5, 2) := by decide +kernel
theorem dX6_isWord_48 : decode cX6_isWord 48 = .ok (.iadd, 1) := by decide +kernel
theorem dX6_isWord_49 : decode cX6_isWord 49 = .ok (.iload_n 2, 1) := by decide +kernel
theorem dX6_isWord_50 : decode cX6_isWord 50 = .ok (.isub, 1) := by decide +kernel
theorem dX6_isWord_51 : decode cX6_isWord 51 = .ok (.iconst 0, 1) := by decide +kernel
theorem dX6_isWord_52 : decode cX6_isWord 52 = .ok (.invokevirtual 122, 3) := by decide +kernel
theorem dX6_isWord_55 : decode cX6_isWord 55 = .ok (.if_icmp .eq 5, 3) := by decide +kernel
theorem dX6_isWord_58 : decode cX6_isWord 58 = .ok (.iconst 0, 1) := by decide +kernel
theorem dX6_isWord_59 : decode cX6_isWord 59 = .ok (.ireturn, 1) := by decide +kernel
theorem dX6_isWord_60 : decode cX6_isWord 60 = .ok (.iinc 5 1, 3) := by decide +kernel
theorem dX6_isWord_63 : decode cX6_isWord 63 = .ok (.goto (-37), 3) := by decide +kernel
theorem dX6_isWord_66 : decode cX6_isWord 66 = .ok (.iconst 1, 1) := by decide +kernel
theorem dX6_isWord_67 : decode cX6_isWord 67 = .ok (.ireturn, 1) := by decide +kernel
def L_Reader_isWord_26 (s0 : Nat)  (x2 : Int32) (x3 : Int32) : Nat → Int32 → CS → Option (Int32 × CS)
  | 0, _, _ => none
  | n + 1, x5, σ => if x3 ≤ x5 then some (1, σ) else gix x5 (lenS.getD s0 0) (bnd (f_Table_get 0 (((σ.1 56) + x5) - x2) 0 σ) (fun r52 σ52 => if (sch s0 x5) = r52 then (L_Reader_isWord_26 s0 x2 x3 n) (x5 + 1) σ52 else some (0, σ52)))
set_option maxHeartbeats 4000000 in
set_option maxRecDepth 100000 in
theorem w_Reader_isWord_26 (C : Cx g p s m args meth c A 6 cX6_isWord yX6_isWord.cls) (hr : meth.sig.returnType = (some .boolean)) {s0 : Nat} (hstr : s0 < nS) {res : Int32 × CS}  (x2 : Int32) (x3 : Int32)  : ∀ (n : Nat) (x5 : Int32) (σ : CS) (ta : Nat → Nat), φ0 ≤ ph σ.2.2 → ph σ.2.2 ≤ BB → L_Reader_isWord_26 s0 x2 x3 n x5 σ = some res → NI g p l e s m args below meth c A 4 130 6 ad Rr φ0 res ta σ [(0, .ref (ad 4)), (1, .ref (gK g s0)), (2, .int x2), (3, .int x3), (5, .int x5)] 26 [] := by
  intro n
  induction n with
  | zero =>
    intro x5 σ ta hφ hφ2 h
    exact absurd (show (none : Option (Int32 × CS)) = some res from h) (by intro h9; cases h9)
  | succ n ih =>
    intro x5 σ ta hφ hφ2 h
    rw [L_Reader_isWord_26] at h
    refine nw_iload C dX6_isWord_26 4 rfl ?_
    refine nw_iload_n C dX6_isWord_28 rfl 3 rfl ?_
    refine nw_icmp_ge (tgt := 66) C dX6_isWord_29 (by decide) h (fun _ h => ?_) (fun _ h => ?_)
    · refine nw_iconst (v := 1) C dX6_isWord_66 (by decide) ?_
      exact nc_zret C hr (Or.inr rfl) dX6_isWord_67 hφ hφ2 h
    · refine nw_aload_n C dX6_isWord_32 rfl 1 rfl ?_
      refine nw_iload C dX6_isWord_33 4 rfl ?_
      refine nw_strchr C hstr tw_1114 ⟨Nat.le_of_ble_eq_true rfl, Nat.le_of_ble_eq_true rfl⟩ ⟨Nat.sub_le_sub_right hφ2 _, Nat.mul_le_mul_left 2 (Nat.sub_le_sub_right hφ2 _)⟩ dX6_isWord_35 (Nat.le_of_ble_eq_true rfl) h (fun h => ?_)
      refine nw_aload_n C dX6_isWord_38 rfl 0 rfl ?_
      refine nw_get (v := .ref (ad 11)) C in_X6 4 cl_Reader rfl 0 (by decide) tw_249 rfl rfl dX6_isWord_39 ?_
      refine nw_aload_n C dX6_isWord_42 rfl 0 rfl ?_
      refine nw_get (v := .int (σ.1 56)) C in_X6 4 cl_Reader rfl 4 (by decide) tw_253 rfl rfl dX6_isWord_43 ?_
      refine nw_iload C dX6_isWord_46 4 rfl ?_
      refine nw_iadd C dX6_isWord_48 ?_
      refine nw_iload_n C dX6_isWord_49 rfl 2 rfl ?_
      refine nw_isub C dX6_isWord_50 ?_
      refine nw_iconst (v := 0) C dX6_isWord_51 (by decide) ?_
      refine nc_callVI (q0 := 11) (As := [.int (((σ.1 56) + x5) - x2), .int 0]) (rest := [.int (sch s0 x5)]) C h (fun _ _ e => c_Table_get 0 (by decide) e hφ2) tw_1090 kv_X9_get (cl_T 0 (by decide)) rfl ⟨Nat.le_of_ble_eq_true rfl, Nat.le_of_ble_eq_true rfl⟩ rfl dX6_isWord_52 rfl (Nat.le_of_ble_eq_true rfl) hφ hφ2 (fun r52 σ52 ta h hφ hφ2 => ?_)
      refine nw_icmp_eq (tgt := 60) C dX6_isWord_55 (by decide) h (fun _ h => ?_) (fun _ h => ?_)
      · refine nw_iinc (lv' := [(5, .int (x5 + 1)), (0, .ref (ad 4)), (1, .ref (gK g s0)), (2, .int x2), (3, .int x3)]) C (x5 + 1) dX6_isWord_60 4 rfl rfl (by decide) rfl ?_
        refine nw_goto (tgt := 26) C dX6_isWord_63 (by decide) ?_
        exact nw_lv (lv' := [(0, .ref (ad 4)), (1, .ref (gK g s0)), (2, .int x2), (3, .int x3), (5, .int (x5 + 1))]) [1, 2, 3, 4, 0] rfl (ih (x5 + 1) _ _ hφ hφ2 h)
      · refine nw_iconst (v := 0) C dX6_isWord_58 (by decide) ?_
        exact nc_zret C hr (Or.inl rfl) dX6_isWord_59 hφ hφ2 h
def f_Reader_isWord (s0 : Nat) (p1 : Int32) (p2 : Int32) (p3 : Int32) (σ : CS) : Option (Int32 × CS) := if (p2 - p1) = (p3 - (σ.1 56)) then if p2 ≤ (slen s0) then L_Reader_isWord_26 s0 p1 p2 FU p1 σ else some (0, σ) else some (0, σ)
set_option maxHeartbeats 4000000 in
set_option maxRecDepth 100000 in
theorem c_Reader_isWord {l : Launch} {g : EG} {ad ta : Nat → Nat} {Rr : va_W} {σ σ' : CS} {r : Int32} {p1 : Int32} {p2 : Int32} {p3 : Int32} (s0 : Nat) (hstr : s0 < nS) (h : f_Reader_isWord s0 p1 p2 p3 σ = some (r, σ')) (hφ2 : ph σ.2.2 ≤ BB) : CtI l g yX6_isWord (.code yX6_isWord cX6_isWord 6 (some .boolean)) 4 130 ad ta Rr σ [.ref (ad 4), .ref (gK g s0), .int p1, .int p2, .int p3] r σ' := by
  refine Ct.of rfl (by decide) (Nat.le_of_ble_eq_true rfl) ?_
  intro p e s m args below meth c A C hr
  have hφ : ph σ.2.2 ≤ ph σ.2.2 := Nat.le_refl _
  refine nw_zero (ph σ.2.2) ?_
  show NI g p l e s m args below meth c A 4 130 6 ad Rr (ph σ.2.2) (r, σ') ta σ [(0, .ref (ad 4)), (1, .ref (gK g s0)), (2, .int p1), (3, .int p2), (4, .int p3)] 0 []
  unfold f_Reader_isWord at h
  refine nw_iload_n C dX6_isWord_0 rfl 3 rfl ?_
  refine nw_iload_n C dX6_isWord_1 rfl 2 rfl ?_
  refine nw_isub C dX6_isWord_2 ?_
  refine nw_iload C dX6_isWord_3 4 rfl ?_
  refine nw_aload_n C dX6_isWord_5 rfl 0 rfl ?_
  refine nw_get (v := .int (σ.1 56)) C in_X6 4 cl_Reader rfl 4 (by decide) tw_253 rfl rfl dX6_isWord_6 ?_
  refine nw_isub C dX6_isWord_9 ?_
  refine nw_icmp_ne (tgt := 21) C dX6_isWord_10 (by decide) h (fun _ h => ?_) (fun _ h => ?_)
  · refine nw_iload_n C dX6_isWord_13 rfl 3 rfl ?_
    refine nw_aload_n C dX6_isWord_14 rfl 1 rfl ?_
    refine nw_strlen C hstr tw_1104 ⟨Nat.le_of_ble_eq_true rfl, Nat.le_of_ble_eq_true rfl⟩ ⟨Nat.sub_le_sub_right hφ2 _, Nat.mul_le_mul_left 2 (Nat.sub_le_sub_right hφ2 _)⟩ dX6_isWord_15 (Nat.le_of_ble_eq_true rfl) ?_
    refine nw_icmp_le (tgt := 23) C dX6_isWord_18 (by decide) h (fun _ h => ?_) (fun _ h => ?_)
    · refine nw_iload_n C dX6_isWord_23 rfl 2 rfl ?_
      refine nw_istore (lv' := [(5, .int p1), (0, .ref (ad 4)), (1, .ref (gK g s0)), (2, .int p1), (3, .int p2), (4, .int p3)]) C dX6_isWord_24 (by decide) rfl ?_
      exact nw_lv (lv' := [(0, .ref (ad 4)), (1, .ref (gK g s0)), (2, .int p1), (3, .int p2), (5, .int p1)]) [1, 2, 3, 4, 0] rfl (w_Reader_isWord_26 C hr hstr p1 p2 FU p1 _ _ hφ hφ2 h)
    · refine nw_iconst (v := 0) C dX6_isWord_21 (by decide) ?_
      exact nc_zret C hr (Or.inl rfl) dX6_isWord_22 hφ hφ2 h
  · refine nw_iconst (v := 0) C dX6_isWord_21 (by decide) ?_
    exact nc_zret C hr (Or.inl rfl) dX6_isWord_22 hφ hφ2 h
theorem dX6_takeWord_0 : decode cX6_takeWord 0 = .ok (.aload_n 0, 1) := by decide +kernel
theorem dX6_takeWord_1 : decode cX6_takeWord 1 = .ok (.invokevirtual 43, 3) := by decide +kernel
theorem dX6_takeWord_4 : decode cX6_takeWord 4 = .ok (.aload_n 0, 1) := by decide +kernel
theorem dX6_takeWord_5 : decode cX6_takeWord 5 = .ok (.getfield 31, 3) := by decide +kernel
theorem dX6_takeWord_8 : decode cX6_takeWord 8 = .ok (.istore_n 2, 1) := by decide +kernel
theorem dX6_takeWord_9 : decode cX6_takeWord 9 = .ok (.aload_n 0, 1) := by decide +kernel
theorem dX6_takeWord_10 : decode cX6_takeWord 10 = .ok (.getfield 31, 3) := by decide +kernel
theorem dX6_takeWord_13 : decode cX6_takeWord 13 = .ok (.istore_n 3, 1) := by decide +kernel
theorem dX6_takeWord_14 : decode cX6_takeWord 14 = .ok (.iload_n 3, 1) := by decide +kernel
theorem dX6_takeWord_15 : decode cX6_takeWord 15 = .ok (.aload_n 0, 1) := by decide +kernel
theorem dX6_takeWord_16 : decode cX6_takeWord 16 = .ok (.getfield 27, 3) := by decide +kernel
theorem dX6_takeWord_19 : decode cX6_takeWord 19 = .ok (.if_icmp .ge 28, 3) := by decide +kernel
theorem dX6_takeWord_22 : decode cX6_takeWord 22 = .ok (.aload_n 0, 1) := by decide +kernel
theorem dX6_takeWord_23 : decode cX6_takeWord 23 = .ok (.getfield 9, 3) := by decide +kernel
theorem dX6_takeWord_26 : decode cX6_takeWord 26 = .ok (.iload_n 3, 1) := by decide +kernel
theorem dX6_takeWord_27 : decode cX6_takeWord 27 = .ok (.iconst 0, 1) := by decide +kernel
theorem dX6_takeWord_28 : decode cX6_takeWord 28 = .ok (.invokevirtual 122, 3) := by decide +kernel
theorem dX6_takeWord_31 : decode cX6_takeWord 31 = .ok (.invokestatic 148, 3) := by decide +kernel
theorem dX6_takeWord_34 : decode cX6_takeWord 34 = .ok (.ifCond .eq 13, 3) := by decide +kernel
theorem dX6_takeWord_37 : decode cX6_takeWord 37 = .ok (.iload_n 3, 1) := by decide +kernel
theorem dX6_takeWord_38 : decode cX6_takeWord 38 = .ok (.iconst 1, 1) := by decide +kernel
theorem dX6_takeWord_39 : decode cX6_takeWord 39 = .ok (.iadd, 1) := by decide +kernel
theorem dX6_takeWord_40 : decode cX6_takeWord 40 = .ok (.istore_n 2, 1) := by decide +kernel
theorem dX6_takeWord_41 : decode cX6_takeWord 41 = .ok (.iinc 3 1, 3) := by decide +kernel
theorem dX6_takeWord_44 : decode cX6_takeWord 44 = .ok (.goto (-30), 3) := by decide +kernel
theorem dX6_takeWord_47 : decode cX6_takeWord 47 = .ok (.iconst 0, 1) := by decide +kernel
theorem dX6_takeWord_48 : decode cX6_takeWord 48 = .ok (.istore_n 3, 1) := by decide +kernel
theorem dX6_takeWord_49 : decode cX6_takeWord 49 = .ok (.iconst 0, 1) := by decide +kernel
theorem dX6_takeWord_50 : decode cX6_takeWord 50 = .ok (.istore 4, 2) := by decide +kernel
theorem dX6_takeWord_52 : decode cX6_takeWord 52 = .ok (.iconst 0, 1) := by decide +kernel
theorem dX6_takeWord_53 : decode cX6_takeWord 53 = .ok (.istore 5, 2) := by decide +kernel
theorem dX6_takeWord_55 : decode cX6_takeWord 55 = .ok (.iload 5, 2) := by decide +kernel
theorem dX6_takeWord_57 : decode cX6_takeWord 57 = .ok (.aload_n 1, 1) := by decide +kernel
theorem dX6_takeWord_58 : decode cX6_takeWord 58 = .ok (.invokevirtual 151, 3) := by decide +kernel
theorem dX6_takeWord_61 : decode cX6_takeWord 61 = .ok (.if_icmp .gt 60, 3) := by decide +kernel
theorem dX6_takeWord_64 : decode cX6_takeWord 64 = .ok (.iload 5, 2) := by decide +kernel
theorem dX6_takeWord_66 : decode cX6_takeWord 66 = .ok (.aload_n 1, 1) := by decide +kernel
theorem dX6_takeWord_67 : decode cX6_takeWord 67 = .ok (.invokevirtual 151, 3) := by decide +kernel
theorem dX6_takeWord_70 : decode cX6_takeWord 70 = .ok (.if_icmp .ge 17, 3) := by decide +kernel
theorem dX6_takeWord_73 : decode cX6_takeWord 73 = .ok (.aload_n 1, 1) := by decide +kernel
theorem dX6_takeWord_74 : decode cX6_takeWord 74 = .ok (.iload 5, 2) := by decide +kernel
theorem dX6_takeWord_76 : decode cX6_takeWord 76 = .ok (.invokevirtual 156, 3) := by decide +kernel
theorem dX6_takeWord_79 : decode cX6_takeWord 79 = .ok (.bipush 32, 2) := by decide +kernel
theorem dX6_takeWord_81 : decode cX6_takeWord 81 = .ok (.if_icmp .eq 6, 3) := by decide +kernel
theorem dX6_takeWord_84 : decode cX6_takeWord 84 = .ok (.goto 31, 3) := by decide +kernel
theorem dX6_takeWord_87 : decode cX6_takeWord 87 = .ok (.aload_n 0, 1) := by decide +kernel
theorem dX6_takeWord_88 : decode cX6_takeWord 88 = .ok (.aload_n 1, 1) := by decide +kernel
theorem dX6_takeWord_89 : decode cX6_takeWord 89 = .ok (.iload_n 3, 1) := by decide +kernel
theorem dX6_takeWord_90 : decode cX6_takeWord 90 = .ok (.iload 5, 2) := by decide +kernel
theorem dX6_takeWord_92 : decode cX6_takeWord 92 = .ok (.iload_n 2, 1) := by decide +kernel
theorem dX6_takeWord_93 : decode cX6_takeWord 93 = .ok (.invokevirtual 160, 3) := by decide +kernel
theorem dX6_takeWord_96 : decode cX6_takeWord 96 = .ok (.ifCond .eq 11, 3) := by decide +kernel
theorem dX6_takeWord_99 : decode cX6_takeWord 99 = .ok (.aload_n 0, 1) := by decide +kernel
theorem dX6_takeWord_100 : decode cX6_takeWord 100 = .ok (.iload_n 2, 1) := by decide +kernel
theorem dX6_takeWord_101 : decode cX6_takeWord 101 = .ok (.putfield 31, 3) := by decide +kernel
theorem dX6_takeWord_104 : decode cX6_takeWord 104 = .ok (.iload 4, 2) := by decide +kernel
theorem dX6_takeWord_106 : decode cX6_takeWord 106 = .ok (.ireturn, 1) := by decide +kernel
theorem dX6_takeWord_107 : decode cX6_takeWord 107 = .ok (.iload 5, 2) := by decide +kernel
theorem dX6_takeWord_109 : decode cX6_takeWord 109 = .ok (.iconst 1, 1) := by decide +kernel
theorem dX6_takeWord_110 : decode cX6_takeWord 110 = .ok (.iadd, 1) := by decide +kernel
theorem dX6_takeWord_111 : decode cX6_takeWord 111 = .ok (.istore_n 3, 1) := by decide +kernel
theorem dX6_takeWord_112 : decode cX6_takeWord 112 = .ok (.iinc 4 1, 3) := by decide +kernel
theorem dX6_takeWord_115 : decode cX6_takeWord 115 = .ok (.iinc 5 1, 3) := by decide +kernel
theorem dX6_takeWord_118 : decode cX6_takeWord 118 = .ok (.goto (-63), 3) := by decide +kernel
theorem dX6_takeWord_121 : decode cX6_takeWord 121 = .ok (.iconst (-1), 1) := by decide +kernel
theorem dX6_takeWord_122 : decode cX6_takeWord 122 = .ok (.ireturn, 1) := by decide +kernel
def B_Reader_takeWord_87 (s0 : Nat) (k55 : Int32 → Int32 → Int32 → CS → Option (Int32 × CS)) (k99 : Int32 → Int32 → CS → Option (Int32 × CS)) (x2 : Int32) (x3 : Int32) (x4 : Int32) (x5 : Int32) (σ : CS) : Option (Int32 × CS) := bnd (f_Reader_isWord s0 x3 x5 x2 σ) (fun r93 σ93 => if r93 = 0 then k55 (x5 + 1) (x4 + 1) (x5 + 1) σ93 else k99 x2 x4 σ93)
set_option maxHeartbeats 4000000 in
set_option maxRecDepth 100000 in
theorem w_Reader_takeWord_87 (C : Cx g p s m args meth c A 6 cX6_takeWord yX6_takeWord.cls) (hr : meth.sig.returnType = (some .int)) {s0 : Nat} (hstr : s0 < nS) {res : Int32 × CS}  (x2 : Int32) (x3 : Int32) (x4 : Int32) (x5 : Int32) {k55 : Int32 → Int32 → Int32 → CS → Option (Int32 × CS)} (hk55 : ∀ (x3 : Int32) (x4 : Int32) (x5 : Int32) (σ : CS) (ta : Nat → Nat), φ0 ≤ ph σ.2.2 → ph σ.2.2 ≤ BB → k55 x3 x4 x5 σ = some res → NI g p l e s m args below meth c A 5 155 6 ad Rr φ0 res ta σ [(0, .ref (ad 4)), (1, .ref (gK g s0)), (2, .int x2), (3, .int x3), (4, .int x4), (5, .int x5)] 55 []) {k99 : Int32 → Int32 → CS → Option (Int32 × CS)} (hk99 : ∀ (x2 : Int32) (x4 : Int32) (σ : CS) (ta : Nat → Nat), φ0 ≤ ph σ.2.2 → ph σ.2.2 ≤ BB → k99 x2 x4 σ = some res → NI g p l e s m args below meth c A 5 155 6 ad Rr φ0 res ta σ [(0, .ref (ad 4)), (2, .int x2), (4, .int x4)] 99 []) (σ : CS) (ta : Nat → Nat) (hφ : φ0 ≤ ph σ.2.2) (hφ2 : ph σ.2.2 ≤ BB) (h : B_Reader_takeWord_87 s0 k55 k99 x2 x3 x4 x5 σ = some res) : NI g p l e s m args below meth c A 5 155 6 ad Rr φ0 res ta σ [(0, .ref (ad 4)), (1, .ref (gK g s0)), (2, .int x2), (3, .int x3), (4, .int x4), (5, .int x5)] 87 [] := by
  unfold B_Reader_takeWord_87 at h
  refine nw_aload_n C dX6_takeWord_87 rfl 0 rfl ?_
  refine nw_aload_n C dX6_takeWord_88 rfl 1 rfl ?_
  refine nw_iload_n C dX6_takeWord_89 rfl 3 rfl ?_
  refine nw_iload C dX6_takeWord_90 5 rfl ?_
  refine nw_iload_n C dX6_takeWord_92 rfl 2 rfl ?_
  refine nc_callVI (q0 := 4) (As := [.ref (gK g s0), .int x3, .int x5, .int x2]) (rest := []) C h (fun _ _ e => c_Reader_isWord s0 hstr e hφ2) tw_1152 kv_X6_isWord cl_Reader rfl ⟨Nat.le_of_ble_eq_true rfl, Nat.le_of_ble_eq_true rfl⟩ rfl dX6_takeWord_93 rfl (Nat.le_of_ble_eq_true rfl) hφ hφ2 (fun r93 σ93 ta h hφ hφ2 => ?_)
  refine nw_if_eq (tgt := 107) C dX6_takeWord_96 (by decide) h (fun _ h => ?_) (fun _ h => ?_)
  · refine nw_iload C dX6_takeWord_107 5 rfl ?_
    refine nw_iconst (v := 1) C dX6_takeWord_109 (by decide) ?_
    refine nw_iadd C dX6_takeWord_110 ?_
    refine nw_istore_n (lv' := [(3, .int (x5 + 1)), (0, .ref (ad 4)), (1, .ref (gK g s0)), (2, .int x2), (4, .int x4), (5, .int x5)]) C dX6_takeWord_111 rfl (by decide) rfl ?_
    refine nw_iinc (lv' := [(4, .int (x4 + 1)), (3, .int (x5 + 1)), (0, .ref (ad 4)), (1, .ref (gK g s0)), (2, .int x2), (5, .int x5)]) C (x4 + 1) dX6_takeWord_112 4 rfl rfl (by decide) rfl ?_
    refine nw_iinc (lv' := [(5, .int (x5 + 1)), (4, .int (x4 + 1)), (3, .int (x5 + 1)), (0, .ref (ad 4)), (1, .ref (gK g s0)), (2, .int x2)]) C (x5 + 1) dX6_takeWord_115 5 rfl rfl (by decide) rfl ?_
    refine nw_goto (tgt := 55) C dX6_takeWord_118 (by decide) ?_
    exact nw_lv (lv' := [(0, .ref (ad 4)), (1, .ref (gK g s0)), (2, .int x2), (3, .int (x5 + 1)), (4, .int (x4 + 1)), (5, .int (x5 + 1))]) [3, 4, 5, 2, 1, 0] rfl (hk55 (x5 + 1) (x4 + 1) (x5 + 1) _ _ hφ hφ2 h)
  · exact nw_lv (lv' := [(0, .ref (ad 4)), (2, .int x2), (4, .int x4)]) [0, 2, 4] rfl (hk99 x2 x4 _ _ hφ hφ2 h)
def L_Reader_takeWord_55 (s0 : Nat) (k99 : Int32 → Int32 → CS → Option (Int32 × CS)) (x2 : Int32) : Nat → Int32 → Int32 → Int32 → CS → Option (Int32 × CS)
  | 0, _, _, _, _ => none
  | n + 1, x3, x4, x5, σ => if (slen s0) < x5 then some ((-1), σ) else if (slen s0) ≤ x5 then B_Reader_takeWord_87 s0 (L_Reader_takeWord_55 s0 k99 x2 n) k99 x2 x3 x4 x5 σ else gix x5 (lenS.getD s0 0) (if (sch s0 x5) = 32 then B_Reader_takeWord_87 s0 (L_Reader_takeWord_55 s0 k99 x2 n) k99 x2 x3 x4 x5 σ else (L_Reader_takeWord_55 s0 k99 x2 n) x3 x4 (x5 + 1) σ)
set_option maxHeartbeats 4000000 in
set_option maxRecDepth 100000 in
theorem w_Reader_takeWord_55 (C : Cx g p s m args meth c A 6 cX6_takeWord yX6_takeWord.cls) (hr : meth.sig.returnType = (some .int)) {s0 : Nat} (hstr : s0 < nS) {res : Int32 × CS}  (x2 : Int32) {k99 : Int32 → Int32 → CS → Option (Int32 × CS)} (hk99 : ∀ (x2 : Int32) (x4 : Int32) (σ : CS) (ta : Nat → Nat), φ0 ≤ ph σ.2.2 → ph σ.2.2 ≤ BB → k99 x2 x4 σ = some res → NI g p l e s m args below meth c A 5 155 6 ad Rr φ0 res ta σ [(0, .ref (ad 4)), (2, .int x2), (4, .int x4)] 99 []) : ∀ (n : Nat) (x3 : Int32) (x4 : Int32) (x5 : Int32) (σ : CS) (ta : Nat → Nat), φ0 ≤ ph σ.2.2 → ph σ.2.2 ≤ BB → L_Reader_takeWord_55 s0 k99 x2 n x3 x4 x5 σ = some res → NI g p l e s m args below meth c A 5 155 6 ad Rr φ0 res ta σ [(0, .ref (ad 4)), (1, .ref (gK g s0)), (2, .int x2), (3, .int x3), (4, .int x4), (5, .int x5)] 55 [] := by
  intro n
  induction n with
  | zero =>
    intro x3 x4 x5 σ ta hφ hφ2 h
    exact absurd (show (none : Option (Int32 × CS)) = some res from h) (by intro h9; cases h9)
  | succ n ih =>
    intro x3 x4 x5 σ ta hφ hφ2 h
    rw [L_Reader_takeWord_55] at h
    refine nw_iload C dX6_takeWord_55 5 rfl ?_
    refine nw_aload_n C dX6_takeWord_57 rfl 1 rfl ?_
    refine nw_strlen C hstr tw_1104 ⟨Nat.le_of_ble_eq_true rfl, Nat.le_of_ble_eq_true rfl⟩ ⟨Nat.sub_le_sub_right hφ2 _, Nat.mul_le_mul_left 2 (Nat.sub_le_sub_right hφ2 _)⟩ dX6_takeWord_58 (Nat.le_of_ble_eq_true rfl) ?_
    refine nw_icmp_gt (tgt := 121) C dX6_takeWord_61 (by decide) h (fun _ h => ?_) (fun _ h => ?_)
    · refine nw_iconst (v := (-1)) C dX6_takeWord_121 (by decide) ?_
      exact nc_iret C hr dX6_takeWord_122 hφ hφ2 h
    · refine nw_iload C dX6_takeWord_64 5 rfl ?_
      refine nw_aload_n C dX6_takeWord_66 rfl 1 rfl ?_
      refine nw_strlen C hstr tw_1104 ⟨Nat.le_of_ble_eq_true rfl, Nat.le_of_ble_eq_true rfl⟩ ⟨Nat.sub_le_sub_right hφ2 _, Nat.mul_le_mul_left 2 (Nat.sub_le_sub_right hφ2 _)⟩ dX6_takeWord_67 (Nat.le_of_ble_eq_true rfl) ?_
      refine nw_icmp_ge (tgt := 87) C dX6_takeWord_70 (by decide) h (fun _ h => ?_) (fun _ h => ?_)
      · exact nw_lv (lv' := [(0, .ref (ad 4)), (1, .ref (gK g s0)), (2, .int x2), (3, .int x3), (4, .int x4), (5, .int x5)]) [0, 1, 2, 3, 4, 5] rfl (w_Reader_takeWord_87 C hr hstr x2 x3 x4 x5 ih hk99 _ _ hφ hφ2 h)
      · refine nw_aload_n C dX6_takeWord_73 rfl 1 rfl ?_
        refine nw_iload C dX6_takeWord_74 5 rfl ?_
        refine nw_strchr C hstr tw_1114 ⟨Nat.le_of_ble_eq_true rfl, Nat.le_of_ble_eq_true rfl⟩ ⟨Nat.sub_le_sub_right hφ2 _, Nat.mul_le_mul_left 2 (Nat.sub_le_sub_right hφ2 _)⟩ dX6_takeWord_76 (Nat.le_of_ble_eq_true rfl) h (fun h => ?_)
        refine nw_bipush (v := 32) C dX6_takeWord_79 (by decide) ?_
        refine nw_icmp_eq (tgt := 87) C dX6_takeWord_81 (by decide) h (fun _ h => ?_) (fun _ h => ?_)
        · exact nw_lv (lv' := [(0, .ref (ad 4)), (1, .ref (gK g s0)), (2, .int x2), (3, .int x3), (4, .int x4), (5, .int x5)]) [0, 1, 2, 3, 4, 5] rfl (w_Reader_takeWord_87 C hr hstr x2 x3 x4 x5 ih hk99 _ _ hφ hφ2 h)
        · refine nw_goto (tgt := 115) C dX6_takeWord_84 (by decide) ?_
          refine nw_iinc (lv' := [(5, .int (x5 + 1)), (0, .ref (ad 4)), (1, .ref (gK g s0)), (2, .int x2), (3, .int x3), (4, .int x4)]) C (x5 + 1) dX6_takeWord_115 5 rfl rfl (by decide) rfl ?_
          refine nw_goto (tgt := 55) C dX6_takeWord_118 (by decide) ?_
          exact nw_lv (lv' := [(0, .ref (ad 4)), (1, .ref (gK g s0)), (2, .int x2), (3, .int x3), (4, .int x4), (5, .int (x5 + 1))]) [1, 2, 3, 4, 5, 0] rfl (ih x3 x4 (x5 + 1) _ _ hφ hφ2 h)
def L_Reader_takeWord_14 (s0 : Nat) (k99 : Int32 → Int32 → CS → Option (Int32 × CS))  : Nat → Int32 → Int32 → CS → Option (Int32 × CS)
  | 0, _, _, _ => none
  | n + 1, x2, x3, σ => if (σ.1 55) ≤ x3 then L_Reader_takeWord_55 s0 k99 x2 FU 0 0 0 σ else bnd (f_Table_get 0 x3 0 σ) (fun r28 σ28 => bnd (f_Reader_isLetter r28 σ28) (fun r31 σ31 => if r31 = 0 then L_Reader_takeWord_55 s0 k99 x2 FU 0 0 0 σ31 else (L_Reader_takeWord_14 s0 k99 n) (x3 + 1) (x3 + 1) σ31))
set_option maxHeartbeats 4000000 in
set_option maxRecDepth 100000 in
theorem w_Reader_takeWord_14 (C : Cx g p s m args meth c A 6 cX6_takeWord yX6_takeWord.cls) (hr : meth.sig.returnType = (some .int)) {s0 : Nat} (hstr : s0 < nS) {res : Int32 × CS}   {k99 : Int32 → Int32 → CS → Option (Int32 × CS)} (hk99 : ∀ (x2 : Int32) (x4 : Int32) (σ : CS) (ta : Nat → Nat), φ0 ≤ ph σ.2.2 → ph σ.2.2 ≤ BB → k99 x2 x4 σ = some res → NI g p l e s m args below meth c A 5 155 6 ad Rr φ0 res ta σ [(0, .ref (ad 4)), (2, .int x2), (4, .int x4)] 99 []) : ∀ (n : Nat) (x2 : Int32) (x3 : Int32) (σ : CS) (ta : Nat → Nat), φ0 ≤ ph σ.2.2 → ph σ.2.2 ≤ BB → L_Reader_takeWord_14 s0 k99 n x2 x3 σ = some res → NI g p l e s m args below meth c A 5 155 6 ad Rr φ0 res ta σ [(0, .ref (ad 4)), (1, .ref (gK g s0)), (2, .int x2), (3, .int x3)] 14 [] := by
  intro n
  induction n with
  | zero =>
    intro x2 x3 σ ta hφ hφ2 h
    exact absurd (show (none : Option (Int32 × CS)) = some res from h) (by intro h9; cases h9)
  | succ n ih =>
    intro x2 x3 σ ta hφ hφ2 h
    rw [L_Reader_takeWord_14] at h
    refine nw_iload_n C dX6_takeWord_14 rfl 3 rfl ?_
    refine nw_aload_n C dX6_takeWord_15 rfl 0 rfl ?_
    refine nw_get (v := .int (σ.1 55)) C in_X6 4 cl_Reader rfl 3 (by decide) tw_252 rfl rfl dX6_takeWord_16 ?_
    refine nw_icmp_ge (tgt := 47) C dX6_takeWord_19 (by decide) h (fun _ h => ?_) (fun _ h => ?_)
    · refine nw_iconst (v := 0) C dX6_takeWord_47 (by decide) ?_
      refine nw_istore_n (lv' := [(3, .int 0), (0, .ref (ad 4)), (1, .ref (gK g s0)), (2, .int x2)]) C dX6_takeWord_48 rfl (by decide) rfl ?_
      refine nw_iconst (v := 0) C dX6_takeWord_49 (by decide) ?_
      refine nw_istore (lv' := [(4, .int 0), (3, .int 0), (0, .ref (ad 4)), (1, .ref (gK g s0)), (2, .int x2)]) C dX6_takeWord_50 (by decide) rfl ?_
      refine nw_iconst (v := 0) C dX6_takeWord_52 (by decide) ?_
      refine nw_istore (lv' := [(5, .int 0), (4, .int 0), (3, .int 0), (0, .ref (ad 4)), (1, .ref (gK g s0)), (2, .int x2)]) C dX6_takeWord_53 (by decide) rfl ?_
      exact nw_lv (lv' := [(0, .ref (ad 4)), (1, .ref (gK g s0)), (2, .int x2), (3, .int 0), (4, .int 0), (5, .int 0)]) [3, 4, 5, 2, 1, 0] rfl (w_Reader_takeWord_55 C hr hstr x2 hk99 FU 0 0 0 _ _ hφ hφ2 h)
    · refine nw_aload_n C dX6_takeWord_22 rfl 0 rfl ?_
      refine nw_get (v := .ref (ad 11)) C in_X6 4 cl_Reader rfl 0 (by decide) tw_249 rfl rfl dX6_takeWord_23 ?_
      refine nw_iload_n C dX6_takeWord_26 rfl 3 rfl ?_
      refine nw_iconst (v := 0) C dX6_takeWord_27 (by decide) ?_
      refine nc_callVI (q0 := 11) (As := [.int x3, .int 0]) (rest := []) C h (fun _ _ e => c_Table_get 0 (by decide) e hφ2) tw_1090 kv_X9_get (cl_T 0 (by decide)) rfl ⟨Nat.le_of_ble_eq_true rfl, Nat.le_of_ble_eq_true rfl⟩ rfl dX6_takeWord_28 rfl (Nat.le_of_ble_eq_true rfl) hφ hφ2 (fun r28 σ28 ta h hφ hφ2 => ?_)
      refine nc_callSI  (As := [.int r28]) (rest := []) C h (fun _ _ e => c_Reader_isLetter e hφ2) tw_1100 ks_X6_isLetter ⟨Nat.le_of_ble_eq_true rfl, Nat.le_of_ble_eq_true rfl⟩ rfl dX6_takeWord_31 rfl (Nat.le_of_ble_eq_true rfl) hφ hφ2 (fun r31 σ31 ta h hφ hφ2 => ?_)
      refine nw_if_eq (tgt := 47) C dX6_takeWord_34 (by decide) h (fun _ h => ?_) (fun _ h => ?_)
      · refine nw_iconst (v := 0) C dX6_takeWord_47 (by decide) ?_
        refine nw_istore_n (lv' := [(3, .int 0), (0, .ref (ad 4)), (1, .ref (gK g s0)), (2, .int x2)]) C dX6_takeWord_48 rfl (by decide) rfl ?_
        refine nw_iconst (v := 0) C dX6_takeWord_49 (by decide) ?_
        refine nw_istore (lv' := [(4, .int 0), (3, .int 0), (0, .ref (ad 4)), (1, .ref (gK g s0)), (2, .int x2)]) C dX6_takeWord_50 (by decide) rfl ?_
        refine nw_iconst (v := 0) C dX6_takeWord_52 (by decide) ?_
        refine nw_istore (lv' := [(5, .int 0), (4, .int 0), (3, .int 0), (0, .ref (ad 4)), (1, .ref (gK g s0)), (2, .int x2)]) C dX6_takeWord_53 (by decide) rfl ?_
        exact nw_lv (lv' := [(0, .ref (ad 4)), (1, .ref (gK g s0)), (2, .int x2), (3, .int 0), (4, .int 0), (5, .int 0)]) [3, 4, 5, 2, 1, 0] rfl (w_Reader_takeWord_55 C hr hstr x2 hk99 FU 0 0 0 _ _ hφ hφ2 h)
      · refine nw_iload_n C dX6_takeWord_37 rfl 3 rfl ?_
        refine nw_iconst (v := 1) C dX6_takeWord_38 (by decide) ?_
        refine nw_iadd C dX6_takeWord_39 ?_
        refine nw_istore_n (lv' := [(2, .int (x3 + 1)), (0, .ref (ad 4)), (1, .ref (gK g s0)), (3, .int x3)]) C dX6_takeWord_40 rfl (by decide) rfl ?_
        refine nw_iinc (lv' := [(3, .int (x3 + 1)), (2, .int (x3 + 1)), (0, .ref (ad 4)), (1, .ref (gK g s0))]) C (x3 + 1) dX6_takeWord_41 3 rfl rfl (by decide) rfl ?_
        refine nw_goto (tgt := 14) C dX6_takeWord_44 (by decide) ?_
        exact nw_lv (lv' := [(0, .ref (ad 4)), (1, .ref (gK g s0)), (2, .int (x3 + 1)), (3, .int (x3 + 1))]) [2, 3, 1, 0] rfl (ih (x3 + 1) (x3 + 1) _ _ hφ hφ2 h)
def B_Reader_takeWord_99 (s0 : Nat)   (x2 : Int32) (x4 : Int32) (σ : CS) : Option (Int32 × CS) := some (x4, (sF σ 56 x2))
set_option maxHeartbeats 4000000 in
set_option maxRecDepth 100000 in
theorem w_Reader_takeWord_99 (C : Cx g p s m args meth c A 6 cX6_takeWord yX6_takeWord.cls) (hr : meth.sig.returnType = (some .int)) {s0 : Nat} (hstr : s0 < nS) {res : Int32 × CS}   (x2 : Int32) (x4 : Int32)  (σ : CS) (ta : Nat → Nat) (hφ : φ0 ≤ ph σ.2.2) (hφ2 : ph σ.2.2 ≤ BB) (h : B_Reader_takeWord_99 s0 x2 x4 σ = some res) : NI g p l e s m args below meth c A 5 155 6 ad Rr φ0 res ta σ [(0, .ref (ad 4)), (2, .int x2), (4, .int x4)] 99 [] := by
  unfold B_Reader_takeWord_99 at h
  refine nw_aload_n C dX6_takeWord_99 rfl 0 rfl ?_
  refine nw_iload_n C dX6_takeWord_100 rfl 1 rfl ?_
  refine nw_put (ty := .int) C in_X6 4 cl_Reader rfl 4 (by decide) tyX6 tyX6_ok nmX6 tw_253 rfl rfl (by decide +kernel) rfl rfl (Nat.le_of_ble_eq_true rfl) dX6_takeWord_101 cs_Reader_at ?_
  refine nw_iload C dX6_takeWord_104 2 rfl ?_
  exact nc_iret C hr dX6_takeWord_106 hφ hφ2 h
def f_Reader_takeWord (s0 : Nat)  (σ : CS) : Option (Int32 × CS) := bnd (f_Reader_skipBlanks σ) (fun _ σ1 => L_Reader_takeWord_14 s0 (B_Reader_takeWord_99 s0) FU (σ1.1 56) (σ1.1 56) σ1)
set_option maxHeartbeats 4000000 in
set_option maxRecDepth 100000 in
theorem c_Reader_takeWord {l : Launch} {g : EG} {ad ta : Nat → Nat} {Rr : va_W} {σ σ' : CS} {r : Int32}  (s0 : Nat) (hstr : s0 < nS) (h : f_Reader_takeWord s0 σ = some (r, σ')) (hφ2 : ph σ.2.2 ≤ BB) : CtI l g yX6_takeWord (.code yX6_takeWord cX6_takeWord 6 (some .int)) 5 155 ad ta Rr σ [.ref (ad 4), .ref (gK g s0)] r σ' := by
  refine Ct.of rfl (by decide) (Nat.le_of_ble_eq_true rfl) ?_
  intro p e s m args below meth c A C hr
  have hφ : ph σ.2.2 ≤ ph σ.2.2 := Nat.le_refl _
  refine nw_zero (ph σ.2.2) ?_
  show NI g p l e s m args below meth c A 5 155 6 ad Rr (ph σ.2.2) (r, σ') ta σ [(0, .ref (ad 4)), (1, .ref (gK g s0))] 0 []
  unfold f_Reader_takeWord at h
  refine nw_aload_n C dX6_takeWord_0 rfl 0 rfl ?_
  refine nc_callVV (q0 := 4) (As := []) (rest := []) C h (fun _ _ e => c_Reader_skipBlanks e hφ2) tw_1086 kv_X6_skipBlanks cl_Reader rfl ⟨Nat.le_of_ble_eq_true rfl, Nat.le_of_ble_eq_true rfl⟩ rfl dX6_takeWord_1 rfl (Nat.le_of_ble_eq_true rfl) hφ hφ2 (fun r1 σ1 ta h hφ hφ2 => ?_)
  refine nw_aload_n C dX6_takeWord_4 rfl 0 rfl ?_
  refine nw_get (v := .int (σ1.1 56)) C in_X6 4 cl_Reader rfl 4 (by decide) tw_253 rfl rfl dX6_takeWord_5 ?_
  refine nw_istore_n (lv' := [(2, .int (σ1.1 56)), (0, .ref (ad 4)), (1, .ref (gK g s0))]) C dX6_takeWord_8 rfl (by decide) rfl ?_
  refine nw_aload_n C dX6_takeWord_9 rfl 1 rfl ?_
  refine nw_get (v := .int (σ1.1 56)) C in_X6 4 cl_Reader rfl 4 (by decide) tw_253 rfl rfl dX6_takeWord_10 ?_
  refine nw_istore_n (lv' := [(3, .int (σ1.1 56)), (2, .int (σ1.1 56)), (0, .ref (ad 4)), (1, .ref (gK g s0))]) C dX6_takeWord_13 rfl (by decide) rfl ?_
  exact nw_lv (lv' := [(0, .ref (ad 4)), (1, .ref (gK g s0)), (2, .int (σ1.1 56)), (3, .int (σ1.1 56))]) [2, 3, 1, 0] rfl (w_Reader_takeWord_14 C hr hstr (fun x2_ x4_ σ_ ta_ hφ_ hφ2_ h_ => w_Reader_takeWord_99 C hr hstr x2_ x4_ σ_ ta_ hφ_ hφ2_ h_) FU (σ1.1 56) (σ1.1 56) _ _ hφ hφ2 h)
theorem dX6_fail_0 : decode cX6_fail 0 = .ok (.aload_n 0, 1) := by decide +kernel
theorem dX6_fail_1 : decode cX6_fail 1 = .ok (.iload_n 1, 1) := by decide +kernel
theorem dX6_fail_2 : decode cX6_fail 2 = .ok (.putfield 37, 3) := by decide +kernel
theorem dX6_fail_5 : decode cX6_fail 5 = .ok (.aload_n 0, 1) := by decide +kernel
theorem dX6_fail_6 : decode cX6_fail 6 = .ok (.iload_n 2, 1) := by decide +kernel
theorem dX6_fail_7 : decode cX6_fail 7 = .ok (.putfield 40, 3) := by decide +kernel
theorem dX6_fail_10 : decode cX6_fail 10 = .ok (.iconst 0, 1) := by decide +kernel
theorem dX6_fail_11 : decode cX6_fail 11 = .ok (.ireturn, 1) := by decide +kernel
def f_Reader_fail (p0 : Int32) (p1 : Int32) (σ : CS) : Option (Int32 × CS) := some (0, (sF (sF σ 58 p0) 59 p1))
set_option maxHeartbeats 4000000 in
set_option maxRecDepth 100000 in
theorem c_Reader_fail {l : Launch} {g : EG} {ad ta : Nat → Nat} {Rr : va_W} {σ σ' : CS} {r : Int32} {p0 : Int32} {p1 : Int32}  (h : f_Reader_fail p0 p1 σ = some (r, σ')) (hφ2 : ph σ.2.2 ≤ BB) : CtI l g yX6_fail (.code yX6_fail cX6_fail 3 (some .boolean)) 0 0 ad ta Rr σ [.ref (ad 4), .int p0, .int p1] r σ' := by
  refine Ct.of rfl (by decide) (Nat.le_of_ble_eq_true rfl) ?_
  intro p e s m args below meth c A C hr
  have hφ : ph σ.2.2 ≤ ph σ.2.2 := Nat.le_refl _
  refine nw_zero (ph σ.2.2) ?_
  show NI g p l e s m args below meth c A 0 0 3 ad Rr (ph σ.2.2) (r, σ') ta σ [(0, .ref (ad 4)), (1, .int p0), (2, .int p1)] 0 []
  unfold f_Reader_fail at h
  refine nw_aload_n C dX6_fail_0 rfl 0 rfl ?_
  refine nw_iload_n C dX6_fail_1 rfl 1 rfl ?_
  refine nw_put (ty := .int) C in_X6 4 cl_Reader rfl 6 (by decide) tyX6 tyX6_ok nmX6 tw_255 rfl rfl (by decide +kernel) rfl rfl (Nat.le_of_ble_eq_true rfl) dX6_fail_2 cs_Reader_fault ?_
  refine nw_aload_n C dX6_fail_5 rfl 0 rfl ?_
  refine nw_iload_n C dX6_fail_6 rfl 2 rfl ?_
  refine nw_put (ty := .int) C in_X6 4 cl_Reader rfl 7 (by decide) tyX6 tyX6_ok nmX6 tw_257 rfl rfl (by decide +kernel) rfl rfl (Nat.le_of_ble_eq_true rfl) dX6_fail_7 cs_Reader_place ?_
  refine nw_iconst (v := 0) C dX6_fail_10 (by decide) ?_
  exact nc_zret C hr (Or.inl rfl) dX6_fail_11 hφ hφ2 h
theorem dX6_readAct_0 : decode cX6_readAct 0 = .ok (.aload_n 0, 1) := by decide +kernel
theorem dX6_readAct_1 : decode cX6_readAct 1 = .ok (.ldc 87, 2) := by decide +kernel
theorem dX6_readAct_3 : decode cX6_readAct 3 = .ok (.invokevirtual 48, 3) := by decide +kernel
theorem dX6_readAct_6 : decode cX6_readAct 6 = .ok (.istore_n 2, 1) := by decide +kernel
theorem dX6_readAct_7 : decode cX6_readAct 7 = .ok (.aload_n 0, 1) := by decide +kernel
theorem dX6_readAct_8 : decode cX6_readAct 8 = .ok (.getfield 15, 3) := by decide +kernel
theorem dX6_readAct_11 : decode cX6_readAct 11 = .ok (.iload_n 1, 1) := by decide +kernel
theorem dX6_readAct_12 : decode cX6_readAct 12 = .ok (.iconst 3, 1) := by decide +kernel
theorem dX6_readAct_13 : decode cX6_readAct 13 = .ok (.iload_n 2, 1) := by decide +kernel
theorem dX6_readAct_14 : decode cX6_readAct 14 = .ok (.invokevirtual 61, 3) := by decide +kernel
theorem dX6_readAct_17 : decode cX6_readAct 17 = .ok (.iload_n 2, 1) := by decide +kernel
theorem dX6_readAct_18 : decode cX6_readAct 18 = .ok (.iconst (-1), 1) := by decide +kernel
theorem dX6_readAct_19 : decode cX6_readAct 19 = .ok (.if_icmp .ne 15, 3) := by decide +kernel
theorem dX6_readAct_22 : decode cX6_readAct 22 = .ok (.aload_n 0, 1) := by decide +kernel
theorem dX6_readAct_23 : decode cX6_readAct 23 = .ok (.iconst 1, 1) := by decide +kernel
theorem dX6_readAct_24 : decode cX6_readAct 24 = .ok (.aload_n 0, 1) := by decide +kernel
theorem dX6_readAct_25 : decode cX6_readAct 25 = .ok (.getfield 31, 3) := by decide +kernel
theorem dX6_readAct_28 : decode cX6_readAct 28 = .ok (.invokevirtual 52, 3) := by decide +kernel
theorem dX6_readAct_31 : decode cX6_readAct 31 = .ok (.ifCond .eq 7, 3) := by decide +kernel
theorem dX6_readAct_34 : decode cX6_readAct 34 = .ok (.iconst 1, 1) := by decide +kernel
theorem dX6_readAct_35 : decode cX6_readAct 35 = .ok (.goto 4, 3) := by decide +kernel
theorem dX6_readAct_38 : decode cX6_readAct 38 = .ok (.iconst 0, 1) := by decide +kernel
theorem dX6_readAct_39 : decode cX6_readAct 39 = .ok (.ireturn, 1) := by decide +kernel
def f_Reader_readAct (p0 : Int32) (σ : CS) : Option (Int32 × CS) := bnd (f_Reader_takeWord 4 σ) (fun r3 σ3 => bnd (f_Table_put 4 p0 3 r3 σ3) (fun _ σ14 => if r3 = (-1) then bnd (f_Reader_fail 1 (σ14.1 56) σ14) (fun r28 σ28 => if r28 = 0 then some (0, σ28) else some (1, σ28)) else some (1, σ14)))
set_option maxHeartbeats 4000000 in
set_option maxRecDepth 100000 in
theorem c_Reader_readAct {l : Launch} {g : EG} {ad ta : Nat → Nat} {Rr : va_W} {σ σ' : CS} {r : Int32} {p0 : Int32}  (h : f_Reader_readAct p0 σ = some (r, σ')) (hφ2 : ph σ.2.2 ≤ BB) : CtI l g yX6_readAct (.code yX6_readAct cX6_readAct 3 (some .boolean)) 6 180 ad ta Rr σ [.ref (ad 4), .int p0] r σ' := by
  refine Ct.of rfl (by decide) (Nat.le_of_ble_eq_true rfl) ?_
  intro p e s m args below meth c A C hr
  have hφ : ph σ.2.2 ≤ ph σ.2.2 := Nat.le_refl _
  refine nw_zero (ph σ.2.2) ?_
  show NI g p l e s m args below meth c A 6 180 3 ad Rr (ph σ.2.2) (r, σ') ta σ [(0, .ref (ad 4)), (1, .int p0)] 0 []
  unfold f_Reader_readAct at h
  refine nw_aload_n C dX6_readAct_0 rfl 0 rfl ?_
  refine nw_lds (i := 4) C (by decide) rfl rfl dX6_readAct_1 ?_
  refine nc_callVI (q0 := 4) (As := [.ref (gK g 4)]) (rest := []) C h (fun _ _ e => c_Reader_takeWord 4 (by decide) e hφ2) tw_1096 kv_X6_takeWord cl_Reader rfl ⟨Nat.le_of_ble_eq_true rfl, Nat.le_of_ble_eq_true rfl⟩ rfl dX6_readAct_3 rfl (Nat.le_of_ble_eq_true rfl) hφ hφ2 (fun r3 σ3 ta h hφ hφ2 => ?_)
  refine nw_istore_n (lv' := [(2, .int r3), (0, .ref (ad 4)), (1, .int p0)]) C dX6_readAct_6 rfl (by decide) rfl ?_
  refine nw_aload_n C dX6_readAct_7 rfl 1 rfl ?_
  refine nw_get (v := .ref (ad 15)) C in_X6 4 cl_Reader rfl 1 (by decide) tw_250 rfl rfl dX6_readAct_8 ?_
  refine nw_iload_n C dX6_readAct_11 rfl 2 rfl ?_
  refine nw_iconst (v := 3) C dX6_readAct_12 (by decide) ?_
  refine nw_iload_n C dX6_readAct_13 rfl 0 rfl ?_
  refine nc_callVV (q0 := 15) (As := [.int p0, .int 3, .int r3]) (rest := []) C h (fun _ _ e => c_Table_put 4 (by decide) e hφ2) tw_1161 kv_X9_put (cl_T 4 (by decide)) rfl ⟨Nat.le_of_ble_eq_true rfl, Nat.le_of_ble_eq_true rfl⟩ rfl dX6_readAct_14 rfl (Nat.le_of_ble_eq_true rfl) hφ hφ2 (fun r14 σ14 ta h hφ hφ2 => ?_)
  refine nw_iload_n C dX6_readAct_17 rfl 0 rfl ?_
  refine nw_iconst (v := (-1)) C dX6_readAct_18 (by decide) ?_
  refine nw_icmp_ne (tgt := 34) C dX6_readAct_19 (by decide) h (fun _ h => ?_) (fun _ h => ?_)
  · refine nw_aload_n C dX6_readAct_22 rfl 1 rfl ?_
    refine nw_iconst (v := 1) C dX6_readAct_23 (by decide) ?_
    refine nw_aload_n C dX6_readAct_24 rfl 1 rfl ?_
    refine nw_get (v := .int (σ14.1 56)) C in_X6 4 cl_Reader rfl 4 (by decide) tw_253 rfl rfl dX6_readAct_25 ?_
    refine nc_callVI (q0 := 4) (As := [.int 1, .int (σ14.1 56)]) (rest := []) C h (fun _ _ e => c_Reader_fail e hφ2) tw_1156 kv_X6_fail cl_Reader rfl ⟨Nat.le_of_ble_eq_true rfl, Nat.le_of_ble_eq_true rfl⟩ rfl dX6_readAct_28 rfl (Nat.le_of_ble_eq_true rfl) hφ hφ2 (fun r28 σ28 ta h hφ hφ2 => ?_)
    refine nw_if_eq (tgt := 38) C dX6_readAct_31 (by decide) h (fun _ h => ?_) (fun _ h => ?_)
    · refine nw_iconst (v := 0) C dX6_readAct_38 (by decide) ?_
      exact nc_zret C hr (Or.inl rfl) dX6_readAct_39 hφ hφ2 h
    · refine nw_iconst (v := 1) C dX6_readAct_34 (by decide) ?_
      refine nw_goto (tgt := 39) C dX6_readAct_35 (by decide) ?_
      exact nc_zret C hr (Or.inr rfl) dX6_readAct_39 hφ hφ2 h
  · refine nw_iconst (v := 1) C dX6_readAct_34 (by decide) ?_
    refine nw_goto (tgt := 39) C dX6_readAct_35 (by decide) ?_
    exact nc_zret C hr (Or.inr rfl) dX6_readAct_39 hφ hφ2 h
theorem dX6_mayOpen_0 : decode cX6_mayOpen 0 = .ok (.iload_n 1, 1) := by decide +kernel
theorem dX6_mayOpen_1 : decode cX6_mayOpen 1 = .ok (.bipush 8, 2) := by decide +kernel
theorem dX6_mayOpen_3 : decode cX6_mayOpen 3 = .ok (.if_icmp .lt 12, 3) := by decide +kernel
theorem dX6_mayOpen_6 : decode cX6_mayOpen 6 = .ok (.aload_n 0, 1) := by decide +kernel
theorem dX6_mayOpen_7 : decode cX6_mayOpen 7 = .ok (.iconst 3, 1) := by decide +kernel
theorem dX6_mayOpen_8 : decode cX6_mayOpen 8 = .ok (.iload_n 2, 1) := by decide +kernel
theorem dX6_mayOpen_9 : decode cX6_mayOpen 9 = .ok (.invokevirtual 52, 3) := by decide +kernel
theorem dX6_mayOpen_12 : decode cX6_mayOpen 12 = .ok (.ifCond .eq 7, 3) := by decide +kernel
theorem dX6_mayOpen_15 : decode cX6_mayOpen 15 = .ok (.iconst 1, 1) := by decide +kernel
theorem dX6_mayOpen_16 : decode cX6_mayOpen 16 = .ok (.goto 4, 3) := by decide +kernel
theorem dX6_mayOpen_19 : decode cX6_mayOpen 19 = .ok (.iconst 0, 1) := by decide +kernel
theorem dX6_mayOpen_20 : decode cX6_mayOpen 20 = .ok (.ireturn, 1) := by decide +kernel
def f_Reader_mayOpen (p0 : Int32) (p1 : Int32) (σ : CS) : Option (Int32 × CS) := if p0 < 8 then some (1, σ) else bnd (f_Reader_fail 3 p1 σ) (fun r9 σ9 => if r9 = 0 then some (0, σ9) else some (1, σ9))
set_option maxHeartbeats 4000000 in
set_option maxRecDepth 100000 in
theorem c_Reader_mayOpen {l : Launch} {g : EG} {ad ta : Nat → Nat} {Rr : va_W} {σ σ' : CS} {r : Int32} {p0 : Int32} {p1 : Int32}  (h : f_Reader_mayOpen p0 p1 σ = some (r, σ')) (hφ2 : ph σ.2.2 ≤ BB) : CtI l g yX6_mayOpen (.code yX6_mayOpen cX6_mayOpen 3 (some .boolean)) 1 22 ad ta Rr σ [.ref (ad 4), .int p0, .int p1] r σ' := by
  refine Ct.of rfl (by decide) (Nat.le_of_ble_eq_true rfl) ?_
  intro p e s m args below meth c A C hr
  have hφ : ph σ.2.2 ≤ ph σ.2.2 := Nat.le_refl _
  refine nw_zero (ph σ.2.2) ?_
  show NI g p l e s m args below meth c A 1 22 3 ad Rr (ph σ.2.2) (r, σ') ta σ [(0, .ref (ad 4)), (1, .int p0), (2, .int p1)] 0 []
  unfold f_Reader_mayOpen at h
  refine nw_iload_n C dX6_mayOpen_0 rfl 1 rfl ?_
  refine nw_bipush (v := 8) C dX6_mayOpen_1 (by decide) ?_
  refine nw_icmp_lt (tgt := 15) C dX6_mayOpen_3 (by decide) h (fun _ h => ?_) (fun _ h => ?_)
  · refine nw_iconst (v := 1) C dX6_mayOpen_15 (by decide) ?_
    refine nw_goto (tgt := 20) C dX6_mayOpen_16 (by decide) ?_
    exact nc_zret C hr (Or.inr rfl) dX6_mayOpen_20 hφ hφ2 h
  · refine nw_aload_n C dX6_mayOpen_6 rfl 0 rfl ?_
    refine nw_iconst (v := 3) C dX6_mayOpen_7 (by decide) ?_
    refine nw_iload_n C dX6_mayOpen_8 rfl 2 rfl ?_
    refine nc_callVI (q0 := 4) (As := [.int 3, .int p1]) (rest := []) C h (fun _ _ e => c_Reader_fail e hφ2) tw_1156 kv_X6_fail cl_Reader rfl ⟨Nat.le_of_ble_eq_true rfl, Nat.le_of_ble_eq_true rfl⟩ rfl dX6_mayOpen_9 rfl (Nat.le_of_ble_eq_true rfl) hφ hφ2 (fun r9 σ9 ta h hφ hφ2 => ?_)
    refine nw_if_eq (tgt := 19) C dX6_mayOpen_12 (by decide) h (fun _ h => ?_) (fun _ h => ?_)
    · refine nw_iconst (v := 0) C dX6_mayOpen_19 (by decide) ?_
      exact nc_zret C hr (Or.inl rfl) dX6_mayOpen_20 hφ hφ2 h
    · refine nw_iconst (v := 1) C dX6_mayOpen_15 (by decide) ?_
      refine nw_goto (tgt := 20) C dX6_mayOpen_16 (by decide) ?_
      exact nc_zret C hr (Or.inr rfl) dX6_mayOpen_20 hφ hφ2 h
end
