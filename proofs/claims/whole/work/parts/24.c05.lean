section
variable {g : EG} {p : Program} {l : Launch} {e : Env} {s : State} {m : MethodId} {args : Array Value} {below : List Frame} {meth : Method} {c : Code} {A : Nat → Prop} {ad am ta : Nat → Nat} {Rr : va_W} {φ0 : Nat}
theorem dX2_isSamePlace_0 : decode cX2_isSamePlace 0 = .ok (.aload_n 0, 1) := by decide +kernel
theorem dX2_isSamePlace_1 : decode cX2_isSamePlace 1 = .ok (.getfield 16, 3) := by decide +kernel
theorem dX2_isSamePlace_4 : decode cX2_isSamePlace 4 = .ok (.iload_n 1, 1) := by decide +kernel
theorem dX2_isSamePlace_5 : decode cX2_isSamePlace 5 = .ok (.iconst 1, 1) := by decide +kernel
theorem dX2_isSamePlace_6 : decode cX2_isSamePlace 6 = .ok (.invokevirtual 31, 3) := by decide +kernel
theorem dX2_isSamePlace_9 : decode cX2_isSamePlace 9 = .ok (.aload_n 0, 1) := by decide +kernel
theorem dX2_isSamePlace_10 : decode cX2_isSamePlace 10 = .ok (.getfield 16, 3) := by decide +kernel
theorem dX2_isSamePlace_13 : decode cX2_isSamePlace 13 = .ok (.iload_n 2, 1) := by decide +kernel
theorem dX2_isSamePlace_14 : decode cX2_isSamePlace 14 = .ok (.iconst 1, 1) := by decide +kernel
theorem dX2_isSamePlace_15 : decode cX2_isSamePlace 15 = .ok (.invokevirtual 31, 3) := by decide +kernel
theorem dX2_isSamePlace_18 : decode cX2_isSamePlace 18 = .ok (.if_icmp .ne 28, 3) := by decide +kernel
theorem dX2_isSamePlace_21 : decode cX2_isSamePlace 21 = .ok (.aload_n 0, 1) := by decide +kernel
theorem dX2_isSamePlace_22 : decode cX2_isSamePlace 22 = .ok (.getfield 16, 3) := by decide +kernel
theorem dX2_isSamePlace_25 : decode cX2_isSamePlace 25 = .ok (.iload_n 1, 1) := by decide +kernel
theorem dX2_isSamePlace_26 : decode cX2_isSamePlace 26 = .ok (.iconst 2, 1) := by decide +kernel
theorem dX2_isSamePlace_27 : decode cX2_isSamePlace 27 = .ok (.invokevirtual 31, 3) := by decide +kernel
theorem dX2_isSamePlace_30 : decode cX2_isSamePlace 30 = .ok (.aload_n 0, 1) := by decide +kernel
theorem dX2_isSamePlace_31 : decode cX2_isSamePlace 31 = .ok (.getfield 16, 3) := by decide +kernel
theorem dX2_isSamePlace_34 : decode cX2_isSamePlace 34 = .ok (.iload_n 2, 1) := by decide +kernel
theorem dX2_isSamePlace_35 : decode cX2_isSamePlace 35 = .ok (.iconst 2, 1) := by decide +kernel
theorem dX2_isSamePlace_36 : decode cX2_isSamePlace 36 = .ok (.invokevirtual 31, 3) := by decide +kernel
theorem dX2_isSamePlace_39 : decode cX2_isSamePlace 39 = .ok (.if_icmp .ne 7, 3) := by decide +kernel
theorem dX2_isSamePlace_42 : decode cX2_isSamePlace 42 = .ok (.iconst 1, 1) := by decide +kernel
theorem dX2_isSamePlace_43 : decode cX2_isSamePlace 43 = .ok (.goto 4, 3) := by decide +kernel
theorem dX2_isSamePlace_46 : decode cX2_isSamePlace 46 = .ok (.iconst 0, 1) := by decide +kernel
theorem dX2_isSamePlace_47 : decode cX2_isSamePlace 47 = .ok (.ireturn, 1) := by decide +kernel
def f_Ground_isSamePlace (p0 : Int32) (p1 : Int32) (σ : CS) : Option (Int32 × CS) := bnd (f_Table_get 1 p0 1 σ) (fun r6 σ6 => bnd (f_Table_get 1 p1 1 σ6) (fun r15 σ15 => if r6 = r15 then bnd (f_Table_get 1 p0 2 σ15) (fun r27 σ27 => bnd (f_Table_get 1 p1 2 σ27) (fun r36 σ36 => if r27 = r36 then some (1, σ36) else some (0, σ36))) else some (0, σ15)))
set_option maxHeartbeats 4000000 in
set_option maxRecDepth 100000 in
theorem c_Ground_isSamePlace {l : Launch} {g : EG} {ad ta : Nat → Nat} {Rr : va_W} {σ σ' : CS} {r : Int32} {p0 : Int32} {p1 : Int32}  (h : f_Ground_isSamePlace p0 p1 σ = some (r, σ')) (hφ2 : ph σ.2.2 ≤ BB) : CtI l g yX2_isSamePlace (.code yX2_isSamePlace cX2_isSamePlace 3 (some .boolean)) 1 23 ad ta Rr σ [.ref (ad 1), .int p0, .int p1] r σ' := by
  refine Ct.of rfl (by decide) (Nat.le_of_ble_eq_true rfl) ?_
  intro p e s m args below meth c A C hr
  have hφ : ph σ.2.2 ≤ ph σ.2.2 := Nat.le_refl _
  refine nw_zero (ph σ.2.2) ?_
  show NI g p l e s m args below meth c A 1 23 3 ad Rr (ph σ.2.2) (r, σ') ta σ [(0, .ref (ad 1)), (1, .int p0), (2, .int p1)] 0 []
  unfold f_Ground_isSamePlace at h
  refine nw_aload_n C dX2_isSamePlace_0 rfl 0 rfl ?_
  refine nw_get (v := .ref (ad 12)) C in_X2 1 cl_Ground rfl 0 (by decide) tw_189 rfl rfl dX2_isSamePlace_1 ?_
  refine nw_iload_n C dX2_isSamePlace_4 rfl 1 rfl ?_
  refine nw_iconst (v := 1) C dX2_isSamePlace_5 (by decide) ?_
  refine nc_callVI (q0 := 12) (As := [.int p0, .int 1]) (rest := []) C h (fun _ _ e => c_Table_get 1 (by decide) e hφ2) tw_839 kv_X9_get (cl_T 1 (by decide)) rfl ⟨Nat.le_of_ble_eq_true rfl, Nat.le_of_ble_eq_true rfl⟩ rfl dX2_isSamePlace_6 rfl (Nat.le_of_ble_eq_true rfl) hφ hφ2 (fun r6 σ6 ta h hφ hφ2 => ?_)
  refine nw_aload_n C dX2_isSamePlace_9 rfl 0 rfl ?_
  refine nw_get (v := .ref (ad 12)) C in_X2 1 cl_Ground rfl 0 (by decide) tw_189 rfl rfl dX2_isSamePlace_10 ?_
  refine nw_iload_n C dX2_isSamePlace_13 rfl 2 rfl ?_
  refine nw_iconst (v := 1) C dX2_isSamePlace_14 (by decide) ?_
  refine nc_callVI (q0 := 12) (As := [.int p1, .int 1]) (rest := [.int r6]) C h (fun _ _ e => c_Table_get 1 (by decide) e hφ2) tw_839 kv_X9_get (cl_T 1 (by decide)) rfl ⟨Nat.le_of_ble_eq_true rfl, Nat.le_of_ble_eq_true rfl⟩ rfl dX2_isSamePlace_15 rfl (Nat.le_of_ble_eq_true rfl) hφ hφ2 (fun r15 σ15 ta h hφ hφ2 => ?_)
  refine nw_icmp_ne (tgt := 46) C dX2_isSamePlace_18 (by decide) h (fun _ h => ?_) (fun _ h => ?_)
  · refine nw_aload_n C dX2_isSamePlace_21 rfl 0 rfl ?_
    refine nw_get (v := .ref (ad 12)) C in_X2 1 cl_Ground rfl 0 (by decide) tw_189 rfl rfl dX2_isSamePlace_22 ?_
    refine nw_iload_n C dX2_isSamePlace_25 rfl 1 rfl ?_
    refine nw_iconst (v := 2) C dX2_isSamePlace_26 (by decide) ?_
    refine nc_callVI (q0 := 12) (As := [.int p0, .int 2]) (rest := []) C h (fun _ _ e => c_Table_get 1 (by decide) e hφ2) tw_839 kv_X9_get (cl_T 1 (by decide)) rfl ⟨Nat.le_of_ble_eq_true rfl, Nat.le_of_ble_eq_true rfl⟩ rfl dX2_isSamePlace_27 rfl (Nat.le_of_ble_eq_true rfl) hφ hφ2 (fun r27 σ27 ta h hφ hφ2 => ?_)
    refine nw_aload_n C dX2_isSamePlace_30 rfl 0 rfl ?_
    refine nw_get (v := .ref (ad 12)) C in_X2 1 cl_Ground rfl 0 (by decide) tw_189 rfl rfl dX2_isSamePlace_31 ?_
    refine nw_iload_n C dX2_isSamePlace_34 rfl 2 rfl ?_
    refine nw_iconst (v := 2) C dX2_isSamePlace_35 (by decide) ?_
    refine nc_callVI (q0 := 12) (As := [.int p1, .int 2]) (rest := [.int r27]) C h (fun _ _ e => c_Table_get 1 (by decide) e hφ2) tw_839 kv_X9_get (cl_T 1 (by decide)) rfl ⟨Nat.le_of_ble_eq_true rfl, Nat.le_of_ble_eq_true rfl⟩ rfl dX2_isSamePlace_36 rfl (Nat.le_of_ble_eq_true rfl) hφ hφ2 (fun r36 σ36 ta h hφ hφ2 => ?_)
    refine nw_icmp_ne (tgt := 46) C dX2_isSamePlace_39 (by decide) h (fun _ h => ?_) (fun _ h => ?_)
    · refine nw_iconst (v := 1) C dX2_isSamePlace_42 (by decide) ?_
      refine nw_goto (tgt := 47) C dX2_isSamePlace_43 (by decide) ?_
      exact nc_zret C hr (Or.inr rfl) dX2_isSamePlace_47 hφ hφ2 h
    · refine nw_iconst (v := 0) C dX2_isSamePlace_46 (by decide) ?_
      exact nc_zret C hr (Or.inl rfl) dX2_isSamePlace_47 hφ hφ2 h
  · refine nw_iconst (v := 0) C dX2_isSamePlace_46 (by decide) ?_
    exact nc_zret C hr (Or.inl rfl) dX2_isSamePlace_47 hφ hφ2 h
theorem dX2_turn_0 : decode cX2_turn 0 = .ok (.aload_n 0, 1) := by decide +kernel
theorem dX2_turn_1 : decode cX2_turn 1 = .ok (.getfield 16, 3) := by decide +kernel
theorem dX2_turn_4 : decode cX2_turn 4 = .ok (.iload_n 1, 1) := by decide +kernel
theorem dX2_turn_5 : decode cX2_turn 5 = .ok (.iconst 1, 1) := by decide +kernel
theorem dX2_turn_6 : decode cX2_turn 6 = .ok (.invokevirtual 31, 3) := by decide +kernel
theorem dX2_turn_9 : decode cX2_turn 9 = .ok (.istore 4, 2) := by decide +kernel
theorem dX2_turn_11 : decode cX2_turn 11 = .ok (.aload_n 0, 1) := by decide +kernel
theorem dX2_turn_12 : decode cX2_turn 12 = .ok (.getfield 16, 3) := by decide +kernel
theorem dX2_turn_15 : decode cX2_turn 15 = .ok (.iload_n 1, 1) := by decide +kernel
theorem dX2_turn_16 : decode cX2_turn 16 = .ok (.iconst 2, 1) := by decide +kernel
theorem dX2_turn_17 : decode cX2_turn 17 = .ok (.invokevirtual 31, 3) := by decide +kernel
theorem dX2_turn_20 : decode cX2_turn 20 = .ok (.istore 5, 2) := by decide +kernel
theorem dX2_turn_22 : decode cX2_turn 22 = .ok (.aload_n 0, 1) := by decide +kernel
theorem dX2_turn_23 : decode cX2_turn 23 = .ok (.getfield 16, 3) := by decide +kernel
theorem dX2_turn_26 : decode cX2_turn 26 = .ok (.iload_n 2, 1) := by decide +kernel
theorem dX2_turn_27 : decode cX2_turn 27 = .ok (.iconst 1, 1) := by decide +kernel
theorem dX2_turn_28 : decode cX2_turn 28 = .ok (.invokevirtual 31, 3) := by decide +kernel
theorem dX2_turn_31 : decode cX2_turn 31 = .ok (.iload 4, 2) := by decide +kernel
theorem dX2_turn_33 : decode cX2_turn 33 = .ok (.isub, 1) := by decide +kernel
theorem dX2_turn_34 : decode cX2_turn 34 = .ok (.aload_n 0, 1) := by decide +kernel
theorem dX2_turn_35 : decode cX2_turn 35 = .ok (.getfield 16, 3) := by decide +kernel
theorem dX2_turn_38 : decode cX2_turn 38 = .ok (.iload_n 2, 1) := by decide +kernel
theorem dX2_turn_39 : decode cX2_turn 39 = .ok (.iconst 2, 1) := by decide +kernel
theorem dX2_turn_40 : decode cX2_turn 40 = .ok (.invokevirtual 31, 3) := by decide +kernel
theorem dX2_turn_43 : decode cX2_turn 43 = .ok (.iload 5, 2) := by decide +kernel
theorem dX2_turn_45 : decode cX2_turn 45 = .ok (.isub, 1) := by decide +kernel
theorem dX2_turn_46 : decode cX2_turn 46 = .ok (.aload_n 0, 1) := by decide +kernel
theorem dX2_turn_47 : decode cX2_turn 47 = .ok (.getfield 16, 3) := by decide +kernel
theorem dX2_turn_50 : decode cX2_turn 50 = .ok (.iload_n 3, 1) := by decide +kernel
theorem dX2_turn_51 : decode cX2_turn 51 = .ok (.iconst 1, 1) := by decide +kernel
theorem dX2_turn_52 : decode cX2_turn 52 = .ok (.invokevirtual 31, 3) := by decide +kernel
theorem dX2_turn_55 : decode cX2_turn 55 = .ok (.iload 4, 2) := by decide +kernel
theorem dX2_turn_57 : decode cX2_turn 57 = .ok (.isub, 1) := by decide +kernel
theorem dX2_turn_58 : decode cX2_turn 58 = .ok (.aload_n 0, 1) := by decide +kernel
theorem dX2_turn_59 : decode cX2_turn 59 = .ok (.getfield 16, 3) := by decide +kernel
theorem dX2_turn_62 : decode cX2_turn 62 = .ok (.iload_n 3, 1) := by decide +kernel
theorem dX2_turn_63 : decode cX2_turn 63 = .ok (.iconst 2, 1) := by decide +kernel
theorem dX2_turn_64 : decode cX2_turn 64 = .ok (.invokevirtual 31, 3) := by decide +kernel
theorem dX2_turn_67 : decode cX2_turn 67 = .ok (.iload 5, 2) := by decide +kernel
theorem dX2_turn_69 : decode cX2_turn 69 = .ok (.isub, 1) := by decide +kernel
theorem dX2_turn_70 : decode cX2_turn 70 = .ok (.invokestatic 87, 3) := by decide +kernel
theorem dX2_turn_73 : decode cX2_turn 73 = .ok (.ireturn, 1) := by decide +kernel
def f_Ground_turn (p0 : Int32) (p1 : Int32) (p2 : Int32) (σ : CS) : Option (Int32 × CS) := bnd (f_Table_get 1 p0 1 σ) (fun r6 σ6 => bnd (f_Table_get 1 p0 2 σ6) (fun r17 σ17 => bnd (f_Table_get 1 p1 1 σ17) (fun r28 σ28 => bnd (f_Table_get 1 p1 2 σ28) (fun r40 σ40 => bnd (f_Table_get 1 p2 1 σ40) (fun r52 σ52 => bnd (f_Table_get 1 p2 2 σ52) (fun r64 σ64 => bnd (f_Ground_handOf (r28 - r6) (r40 - r17) (r52 - r6) (r64 - r17) σ64) (fun r70 σ70 => some (r70, σ70))))))))
set_option maxHeartbeats 4000000 in
set_option maxRecDepth 100000 in
theorem c_Ground_turn {l : Launch} {g : EG} {ad ta : Nat → Nat} {Rr : va_W} {σ σ' : CS} {r : Int32} {p0 : Int32} {p1 : Int32} {p2 : Int32}  (h : f_Ground_turn p0 p1 p2 σ = some (r, σ')) (hφ2 : ph σ.2.2 ≤ BB) : CtI l g yX2_turn (.code yX2_turn cX2_turn 6 (some .int)) 1 24 ad ta Rr σ [.ref (ad 1), .int p0, .int p1, .int p2] r σ' := by
  refine Ct.of rfl (by decide) (Nat.le_of_ble_eq_true rfl) ?_
  intro p e s m args below meth c A C hr
  have hφ : ph σ.2.2 ≤ ph σ.2.2 := Nat.le_refl _
  refine nw_zero (ph σ.2.2) ?_
  show NI g p l e s m args below meth c A 1 24 6 ad Rr (ph σ.2.2) (r, σ') ta σ [(0, .ref (ad 1)), (1, .int p0), (2, .int p1), (3, .int p2)] 0 []
  unfold f_Ground_turn at h
  refine nw_aload_n C dX2_turn_0 rfl 0 rfl ?_
  refine nw_get (v := .ref (ad 12)) C in_X2 1 cl_Ground rfl 0 (by decide) tw_189 rfl rfl dX2_turn_1 ?_
  refine nw_iload_n C dX2_turn_4 rfl 1 rfl ?_
  refine nw_iconst (v := 1) C dX2_turn_5 (by decide) ?_
  refine nc_callVI (q0 := 12) (As := [.int p0, .int 1]) (rest := []) C h (fun _ _ e => c_Table_get 1 (by decide) e hφ2) tw_839 kv_X9_get (cl_T 1 (by decide)) rfl ⟨Nat.le_of_ble_eq_true rfl, Nat.le_of_ble_eq_true rfl⟩ rfl dX2_turn_6 rfl (Nat.le_of_ble_eq_true rfl) hφ hφ2 (fun r6 σ6 ta h hφ hφ2 => ?_)
  refine nw_istore (lv' := [(4, .int r6), (0, .ref (ad 1)), (1, .int p0), (2, .int p1), (3, .int p2)]) C dX2_turn_9 (by decide) rfl ?_
  refine nw_aload_n C dX2_turn_11 rfl 1 rfl ?_
  refine nw_get (v := .ref (ad 12)) C in_X2 1 cl_Ground rfl 0 (by decide) tw_189 rfl rfl dX2_turn_12 ?_
  refine nw_iload_n C dX2_turn_15 rfl 2 rfl ?_
  refine nw_iconst (v := 2) C dX2_turn_16 (by decide) ?_
  refine nc_callVI (q0 := 12) (As := [.int p0, .int 2]) (rest := []) C h (fun _ _ e => c_Table_get 1 (by decide) e hφ2) tw_839 kv_X9_get (cl_T 1 (by decide)) rfl ⟨Nat.le_of_ble_eq_true rfl, Nat.le_of_ble_eq_true rfl⟩ rfl dX2_turn_17 rfl (Nat.le_of_ble_eq_true rfl) hφ hφ2 (fun r17 σ17 ta h hφ hφ2 => ?_)
  refine nw_istore (lv' := [(5, .int r17), (4, .int r6), (0, .ref (ad 1)), (1, .int p0), (2, .int p1), (3, .int p2)]) C dX2_turn_20 (by decide) rfl ?_
  refine nw_aload_n C dX2_turn_22 rfl 2 rfl ?_
  refine nw_get (v := .ref (ad 12)) C in_X2 1 cl_Ground rfl 0 (by decide) tw_189 rfl rfl dX2_turn_23 ?_
  refine nw_iload_n C dX2_turn_26 rfl 4 rfl ?_
  refine nw_iconst (v := 1) C dX2_turn_27 (by decide) ?_
  refine nc_callVI (q0 := 12) (As := [.int p1, .int 1]) (rest := []) C h (fun _ _ e => c_Table_get 1 (by decide) e hφ2) tw_839 kv_X9_get (cl_T 1 (by decide)) rfl ⟨Nat.le_of_ble_eq_true rfl, Nat.le_of_ble_eq_true rfl⟩ rfl dX2_turn_28 rfl (Nat.le_of_ble_eq_true rfl) hφ hφ2 (fun r28 σ28 ta h hφ hφ2 => ?_)
  refine nw_iload C dX2_turn_31 1 rfl ?_
  refine nw_isub C dX2_turn_33 ?_
  refine nw_aload_n C dX2_turn_34 rfl 2 rfl ?_
  refine nw_get (v := .ref (ad 12)) C in_X2 1 cl_Ground rfl 0 (by decide) tw_189 rfl rfl dX2_turn_35 ?_
  refine nw_iload_n C dX2_turn_38 rfl 4 rfl ?_
  refine nw_iconst (v := 2) C dX2_turn_39 (by decide) ?_
  refine nc_callVI (q0 := 12) (As := [.int p1, .int 2]) (rest := [.int (r28 - r6)]) C h (fun _ _ e => c_Table_get 1 (by decide) e hφ2) tw_839 kv_X9_get (cl_T 1 (by decide)) rfl ⟨Nat.le_of_ble_eq_true rfl, Nat.le_of_ble_eq_true rfl⟩ rfl dX2_turn_40 rfl (Nat.le_of_ble_eq_true rfl) hφ hφ2 (fun r40 σ40 ta h hφ hφ2 => ?_)
  refine nw_iload C dX2_turn_43 0 rfl ?_
  refine nw_isub C dX2_turn_45 ?_
  refine nw_aload_n C dX2_turn_46 rfl 2 rfl ?_
  refine nw_get (v := .ref (ad 12)) C in_X2 1 cl_Ground rfl 0 (by decide) tw_189 rfl rfl dX2_turn_47 ?_
  refine nw_iload_n C dX2_turn_50 rfl 5 rfl ?_
  refine nw_iconst (v := 1) C dX2_turn_51 (by decide) ?_
  refine nc_callVI (q0 := 12) (As := [.int p2, .int 1]) (rest := [.int (r40 - r17), .int (r28 - r6)]) C h (fun _ _ e => c_Table_get 1 (by decide) e hφ2) tw_839 kv_X9_get (cl_T 1 (by decide)) rfl ⟨Nat.le_of_ble_eq_true rfl, Nat.le_of_ble_eq_true rfl⟩ rfl dX2_turn_52 rfl (Nat.le_of_ble_eq_true rfl) hφ hφ2 (fun r52 σ52 ta h hφ hφ2 => ?_)
  refine nw_iload C dX2_turn_55 1 rfl ?_
  refine nw_isub C dX2_turn_57 ?_
  refine nw_aload_n C dX2_turn_58 rfl 2 rfl ?_
  refine nw_get (v := .ref (ad 12)) C in_X2 1 cl_Ground rfl 0 (by decide) tw_189 rfl rfl dX2_turn_59 ?_
  refine nw_iload_n C dX2_turn_62 rfl 5 rfl ?_
  refine nw_iconst (v := 2) C dX2_turn_63 (by decide) ?_
  refine nc_callVI (q0 := 12) (As := [.int p2, .int 2]) (rest := [.int (r52 - r6), .int (r40 - r17), .int (r28 - r6)]) C h (fun _ _ e => c_Table_get 1 (by decide) e hφ2) tw_839 kv_X9_get (cl_T 1 (by decide)) rfl ⟨Nat.le_of_ble_eq_true rfl, Nat.le_of_ble_eq_true rfl⟩ rfl dX2_turn_64 rfl (Nat.le_of_ble_eq_true rfl) hφ hφ2 (fun r64 σ64 ta h hφ hφ2 => ?_)
  refine nw_iload C dX2_turn_67 0 rfl ?_
  refine nw_isub C dX2_turn_69 ?_
  refine nc_callSI  (As := [.int (r28 - r6), .int (r40 - r17), .int (r52 - r6), .int (r64 - r17)]) (rest := []) C h (fun _ _ e => c_Ground_handOf e hφ2) tw_848 ks_X2_handOf ⟨Nat.le_of_ble_eq_true rfl, Nat.le_of_ble_eq_true rfl⟩ rfl dX2_turn_70 rfl (Nat.le_of_ble_eq_true rfl) hφ hφ2 (fun r70 σ70 ta h hφ hφ2 => ?_)
  exact nc_iret C hr dX2_turn_73 hφ hφ2 h
theorem dX2_foldsBack_0 : decode cX2_foldsBack 0 = .ok (.aload_n 0, 1) := by decide +kernel
theorem dX2_foldsBack_1 : decode cX2_foldsBack 1 = .ok (.getfield 16, 3) := by decide +kernel
theorem dX2_foldsBack_4 : decode cX2_foldsBack 4 = .ok (.iload_n 2, 1) := by decide +kernel
theorem dX2_foldsBack_5 : decode cX2_foldsBack 5 = .ok (.iconst 1, 1) := by decide +kernel
theorem dX2_foldsBack_6 : decode cX2_foldsBack 6 = .ok (.invokevirtual 31, 3) := by decide +kernel
theorem dX2_foldsBack_9 : decode cX2_foldsBack 9 = .ok (.istore 4, 2) := by decide +kernel
theorem dX2_foldsBack_11 : decode cX2_foldsBack 11 = .ok (.aload_n 0, 1) := by decide +kernel
theorem dX2_foldsBack_12 : decode cX2_foldsBack 12 = .ok (.getfield 16, 3) := by decide +kernel
theorem dX2_foldsBack_15 : decode cX2_foldsBack 15 = .ok (.iload_n 2, 1) := by decide +kernel
theorem dX2_foldsBack_16 : decode cX2_foldsBack 16 = .ok (.iconst 2, 1) := by decide +kernel
theorem dX2_foldsBack_17 : decode cX2_foldsBack 17 = .ok (.invokevirtual 31, 3) := by decide +kernel
theorem dX2_foldsBack_20 : decode cX2_foldsBack 20 = .ok (.istore 5, 2) := by decide +kernel
theorem dX2_foldsBack_22 : decode cX2_foldsBack 22 = .ok (.aload_n 0, 1) := by decide +kernel
theorem dX2_foldsBack_23 : decode cX2_foldsBack 23 = .ok (.getfield 16, 3) := by decide +kernel
theorem dX2_foldsBack_26 : decode cX2_foldsBack 26 = .ok (.iload_n 1, 1) := by decide +kernel
theorem dX2_foldsBack_27 : decode cX2_foldsBack 27 = .ok (.iconst 1, 1) := by decide +kernel
theorem dX2_foldsBack_28 : decode cX2_foldsBack 28 = .ok (.invokevirtual 31, 3) := by decide +kernel
theorem dX2_foldsBack_31 : decode cX2_foldsBack 31 = .ok (.iload 4, 2) := by decide +kernel
theorem dX2_foldsBack_33 : decode cX2_foldsBack 33 = .ok (.isub, 1) := by decide +kernel
theorem dX2_foldsBack_34 : decode cX2_foldsBack 34 = .ok (.aload_n 0, 1) := by decide +kernel
theorem dX2_foldsBack_35 : decode cX2_foldsBack 35 = .ok (.getfield 16, 3) := by decide +kernel
theorem dX2_foldsBack_38 : decode cX2_foldsBack 38 = .ok (.iload_n 3, 1) := by decide +kernel
theorem dX2_foldsBack_39 : decode cX2_foldsBack 39 = .ok (.iconst 1, 1) := by decide +kernel
theorem dX2_foldsBack_40 : decode cX2_foldsBack 40 = .ok (.invokevirtual 31, 3) := by decide +kernel
theorem dX2_foldsBack_43 : decode cX2_foldsBack 43 = .ok (.iload 4, 2) := by decide +kernel
theorem dX2_foldsBack_45 : decode cX2_foldsBack 45 = .ok (.isub, 1) := by decide +kernel
theorem dX2_foldsBack_46 : decode cX2_foldsBack 46 = .ok (.imul, 1) := by decide +kernel
theorem dX2_foldsBack_47 : decode cX2_foldsBack 47 = .ok (.aload_n 0, 1) := by decide +kernel
theorem dX2_foldsBack_48 : decode cX2_foldsBack 48 = .ok (.getfield 16, 3) := by decide +kernel
theorem dX2_foldsBack_51 : decode cX2_foldsBack 51 = .ok (.iload_n 1, 1) := by decide +kernel
theorem dX2_foldsBack_52 : decode cX2_foldsBack 52 = .ok (.iconst 2, 1) := by decide +kernel
theorem dX2_foldsBack_53 : decode cX2_foldsBack 53 = .ok (.invokevirtual 31, 3) := by decide +kernel
theorem dX2_foldsBack_56 : decode cX2_foldsBack 56 = .ok (.iload 5, 2) := by decide +kernel
theorem dX2_foldsBack_58 : decode cX2_foldsBack 58 = .ok (.isub, 1) := by decide +kernel
theorem dX2_foldsBack_59 : decode cX2_foldsBack 59 = .ok (.aload_n 0, 1) := by decide +kernel
theorem dX2_foldsBack_60 : decode cX2_foldsBack 60 = .ok (.getfield 16, 3) := by decide +kernel
theorem dX2_foldsBack_63 : decode cX2_foldsBack 63 = .ok (.iload_n 3, 1) := by decide +kernel
theorem dX2_foldsBack_64 : decode cX2_foldsBack 64 = .ok (.iconst 2, 1) := by decide +kernel
theorem dX2_foldsBack_65 : decode cX2_foldsBack 65 = .ok (.invokevirtual 31, 3) := by decide +kernel
theorem dX2_foldsBack_68 : decode cX2_foldsBack 68 = .ok (.iload 5, 2) := by decide +kernel
theorem dX2_foldsBack_70 : decode cX2_foldsBack 70 = .ok (.isub, 1) := by decide +kernel
theorem dX2_foldsBack_71 : decode cX2_foldsBack 71 = .ok (.imul, 1) := by decide +kernel
theorem dX2_foldsBack_72 : decode cX2_foldsBack 72 = .ok (.iadd, 1) := by decide +kernel
theorem dX2_foldsBack_73 : decode cX2_foldsBack 73 = .ok (.istore 6, 2) := by decide +kernel
theorem dX2_foldsBack_75 : decode cX2_foldsBack 75 = .ok (.iload 6, 2) := by decide +kernel
theorem dX2_foldsBack_77 : decode cX2_foldsBack 77 = .ok (.ifCond .le 17, 3) := by decide +kernel
theorem dX2_foldsBack_80 : decode cX2_foldsBack 80 = .ok (.aload_n 0, 1) := by decide +kernel
theorem dX2_foldsBack_81 : decode cX2_foldsBack 81 = .ok (.iload_n 1, 1) := by decide +kernel
theorem dX2_foldsBack_82 : decode cX2_foldsBack 82 = .ok (.iload_n 2, 1) := by decide +kernel
theorem dX2_foldsBack_83 : decode cX2_foldsBack 83 = .ok (.iload_n 3, 1) := by decide +kernel
theorem dX2_foldsBack_84 : decode cX2_foldsBack 84 = .ok (.invokevirtual 72, 3) := by decide +kernel
theorem dX2_foldsBack_87 : decode cX2_foldsBack 87 = .ok (.ifCond .ne 7, 3) := by decide +kernel
theorem dX2_foldsBack_90 : decode cX2_foldsBack 90 = .ok (.iconst 1, 1) := by decide +kernel
theorem dX2_foldsBack_91 : decode cX2_foldsBack 91 = .ok (.goto 4, 3) := by decide +kernel
theorem dX2_foldsBack_94 : decode cX2_foldsBack 94 = .ok (.iconst 0, 1) := by decide +kernel
theorem dX2_foldsBack_95 : decode cX2_foldsBack 95 = .ok (.ireturn, 1) := by decide +kernel
def f_Ground_foldsBack (p0 : Int32) (p1 : Int32) (p2 : Int32) (σ : CS) : Option (Int32 × CS) := bnd (f_Table_get 1 p1 1 σ) (fun r6 σ6 => bnd (f_Table_get 1 p1 2 σ6) (fun r17 σ17 => bnd (f_Table_get 1 p0 1 σ17) (fun r28 σ28 => bnd (f_Table_get 1 p2 1 σ28) (fun r40 σ40 => bnd (f_Table_get 1 p0 2 σ40) (fun r53 σ53 => bnd (f_Table_get 1 p2 2 σ53) (fun r65 σ65 => if (((r28 - r6) * (r40 - r6)) + ((r53 - r17) * (r65 - r17))) ≤ 0 then some (0, σ65) else bnd (f_Ground_turn p0 p1 p2 σ65) (fun r84 σ84 => if r84 = 0 then some (1, σ84) else some (0, σ84))))))))
set_option maxHeartbeats 4000000 in
set_option maxRecDepth 100000 in
theorem c_Ground_foldsBack {l : Launch} {g : EG} {ad ta : Nat → Nat} {Rr : va_W} {σ σ' : CS} {r : Int32} {p0 : Int32} {p1 : Int32} {p2 : Int32}  (h : f_Ground_foldsBack p0 p1 p2 σ = some (r, σ')) (hφ2 : ph σ.2.2 ≤ BB) : CtI l g yX2_foldsBack (.code yX2_foldsBack cX2_foldsBack 7 (some .boolean)) 2 49 ad ta Rr σ [.ref (ad 1), .int p0, .int p1, .int p2] r σ' := by
  refine Ct.of rfl (by decide) (Nat.le_of_ble_eq_true rfl) ?_
  intro p e s m args below meth c A C hr
  have hφ : ph σ.2.2 ≤ ph σ.2.2 := Nat.le_refl _
  refine nw_zero (ph σ.2.2) ?_
  show NI g p l e s m args below meth c A 2 49 7 ad Rr (ph σ.2.2) (r, σ') ta σ [(0, .ref (ad 1)), (1, .int p0), (2, .int p1), (3, .int p2)] 0 []
  unfold f_Ground_foldsBack at h
  refine nw_aload_n C dX2_foldsBack_0 rfl 0 rfl ?_
  refine nw_get (v := .ref (ad 12)) C in_X2 1 cl_Ground rfl 0 (by decide) tw_189 rfl rfl dX2_foldsBack_1 ?_
  refine nw_iload_n C dX2_foldsBack_4 rfl 2 rfl ?_
  refine nw_iconst (v := 1) C dX2_foldsBack_5 (by decide) ?_
  refine nc_callVI (q0 := 12) (As := [.int p1, .int 1]) (rest := []) C h (fun _ _ e => c_Table_get 1 (by decide) e hφ2) tw_839 kv_X9_get (cl_T 1 (by decide)) rfl ⟨Nat.le_of_ble_eq_true rfl, Nat.le_of_ble_eq_true rfl⟩ rfl dX2_foldsBack_6 rfl (Nat.le_of_ble_eq_true rfl) hφ hφ2 (fun r6 σ6 ta h hφ hφ2 => ?_)
  refine nw_istore (lv' := [(4, .int r6), (0, .ref (ad 1)), (1, .int p0), (2, .int p1), (3, .int p2)]) C dX2_foldsBack_9 (by decide) rfl ?_
  refine nw_aload_n C dX2_foldsBack_11 rfl 1 rfl ?_
  refine nw_get (v := .ref (ad 12)) C in_X2 1 cl_Ground rfl 0 (by decide) tw_189 rfl rfl dX2_foldsBack_12 ?_
  refine nw_iload_n C dX2_foldsBack_15 rfl 3 rfl ?_
  refine nw_iconst (v := 2) C dX2_foldsBack_16 (by decide) ?_
  refine nc_callVI (q0 := 12) (As := [.int p1, .int 2]) (rest := []) C h (fun _ _ e => c_Table_get 1 (by decide) e hφ2) tw_839 kv_X9_get (cl_T 1 (by decide)) rfl ⟨Nat.le_of_ble_eq_true rfl, Nat.le_of_ble_eq_true rfl⟩ rfl dX2_foldsBack_17 rfl (Nat.le_of_ble_eq_true rfl) hφ hφ2 (fun r17 σ17 ta h hφ hφ2 => ?_)
  refine nw_istore (lv' := [(5, .int r17), (4, .int r6), (0, .ref (ad 1)), (1, .int p0), (2, .int p1), (3, .int p2)]) C dX2_foldsBack_20 (by decide) rfl ?_
  refine nw_aload_n C dX2_foldsBack_22 rfl 2 rfl ?_
  refine nw_get (v := .ref (ad 12)) C in_X2 1 cl_Ground rfl 0 (by decide) tw_189 rfl rfl dX2_foldsBack_23 ?_
  refine nw_iload_n C dX2_foldsBack_26 rfl 3 rfl ?_
  refine nw_iconst (v := 1) C dX2_foldsBack_27 (by decide) ?_
  refine nc_callVI (q0 := 12) (As := [.int p0, .int 1]) (rest := []) C h (fun _ _ e => c_Table_get 1 (by decide) e hφ2) tw_839 kv_X9_get (cl_T 1 (by decide)) rfl ⟨Nat.le_of_ble_eq_true rfl, Nat.le_of_ble_eq_true rfl⟩ rfl dX2_foldsBack_28 rfl (Nat.le_of_ble_eq_true rfl) hφ hφ2 (fun r28 σ28 ta h hφ hφ2 => ?_)
  refine nw_iload C dX2_foldsBack_31 1 rfl ?_
  refine nw_isub C dX2_foldsBack_33 ?_
  refine nw_aload_n C dX2_foldsBack_34 rfl 2 rfl ?_
  refine nw_get (v := .ref (ad 12)) C in_X2 1 cl_Ground rfl 0 (by decide) tw_189 rfl rfl dX2_foldsBack_35 ?_
  refine nw_iload_n C dX2_foldsBack_38 rfl 5 rfl ?_
  refine nw_iconst (v := 1) C dX2_foldsBack_39 (by decide) ?_
  refine nc_callVI (q0 := 12) (As := [.int p2, .int 1]) (rest := [.int (r28 - r6)]) C h (fun _ _ e => c_Table_get 1 (by decide) e hφ2) tw_839 kv_X9_get (cl_T 1 (by decide)) rfl ⟨Nat.le_of_ble_eq_true rfl, Nat.le_of_ble_eq_true rfl⟩ rfl dX2_foldsBack_40 rfl (Nat.le_of_ble_eq_true rfl) hφ hφ2 (fun r40 σ40 ta h hφ hφ2 => ?_)
  refine nw_iload C dX2_foldsBack_43 1 rfl ?_
  refine nw_isub C dX2_foldsBack_45 ?_
  refine nw_imul C dX2_foldsBack_46 ?_
  refine nw_aload_n C dX2_foldsBack_47 rfl 2 rfl ?_
  refine nw_get (v := .ref (ad 12)) C in_X2 1 cl_Ground rfl 0 (by decide) tw_189 rfl rfl dX2_foldsBack_48 ?_
  refine nw_iload_n C dX2_foldsBack_51 rfl 3 rfl ?_
  refine nw_iconst (v := 2) C dX2_foldsBack_52 (by decide) ?_
  refine nc_callVI (q0 := 12) (As := [.int p0, .int 2]) (rest := [.int ((r28 - r6) * (r40 - r6))]) C h (fun _ _ e => c_Table_get 1 (by decide) e hφ2) tw_839 kv_X9_get (cl_T 1 (by decide)) rfl ⟨Nat.le_of_ble_eq_true rfl, Nat.le_of_ble_eq_true rfl⟩ rfl dX2_foldsBack_53 rfl (Nat.le_of_ble_eq_true rfl) hφ hφ2 (fun r53 σ53 ta h hφ hφ2 => ?_)
  refine nw_iload C dX2_foldsBack_56 0 rfl ?_
  refine nw_isub C dX2_foldsBack_58 ?_
  refine nw_aload_n C dX2_foldsBack_59 rfl 2 rfl ?_
  refine nw_get (v := .ref (ad 12)) C in_X2 1 cl_Ground rfl 0 (by decide) tw_189 rfl rfl dX2_foldsBack_60 ?_
  refine nw_iload_n C dX2_foldsBack_63 rfl 5 rfl ?_
  refine nw_iconst (v := 2) C dX2_foldsBack_64 (by decide) ?_
  refine nc_callVI (q0 := 12) (As := [.int p2, .int 2]) (rest := [.int (r53 - r17), .int ((r28 - r6) * (r40 - r6))]) C h (fun _ _ e => c_Table_get 1 (by decide) e hφ2) tw_839 kv_X9_get (cl_T 1 (by decide)) rfl ⟨Nat.le_of_ble_eq_true rfl, Nat.le_of_ble_eq_true rfl⟩ rfl dX2_foldsBack_65 rfl (Nat.le_of_ble_eq_true rfl) hφ hφ2 (fun r65 σ65 ta h hφ hφ2 => ?_)
  refine nw_iload C dX2_foldsBack_68 0 rfl ?_
  refine nw_isub C dX2_foldsBack_70 ?_
  refine nw_imul C dX2_foldsBack_71 ?_
  refine nw_iadd C dX2_foldsBack_72 ?_
  refine nw_istore (lv' := [(6, .int (((r28 - r6) * (r40 - r6)) + ((r53 - r17) * (r65 - r17)))), (5, .int r17), (4, .int r6), (0, .ref (ad 1)), (1, .int p0), (2, .int p1), (3, .int p2)]) C dX2_foldsBack_73 (by decide) rfl ?_
  refine nw_iload C dX2_foldsBack_75 0 rfl ?_
  refine nw_if_le (tgt := 94) C dX2_foldsBack_77 (by decide) h (fun _ h => ?_) (fun _ h => ?_)
  · refine nw_iconst (v := 0) C dX2_foldsBack_94 (by decide) ?_
    exact nc_zret C hr (Or.inl rfl) dX2_foldsBack_95 hφ hφ2 h
  · refine nw_aload_n C dX2_foldsBack_80 rfl 3 rfl ?_
    refine nw_iload_n C dX2_foldsBack_81 rfl 4 rfl ?_
    refine nw_iload_n C dX2_foldsBack_82 rfl 5 rfl ?_
    refine nw_iload_n C dX2_foldsBack_83 rfl 6 rfl ?_
    refine nc_callVI (q0 := 1) (As := [.int p0, .int p1, .int p2]) (rest := []) C h (fun _ _ e => c_Ground_turn e hφ2) tw_963 kv_X2_turn cl_Ground rfl ⟨Nat.le_of_ble_eq_true rfl, Nat.le_of_ble_eq_true rfl⟩ rfl dX2_foldsBack_84 rfl (Nat.le_of_ble_eq_true rfl) hφ hφ2 (fun r84 σ84 ta h hφ hφ2 => ?_)
    refine nw_if_ne (tgt := 94) C dX2_foldsBack_87 (by decide) h (fun _ h => ?_) (fun _ h => ?_)
    · refine nw_iconst (v := 1) C dX2_foldsBack_90 (by decide) ?_
      refine nw_goto (tgt := 95) C dX2_foldsBack_91 (by decide) ?_
      exact nc_zret C hr (Or.inr rfl) dX2_foldsBack_95 hφ hφ2 h
    · refine nw_iconst (v := 0) C dX2_foldsBack_94 (by decide) ?_
      exact nc_zret C hr (Or.inl rfl) dX2_foldsBack_95 hφ hφ2 h
theorem dX2_overlap_0 : decode cX2_overlap 0 = .ok (.iload_n 0, 1) := by decide +kernel
theorem dX2_overlap_1 : decode cX2_overlap 1 = .ok (.iload_n 1, 1) := by decide +kernel
theorem dX2_overlap_2 : decode cX2_overlap 2 = .ok (.invokestatic 79, 3) := by decide +kernel
theorem dX2_overlap_5 : decode cX2_overlap 5 = .ok (.iload_n 2, 1) := by decide +kernel
theorem dX2_overlap_6 : decode cX2_overlap 6 = .ok (.iload_n 3, 1) := by decide +kernel
theorem dX2_overlap_7 : decode cX2_overlap 7 = .ok (.invokestatic 84, 3) := by decide +kernel
theorem dX2_overlap_10 : decode cX2_overlap 10 = .ok (.if_icmp .lt 20, 3) := by decide +kernel
theorem dX2_overlap_13 : decode cX2_overlap 13 = .ok (.iload_n 2, 1) := by decide +kernel
theorem dX2_overlap_14 : decode cX2_overlap 14 = .ok (.iload_n 3, 1) := by decide +kernel
theorem dX2_overlap_15 : decode cX2_overlap 15 = .ok (.invokestatic 79, 3) := by decide +kernel
theorem dX2_overlap_18 : decode cX2_overlap 18 = .ok (.iload_n 0, 1) := by decide +kernel
theorem dX2_overlap_19 : decode cX2_overlap 19 = .ok (.iload_n 1, 1) := by decide +kernel
theorem dX2_overlap_20 : decode cX2_overlap 20 = .ok (.invokestatic 84, 3) := by decide +kernel
theorem dX2_overlap_23 : decode cX2_overlap 23 = .ok (.if_icmp .lt 7, 3) := by decide +kernel
theorem dX2_overlap_26 : decode cX2_overlap 26 = .ok (.iconst 1, 1) := by decide +kernel
theorem dX2_overlap_27 : decode cX2_overlap 27 = .ok (.goto 4, 3) := by decide +kernel
theorem dX2_overlap_30 : decode cX2_overlap 30 = .ok (.iconst 0, 1) := by decide +kernel
theorem dX2_overlap_31 : decode cX2_overlap 31 = .ok (.ireturn, 1) := by decide +kernel
def f_Ground_overlap (p0 : Int32) (p1 : Int32) (p2 : Int32) (p3 : Int32) (σ : CS) : Option (Int32 × CS) := if (if p0 < p1 then p1 else p0) < (if p3 < p2 then p3 else p2) then some (0, σ) else if (if p2 < p3 then p3 else p2) < (if p1 < p0 then p1 else p0) then some (0, σ) else some (1, σ)
set_option maxHeartbeats 4000000 in
set_option maxRecDepth 100000 in
theorem c_Ground_overlap {l : Launch} {g : EG} {ad ta : Nat → Nat} {Rr : va_W} {σ σ' : CS} {r : Int32} {p0 : Int32} {p1 : Int32} {p2 : Int32} {p3 : Int32}  (h : f_Ground_overlap p0 p1 p2 p3 σ = some (r, σ')) (hφ2 : ph σ.2.2 ≤ BB) : CtI l g yX2_overlap (.code yX2_overlap cX2_overlap 4 (some .boolean)) 1 40 ad ta Rr σ [.int p0, .int p1, .int p2, .int p3] r σ' := by
  refine Ct.of rfl (by decide) (Nat.le_of_ble_eq_true rfl) ?_
  intro p e s m args below meth c A C hr
  have hφ : ph σ.2.2 ≤ ph σ.2.2 := Nat.le_refl _
  refine nw_zero (ph σ.2.2) ?_
  show NI g p l e s m args below meth c A 1 40 4 ad Rr (ph σ.2.2) (r, σ') ta σ [(0, .int p0), (1, .int p1), (2, .int p2), (3, .int p3)] 0 []
  unfold f_Ground_overlap at h
  refine nw_iload_n C dX2_overlap_0 rfl 0 rfl ?_
  refine nw_iload_n C dX2_overlap_1 rfl 1 rfl ?_
  refine nw_mmax C tw_974 tw_165 tw_125 tm_max (Nat.le_of_ble_eq_true rfl) (Nat.le_of_ble_eq_true rfl) (Nat.sub_le_sub_right hφ2 _) (Nat.mul_le_mul_left 2 (Nat.sub_le_sub_right hφ2 _)) dX2_overlap_2 ?_
  refine nw_iload_n C dX2_overlap_5 rfl 2 rfl ?_
  refine nw_iload_n C dX2_overlap_6 rfl 3 rfl ?_
  refine nw_mmin C tw_975 tw_543 tw_125 tm_min (Nat.le_of_ble_eq_true rfl) (Nat.le_of_ble_eq_true rfl) (Nat.sub_le_sub_right hφ2 _) (Nat.mul_le_mul_left 2 (Nat.sub_le_sub_right hφ2 _)) dX2_overlap_7 ?_
  refine nw_icmp_lt (tgt := 30) C dX2_overlap_10 (by decide) h (fun _ h => ?_) (fun _ h => ?_)
  · refine nw_iconst (v := 0) C dX2_overlap_30 (by decide) ?_
    exact nc_zret C hr (Or.inl rfl) dX2_overlap_31 hφ hφ2 h
  · refine nw_iload_n C dX2_overlap_13 rfl 2 rfl ?_
    refine nw_iload_n C dX2_overlap_14 rfl 3 rfl ?_
    refine nw_mmax C tw_974 tw_165 tw_125 tm_max (Nat.le_of_ble_eq_true rfl) (Nat.le_of_ble_eq_true rfl) (Nat.sub_le_sub_right hφ2 _) (Nat.mul_le_mul_left 2 (Nat.sub_le_sub_right hφ2 _)) dX2_overlap_15 ?_
    refine nw_iload_n C dX2_overlap_18 rfl 0 rfl ?_
    refine nw_iload_n C dX2_overlap_19 rfl 1 rfl ?_
    refine nw_mmin C tw_975 tw_543 tw_125 tm_min (Nat.le_of_ble_eq_true rfl) (Nat.le_of_ble_eq_true rfl) (Nat.sub_le_sub_right hφ2 _) (Nat.mul_le_mul_left 2 (Nat.sub_le_sub_right hφ2 _)) dX2_overlap_20 ?_
    refine nw_icmp_lt (tgt := 30) C dX2_overlap_23 (by decide) h (fun _ h => ?_) (fun _ h => ?_)
    · refine nw_iconst (v := 0) C dX2_overlap_30 (by decide) ?_
      exact nc_zret C hr (Or.inl rfl) dX2_overlap_31 hφ hφ2 h
    · refine nw_iconst (v := 1) C dX2_overlap_26 (by decide) ?_
      refine nw_goto (tgt := 31) C dX2_overlap_27 (by decide) ?_
      exact nc_zret C hr (Or.inr rfl) dX2_overlap_31 hφ hφ2 h
theorem dX2_touch_0 : decode cX2_touch 0 = .ok (.aload_n 0, 1) := by decide +kernel
theorem dX2_touch_1 : decode cX2_touch 1 = .ok (.getfield 16, 3) := by decide +kernel
theorem dX2_touch_4 : decode cX2_touch 4 = .ok (.iload_n 1, 1) := by decide +kernel
theorem dX2_touch_5 : decode cX2_touch 5 = .ok (.iconst 1, 1) := by decide +kernel
theorem dX2_touch_6 : decode cX2_touch 6 = .ok (.invokevirtual 31, 3) := by decide +kernel
theorem dX2_touch_9 : decode cX2_touch 9 = .ok (.aload_n 0, 1) := by decide +kernel
theorem dX2_touch_10 : decode cX2_touch 10 = .ok (.getfield 16, 3) := by decide +kernel
theorem dX2_touch_13 : decode cX2_touch 13 = .ok (.iload_n 2, 1) := by decide +kernel
theorem dX2_touch_14 : decode cX2_touch 14 = .ok (.iconst 1, 1) := by decide +kernel
theorem dX2_touch_15 : decode cX2_touch 15 = .ok (.invokevirtual 31, 3) := by decide +kernel
theorem dX2_touch_18 : decode cX2_touch 18 = .ok (.aload_n 0, 1) := by decide +kernel
theorem dX2_touch_19 : decode cX2_touch 19 = .ok (.getfield 16, 3) := by decide +kernel
theorem dX2_touch_22 : decode cX2_touch 22 = .ok (.iload_n 3, 1) := by decide +kernel
theorem dX2_touch_23 : decode cX2_touch 23 = .ok (.iconst 1, 1) := by decide +kernel
theorem dX2_touch_24 : decode cX2_touch 24 = .ok (.invokevirtual 31, 3) := by decide +kernel
theorem dX2_touch_27 : decode cX2_touch 27 = .ok (.aload_n 0, 1) := by decide +kernel
theorem dX2_touch_28 : decode cX2_touch 28 = .ok (.getfield 16, 3) := by decide +kernel
theorem dX2_touch_31 : decode cX2_touch 31 = .ok (.iload 4, 2) := by decide +kernel
theorem dX2_touch_33 : decode cX2_touch 33 = .ok (.iconst 1, 1) := by decide +kernel
theorem dX2_touch_34 : decode cX2_touch 34 = .ok (.invokevirtual 31, 3) := by decide +kernel
theorem dX2_touch_37 : decode cX2_touch 37 = .ok (.invokestatic 76, 3) := by decide +kernel
theorem dX2_touch_40 : decode cX2_touch 40 = .ok (.ifCond .eq 89, 3) := by decide +kernel
theorem dX2_touch_43 : decode cX2_touch 43 = .ok (.aload_n 0, 1) := by decide +kernel
theorem dX2_touch_44 : decode cX2_touch 44 = .ok (.getfield 16, 3) := by decide +kernel
theorem dX2_touch_47 : decode cX2_touch 47 = .ok (.iload_n 1, 1) := by decide +kernel
theorem dX2_touch_48 : decode cX2_touch 48 = .ok (.iconst 2, 1) := by decide +kernel
theorem dX2_touch_49 : decode cX2_touch 49 = .ok (.invokevirtual 31, 3) := by decide +kernel
theorem dX2_touch_52 : decode cX2_touch 52 = .ok (.aload_n 0, 1) := by decide +kernel
theorem dX2_touch_53 : decode cX2_touch 53 = .ok (.getfield 16, 3) := by decide +kernel
theorem dX2_touch_56 : decode cX2_touch 56 = .ok (.iload_n 2, 1) := by decide +kernel
theorem dX2_touch_57 : decode cX2_touch 57 = .ok (.iconst 2, 1) := by decide +kernel
theorem dX2_touch_58 : decode cX2_touch 58 = .ok (.invokevirtual 31, 3) := by decide +kernel
theorem dX2_touch_61 : decode cX2_touch 61 = .ok (.aload_n 0, 1) := by decide +kernel
theorem dX2_touch_62 : decode cX2_touch 62 = .ok (.getfield 16, 3) := by decide +kernel
theorem dX2_touch_65 : decode cX2_touch 65 = .ok (.iload_n 3, 1) := by decide +kernel
theorem dX2_touch_66 : decode cX2_touch 66 = .ok (.iconst 2, 1) := by decide +kernel
theorem dX2_touch_67 : decode cX2_touch 67 = .ok (.invokevirtual 31, 3) := by decide +kernel
theorem dX2_touch_70 : decode cX2_touch 70 = .ok (.aload_n 0, 1) := by decide +kernel
theorem dX2_touch_71 : decode cX2_touch 71 = .ok (.getfield 16, 3) := by decide +kernel
theorem dX2_touch_74 : decode cX2_touch 74 = .ok (.iload 4, 2) := by decide +kernel
theorem dX2_touch_76 : decode cX2_touch 76 = .ok (.iconst 2, 1) := by decide +kernel
theorem dX2_touch_77 : decode cX2_touch 77 = .ok (.invokevirtual 31, 3) := by decide +kernel
theorem dX2_touch_80 : decode cX2_touch 80 = .ok (.invokestatic 76, 3) := by decide +kernel
theorem dX2_touch_83 : decode cX2_touch 83 = .ok (.ifCond .eq 46, 3) := by decide +kernel
theorem dX2_touch_86 : decode cX2_touch 86 = .ok (.aload_n 0, 1) := by decide +kernel
theorem dX2_touch_87 : decode cX2_touch 87 = .ok (.iload_n 1, 1) := by decide +kernel
theorem dX2_touch_88 : decode cX2_touch 88 = .ok (.iload_n 2, 1) := by decide +kernel
theorem dX2_touch_89 : decode cX2_touch 89 = .ok (.iload_n 3, 1) := by decide +kernel
theorem dX2_touch_90 : decode cX2_touch 90 = .ok (.invokevirtual 72, 3) := by decide +kernel
theorem dX2_touch_93 : decode cX2_touch 93 = .ok (.aload_n 0, 1) := by decide +kernel
theorem dX2_touch_94 : decode cX2_touch 94 = .ok (.iload_n 1, 1) := by decide +kernel
theorem dX2_touch_95 : decode cX2_touch 95 = .ok (.iload_n 2, 1) := by decide +kernel
theorem dX2_touch_96 : decode cX2_touch 96 = .ok (.iload 4, 2) := by decide +kernel
theorem dX2_touch_98 : decode cX2_touch 98 = .ok (.invokevirtual 72, 3) := by decide +kernel
theorem dX2_touch_101 : decode cX2_touch 101 = .ok (.imul, 1) := by decide +kernel
theorem dX2_touch_102 : decode cX2_touch 102 = .ok (.ifCond .gt 27, 3) := by decide +kernel
theorem dX2_touch_105 : decode cX2_touch 105 = .ok (.aload_n 0, 1) := by decide +kernel
theorem dX2_touch_106 : decode cX2_touch 106 = .ok (.iload_n 3, 1) := by decide +kernel
theorem dX2_touch_107 : decode cX2_touch 107 = .ok (.iload 4, 2) := by decide +kernel
theorem dX2_touch_109 : decode cX2_touch 109 = .ok (.iload_n 1, 1) := by decide +kernel
theorem dX2_touch_110 : decode cX2_touch 110 = .ok (.invokevirtual 72, 3) := by decide +kernel
theorem dX2_touch_113 : decode cX2_touch 113 = .ok (.aload_n 0, 1) := by decide +kernel
theorem dX2_touch_114 : decode cX2_touch 114 = .ok (.iload_n 3, 1) := by decide +kernel
theorem dX2_touch_115 : decode cX2_touch 115 = .ok (.iload 4, 2) := by decide +kernel
theorem dX2_touch_117 : decode cX2_touch 117 = .ok (.iload_n 2, 1) := by decide +kernel
theorem dX2_touch_118 : decode cX2_touch 118 = .ok (.invokevirtual 72, 3) := by decide +kernel
theorem dX2_touch_121 : decode cX2_touch 121 = .ok (.imul, 1) := by decide +kernel
theorem dX2_touch_122 : decode cX2_touch 122 = .ok (.ifCond .gt 7, 3) := by decide +kernel
theorem dX2_touch_125 : decode cX2_touch 125 = .ok (.iconst 1, 1) := by decide +kernel
theorem dX2_touch_126 : decode cX2_touch 126 = .ok (.goto 4, 3) := by decide +kernel
theorem dX2_touch_129 : decode cX2_touch 129 = .ok (.iconst 0, 1) := by decide +kernel
theorem dX2_touch_130 : decode cX2_touch 130 = .ok (.ireturn, 1) := by decide +kernel
def f_Ground_touch (p0 : Int32) (p1 : Int32) (p2 : Int32) (p3 : Int32) (σ : CS) : Option (Int32 × CS) := bnd (f_Table_get 1 p0 1 σ) (fun r6 σ6 => bnd (f_Table_get 1 p1 1 σ6) (fun r15 σ15 => bnd (f_Table_get 1 p2 1 σ15) (fun r24 σ24 => bnd (f_Table_get 1 p3 1 σ24) (fun r34 σ34 => bnd (f_Ground_overlap r6 r15 r24 r34 σ34) (fun r37 σ37 => if r37 = 0 then some (0, σ37) else bnd (f_Table_get 1 p0 2 σ37) (fun r49 σ49 => bnd (f_Table_get 1 p1 2 σ49) (fun r58 σ58 => bnd (f_Table_get 1 p2 2 σ58) (fun r67 σ67 => bnd (f_Table_get 1 p3 2 σ67) (fun r77 σ77 => bnd (f_Ground_overlap r49 r58 r67 r77 σ77) (fun r80 σ80 => if r80 = 0 then some (0, σ80) else bnd (f_Ground_turn p0 p1 p2 σ80) (fun r90 σ90 => bnd (f_Ground_turn p0 p1 p3 σ90) (fun r98 σ98 => if 0 < (r90 * r98) then some (0, σ98) else bnd (f_Ground_turn p2 p3 p0 σ98) (fun r110 σ110 => bnd (f_Ground_turn p2 p3 p1 σ110) (fun r118 σ118 => if 0 < (r110 * r118) then some (0, σ118) else some (1, σ118)))))))))))))))
set_option maxHeartbeats 4000000 in
set_option maxRecDepth 100000 in
theorem c_Ground_touch {l : Launch} {g : EG} {ad ta : Nat → Nat} {Rr : va_W} {σ σ' : CS} {r : Int32} {p0 : Int32} {p1 : Int32} {p2 : Int32} {p3 : Int32}  (h : f_Ground_touch p0 p1 p2 p3 σ = some (r, σ')) (hφ2 : ph σ.2.2 ≤ BB) : CtI l g yX2_touch (.code yX2_touch cX2_touch 5 (some .boolean)) 2 63 ad ta Rr σ [.ref (ad 1), .int p0, .int p1, .int p2, .int p3] r σ' := by
  refine Ct.of rfl (by decide) (Nat.le_of_ble_eq_true rfl) ?_
  intro p e s m args below meth c A C hr
  have hφ : ph σ.2.2 ≤ ph σ.2.2 := Nat.le_refl _
  refine nw_zero (ph σ.2.2) ?_
  show NI g p l e s m args below meth c A 2 63 5 ad Rr (ph σ.2.2) (r, σ') ta σ [(0, .ref (ad 1)), (1, .int p0), (2, .int p1), (3, .int p2), (4, .int p3)] 0 []
  unfold f_Ground_touch at h
  refine nw_aload_n C dX2_touch_0 rfl 0 rfl ?_
  refine nw_get (v := .ref (ad 12)) C in_X2 1 cl_Ground rfl 0 (by decide) tw_189 rfl rfl dX2_touch_1 ?_
  refine nw_iload_n C dX2_touch_4 rfl 1 rfl ?_
  refine nw_iconst (v := 1) C dX2_touch_5 (by decide) ?_
  refine nc_callVI (q0 := 12) (As := [.int p0, .int 1]) (rest := []) C h (fun _ _ e => c_Table_get 1 (by decide) e hφ2) tw_839 kv_X9_get (cl_T 1 (by decide)) rfl ⟨Nat.le_of_ble_eq_true rfl, Nat.le_of_ble_eq_true rfl⟩ rfl dX2_touch_6 rfl (Nat.le_of_ble_eq_true rfl) hφ hφ2 (fun r6 σ6 ta h hφ hφ2 => ?_)
  refine nw_aload_n C dX2_touch_9 rfl 0 rfl ?_
  refine nw_get (v := .ref (ad 12)) C in_X2 1 cl_Ground rfl 0 (by decide) tw_189 rfl rfl dX2_touch_10 ?_
  refine nw_iload_n C dX2_touch_13 rfl 2 rfl ?_
  refine nw_iconst (v := 1) C dX2_touch_14 (by decide) ?_
  refine nc_callVI (q0 := 12) (As := [.int p1, .int 1]) (rest := [.int r6]) C h (fun _ _ e => c_Table_get 1 (by decide) e hφ2) tw_839 kv_X9_get (cl_T 1 (by decide)) rfl ⟨Nat.le_of_ble_eq_true rfl, Nat.le_of_ble_eq_true rfl⟩ rfl dX2_touch_15 rfl (Nat.le_of_ble_eq_true rfl) hφ hφ2 (fun r15 σ15 ta h hφ hφ2 => ?_)
  refine nw_aload_n C dX2_touch_18 rfl 0 rfl ?_
  refine nw_get (v := .ref (ad 12)) C in_X2 1 cl_Ground rfl 0 (by decide) tw_189 rfl rfl dX2_touch_19 ?_
  refine nw_iload_n C dX2_touch_22 rfl 3 rfl ?_
  refine nw_iconst (v := 1) C dX2_touch_23 (by decide) ?_
  refine nc_callVI (q0 := 12) (As := [.int p2, .int 1]) (rest := [.int r15, .int r6]) C h (fun _ _ e => c_Table_get 1 (by decide) e hφ2) tw_839 kv_X9_get (cl_T 1 (by decide)) rfl ⟨Nat.le_of_ble_eq_true rfl, Nat.le_of_ble_eq_true rfl⟩ rfl dX2_touch_24 rfl (Nat.le_of_ble_eq_true rfl) hφ hφ2 (fun r24 σ24 ta h hφ hφ2 => ?_)
  refine nw_aload_n C dX2_touch_27 rfl 0 rfl ?_
  refine nw_get (v := .ref (ad 12)) C in_X2 1 cl_Ground rfl 0 (by decide) tw_189 rfl rfl dX2_touch_28 ?_
  refine nw_iload C dX2_touch_31 4 rfl ?_
  refine nw_iconst (v := 1) C dX2_touch_33 (by decide) ?_
  refine nc_callVI (q0 := 12) (As := [.int p3, .int 1]) (rest := [.int r24, .int r15, .int r6]) C h (fun _ _ e => c_Table_get 1 (by decide) e hφ2) tw_839 kv_X9_get (cl_T 1 (by decide)) rfl ⟨Nat.le_of_ble_eq_true rfl, Nat.le_of_ble_eq_true rfl⟩ rfl dX2_touch_34 rfl (Nat.le_of_ble_eq_true rfl) hφ hφ2 (fun r34 σ34 ta h hφ hφ2 => ?_)
  refine nc_callSI  (As := [.int r6, .int r15, .int r24, .int r34]) (rest := []) C h (fun _ _ e => c_Ground_overlap e hφ2) tw_971 ks_X2_overlap ⟨Nat.le_of_ble_eq_true rfl, Nat.le_of_ble_eq_true rfl⟩ rfl dX2_touch_37 rfl (Nat.le_of_ble_eq_true rfl) hφ hφ2 (fun r37 σ37 ta h hφ hφ2 => ?_)
  refine nw_if_eq (tgt := 129) C dX2_touch_40 (by decide) h (fun _ h => ?_) (fun _ h => ?_)
  · refine nw_iconst (v := 0) C dX2_touch_129 (by decide) ?_
    exact nc_zret C hr (Or.inl rfl) dX2_touch_130 hφ hφ2 h
  · refine nw_aload_n C dX2_touch_43 rfl 0 rfl ?_
    refine nw_get (v := .ref (ad 12)) C in_X2 1 cl_Ground rfl 0 (by decide) tw_189 rfl rfl dX2_touch_44 ?_
    refine nw_iload_n C dX2_touch_47 rfl 1 rfl ?_
    refine nw_iconst (v := 2) C dX2_touch_48 (by decide) ?_
    refine nc_callVI (q0 := 12) (As := [.int p0, .int 2]) (rest := []) C h (fun _ _ e => c_Table_get 1 (by decide) e hφ2) tw_839 kv_X9_get (cl_T 1 (by decide)) rfl ⟨Nat.le_of_ble_eq_true rfl, Nat.le_of_ble_eq_true rfl⟩ rfl dX2_touch_49 rfl (Nat.le_of_ble_eq_true rfl) hφ hφ2 (fun r49 σ49 ta h hφ hφ2 => ?_)
    refine nw_aload_n C dX2_touch_52 rfl 0 rfl ?_
    refine nw_get (v := .ref (ad 12)) C in_X2 1 cl_Ground rfl 0 (by decide) tw_189 rfl rfl dX2_touch_53 ?_
    refine nw_iload_n C dX2_touch_56 rfl 2 rfl ?_
    refine nw_iconst (v := 2) C dX2_touch_57 (by decide) ?_
    refine nc_callVI (q0 := 12) (As := [.int p1, .int 2]) (rest := [.int r49]) C h (fun _ _ e => c_Table_get 1 (by decide) e hφ2) tw_839 kv_X9_get (cl_T 1 (by decide)) rfl ⟨Nat.le_of_ble_eq_true rfl, Nat.le_of_ble_eq_true rfl⟩ rfl dX2_touch_58 rfl (Nat.le_of_ble_eq_true rfl) hφ hφ2 (fun r58 σ58 ta h hφ hφ2 => ?_)
    refine nw_aload_n C dX2_touch_61 rfl 0 rfl ?_
    refine nw_get (v := .ref (ad 12)) C in_X2 1 cl_Ground rfl 0 (by decide) tw_189 rfl rfl dX2_touch_62 ?_
    refine nw_iload_n C dX2_touch_65 rfl 3 rfl ?_
    refine nw_iconst (v := 2) C dX2_touch_66 (by decide) ?_
    refine nc_callVI (q0 := 12) (As := [.int p2, .int 2]) (rest := [.int r58, .int r49]) C h (fun _ _ e => c_Table_get 1 (by decide) e hφ2) tw_839 kv_X9_get (cl_T 1 (by decide)) rfl ⟨Nat.le_of_ble_eq_true rfl, Nat.le_of_ble_eq_true rfl⟩ rfl dX2_touch_67 rfl (Nat.le_of_ble_eq_true rfl) hφ hφ2 (fun r67 σ67 ta h hφ hφ2 => ?_)
    refine nw_aload_n C dX2_touch_70 rfl 0 rfl ?_
    refine nw_get (v := .ref (ad 12)) C in_X2 1 cl_Ground rfl 0 (by decide) tw_189 rfl rfl dX2_touch_71 ?_
    refine nw_iload C dX2_touch_74 4 rfl ?_
    refine nw_iconst (v := 2) C dX2_touch_76 (by decide) ?_
    refine nc_callVI (q0 := 12) (As := [.int p3, .int 2]) (rest := [.int r67, .int r58, .int r49]) C h (fun _ _ e => c_Table_get 1 (by decide) e hφ2) tw_839 kv_X9_get (cl_T 1 (by decide)) rfl ⟨Nat.le_of_ble_eq_true rfl, Nat.le_of_ble_eq_true rfl⟩ rfl dX2_touch_77 rfl (Nat.le_of_ble_eq_true rfl) hφ hφ2 (fun r77 σ77 ta h hφ hφ2 => ?_)
    refine nc_callSI  (As := [.int r49, .int r58, .int r67, .int r77]) (rest := []) C h (fun _ _ e => c_Ground_overlap e hφ2) tw_971 ks_X2_overlap ⟨Nat.le_of_ble_eq_true rfl, Nat.le_of_ble_eq_true rfl⟩ rfl dX2_touch_80 rfl (Nat.le_of_ble_eq_true rfl) hφ hφ2 (fun r80 σ80 ta h hφ hφ2 => ?_)
    refine nw_if_eq (tgt := 129) C dX2_touch_83 (by decide) h (fun _ h => ?_) (fun _ h => ?_)
    · refine nw_iconst (v := 0) C dX2_touch_129 (by decide) ?_
      exact nc_zret C hr (Or.inl rfl) dX2_touch_130 hφ hφ2 h
    · refine nw_aload_n C dX2_touch_86 rfl 0 rfl ?_
      refine nw_iload_n C dX2_touch_87 rfl 1 rfl ?_
      refine nw_iload_n C dX2_touch_88 rfl 2 rfl ?_
      refine nw_iload_n C dX2_touch_89 rfl 3 rfl ?_
      refine nc_callVI (q0 := 1) (As := [.int p0, .int p1, .int p2]) (rest := []) C h (fun _ _ e => c_Ground_turn e hφ2) tw_963 kv_X2_turn cl_Ground rfl ⟨Nat.le_of_ble_eq_true rfl, Nat.le_of_ble_eq_true rfl⟩ rfl dX2_touch_90 rfl (Nat.le_of_ble_eq_true rfl) hφ hφ2 (fun r90 σ90 ta h hφ hφ2 => ?_)
      refine nw_aload_n C dX2_touch_93 rfl 0 rfl ?_
      refine nw_iload_n C dX2_touch_94 rfl 1 rfl ?_
      refine nw_iload_n C dX2_touch_95 rfl 2 rfl ?_
      refine nw_iload C dX2_touch_96 4 rfl ?_
      refine nc_callVI (q0 := 1) (As := [.int p0, .int p1, .int p3]) (rest := [.int r90]) C h (fun _ _ e => c_Ground_turn e hφ2) tw_963 kv_X2_turn cl_Ground rfl ⟨Nat.le_of_ble_eq_true rfl, Nat.le_of_ble_eq_true rfl⟩ rfl dX2_touch_98 rfl (Nat.le_of_ble_eq_true rfl) hφ hφ2 (fun r98 σ98 ta h hφ hφ2 => ?_)
      refine nw_imul C dX2_touch_101 ?_
      refine nw_if_gt (tgt := 129) C dX2_touch_102 (by decide) h (fun _ h => ?_) (fun _ h => ?_)
      · refine nw_iconst (v := 0) C dX2_touch_129 (by decide) ?_
        exact nc_zret C hr (Or.inl rfl) dX2_touch_130 hφ hφ2 h
      · refine nw_aload_n C dX2_touch_105 rfl 0 rfl ?_
        refine nw_iload_n C dX2_touch_106 rfl 3 rfl ?_
        refine nw_iload C dX2_touch_107 4 rfl ?_
        refine nw_iload_n C dX2_touch_109 rfl 1 rfl ?_
        refine nc_callVI (q0 := 1) (As := [.int p2, .int p3, .int p0]) (rest := []) C h (fun _ _ e => c_Ground_turn e hφ2) tw_963 kv_X2_turn cl_Ground rfl ⟨Nat.le_of_ble_eq_true rfl, Nat.le_of_ble_eq_true rfl⟩ rfl dX2_touch_110 rfl (Nat.le_of_ble_eq_true rfl) hφ hφ2 (fun r110 σ110 ta h hφ hφ2 => ?_)
        refine nw_aload_n C dX2_touch_113 rfl 0 rfl ?_
        refine nw_iload_n C dX2_touch_114 rfl 3 rfl ?_
        refine nw_iload C dX2_touch_115 4 rfl ?_
        refine nw_iload_n C dX2_touch_117 rfl 2 rfl ?_
        refine nc_callVI (q0 := 1) (As := [.int p2, .int p3, .int p1]) (rest := [.int r110]) C h (fun _ _ e => c_Ground_turn e hφ2) tw_963 kv_X2_turn cl_Ground rfl ⟨Nat.le_of_ble_eq_true rfl, Nat.le_of_ble_eq_true rfl⟩ rfl dX2_touch_118 rfl (Nat.le_of_ble_eq_true rfl) hφ hφ2 (fun r118 σ118 ta h hφ hφ2 => ?_)
        refine nw_imul C dX2_touch_121 ?_
        refine nw_if_gt (tgt := 129) C dX2_touch_122 (by decide) h (fun _ h => ?_) (fun _ h => ?_)
        · refine nw_iconst (v := 0) C dX2_touch_129 (by decide) ?_
          exact nc_zret C hr (Or.inl rfl) dX2_touch_130 hφ hφ2 h
        · refine nw_iconst (v := 1) C dX2_touch_125 (by decide) ?_
          refine nw_goto (tgt := 130) C dX2_touch_126 (by decide) ?_
          exact nc_zret C hr (Or.inr rfl) dX2_touch_130 hφ hφ2 h
theorem dX2_follows_0 : decode cX2_follows 0 = .ok (.iload_n 2, 1) := by decide +kernel
theorem dX2_follows_1 : decode cX2_follows 1 = .ok (.ifCond .lt 9, 3) := by decide +kernel
theorem dX2_follows_4 : decode cX2_follows 4 = .ok (.iload_n 2, 1) := by decide +kernel
theorem dX2_follows_5 : decode cX2_follows 5 = .ok (.aload_n 1, 1) := by decide +kernel
theorem dX2_follows_6 : decode cX2_follows 6 = .ok (.arraylength, 1) := by decide +kernel
theorem dX2_follows_7 : decode cX2_follows 7 = .ok (.if_icmp .lt 5, 3) := by decide +kernel
theorem dX2_follows_10 : decode cX2_follows 10 = .ok (.iconst 0, 1) := by decide +kernel
theorem dX2_follows_11 : decode cX2_follows 11 = .ok (.ireturn, 1) := by decide +kernel
theorem dX2_follows_12 : decode cX2_follows 12 = .ok (.iconst 0, 1) := by decide +kernel
theorem dX2_follows_13 : decode cX2_follows 13 = .ok (.istore_n 3, 1) := by decide +kernel
theorem dX2_follows_14 : decode cX2_follows 14 = .ok (.iload_n 3, 1) := by decide +kernel
theorem dX2_follows_15 : decode cX2_follows 15 = .ok (.iload_n 2, 1) := by decide +kernel
theorem dX2_follows_16 : decode cX2_follows 16 = .ok (.if_icmp .ge 24, 3) := by decide +kernel
theorem dX2_follows_19 : decode cX2_follows 19 = .ok (.aload_n 0, 1) := by decide +kernel
theorem dX2_follows_20 : decode cX2_follows 20 = .ok (.aload_n 1, 1) := by decide +kernel
theorem dX2_follows_21 : decode cX2_follows 21 = .ok (.iload_n 3, 1) := by decide +kernel
theorem dX2_follows_22 : decode cX2_follows 22 = .ok (.iaload, 1) := by decide +kernel
theorem dX2_follows_23 : decode cX2_follows 23 = .ok (.aload_n 1, 1) := by decide +kernel
theorem dX2_follows_24 : decode cX2_follows 24 = .ok (.iload_n 2, 1) := by decide +kernel
theorem dX2_follows_25 : decode cX2_follows 25 = .ok (.iaload, 1) := by decide +kernel
theorem dX2_follows_26 : decode cX2_follows 26 = .ok (.invokevirtual 60, 3) := by decide +kernel
theorem dX2_follows_29 : decode cX2_follows 29 = .ok (.ifCond .eq 5, 3) := by decide +kernel
theorem dX2_follows_32 : decode cX2_follows 32 = .ok (.iconst 0, 1) := by decide +kernel
theorem dX2_follows_33 : decode cX2_follows 33 = .ok (.ireturn, 1) := by decide +kernel
theorem dX2_follows_34 : decode cX2_follows 34 = .ok (.iinc 3 1, 3) := by decide +kernel
theorem dX2_follows_37 : decode cX2_follows 37 = .ok (.goto (-23), 3) := by decide +kernel
theorem dX2_follows_40 : decode cX2_follows 40 = .ok (.iload_n 2, 1) := by decide +kernel
theorem dX2_follows_41 : decode cX2_follows 41 = .ok (.iconst 2, 1) := by decide +kernel
theorem dX2_follows_42 : decode cX2_follows 42 = .ok (.if_icmp .lt 25, 3) := by decide +kernel
theorem dX2_follows_45 : decode cX2_follows 45 = .ok (.aload_n 0, 1) := by decide +kernel
theorem dX2_follows_46 : decode cX2_follows 46 = .ok (.aload_n 1, 1) := by decide +kernel
theorem dX2_follows_47 : decode cX2_follows 47 = .ok (.iload_n 2, 1) := by decide +kernel
theorem dX2_follows_48 : decode cX2_follows 48 = .ok (.iconst 2, 1) := by decide +kernel
theorem dX2_follows_49 : decode cX2_follows 49 = .ok (.isub, 1) := by decide +kernel
theorem dX2_follows_50 : decode cX2_follows 50 = .ok (.iaload, 1) := by decide +kernel
theorem dX2_follows_51 : decode cX2_follows 51 = .ok (.aload_n 1, 1) := by decide +kernel
theorem dX2_follows_52 : decode cX2_follows 52 = .ok (.iload_n 2, 1) := by decide +kernel
theorem dX2_follows_53 : decode cX2_follows 53 = .ok (.iconst 1, 1) := by decide +kernel
theorem dX2_follows_54 : decode cX2_follows 54 = .ok (.isub, 1) := by decide +kernel
theorem dX2_follows_55 : decode cX2_follows 55 = .ok (.iaload, 1) := by decide +kernel
theorem dX2_follows_56 : decode cX2_follows 56 = .ok (.aload_n 1, 1) := by decide +kernel
theorem dX2_follows_57 : decode cX2_follows 57 = .ok (.iload_n 2, 1) := by decide +kernel
theorem dX2_follows_58 : decode cX2_follows 58 = .ok (.iaload, 1) := by decide +kernel
theorem dX2_follows_59 : decode cX2_follows 59 = .ok (.invokevirtual 64, 3) := by decide +kernel
theorem dX2_follows_62 : decode cX2_follows 62 = .ok (.ifCond .eq 5, 3) := by decide +kernel
theorem dX2_follows_65 : decode cX2_follows 65 = .ok (.iconst 0, 1) := by decide +kernel
theorem dX2_follows_66 : decode cX2_follows 66 = .ok (.ireturn, 1) := by decide +kernel
theorem dX2_follows_67 : decode cX2_follows 67 = .ok (.iconst 0, 1) := by decide +kernel
theorem dX2_follows_68 : decode cX2_follows 68 = .ok (.istore_n 3, 1) := by decide +kernel
theorem dX2_follows_69 : decode cX2_follows 69 = .ok (.iload_n 3, 1) := by decide +kernel
theorem dX2_follows_70 : decode cX2_follows 70 = .ok (.iconst 2, 1) := by decide +kernel
theorem dX2_follows_71 : decode cX2_follows 71 = .ok (.iadd, 1) := by decide +kernel
theorem dX2_follows_72 : decode cX2_follows 72 = .ok (.iload_n 2, 1) := by decide +kernel
theorem dX2_follows_73 : decode cX2_follows 73 = .ok (.if_icmp .ge 34, 3) := by decide +kernel
theorem dX2_follows_76 : decode cX2_follows 76 = .ok (.aload_n 0, 1) := by decide +kernel
theorem dX2_follows_77 : decode cX2_follows 77 = .ok (.aload_n 1, 1) := by decide +kernel
theorem dX2_follows_78 : decode cX2_follows 78 = .ok (.iload_n 3, 1) := by decide +kernel
theorem dX2_follows_79 : decode cX2_follows 79 = .ok (.iaload, 1) := by decide +kernel
theorem dX2_follows_80 : decode cX2_follows 80 = .ok (.aload_n 1, 1) := by decide +kernel
theorem dX2_follows_81 : decode cX2_follows 81 = .ok (.iload_n 3, 1) := by decide +kernel
theorem dX2_follows_82 : decode cX2_follows 82 = .ok (.iconst 1, 1) := by decide +kernel
theorem dX2_follows_83 : decode cX2_follows 83 = .ok (.iadd, 1) := by decide +kernel
theorem dX2_follows_84 : decode cX2_follows 84 = .ok (.iaload, 1) := by decide +kernel
theorem dX2_follows_85 : decode cX2_follows 85 = .ok (.aload_n 1, 1) := by decide +kernel
theorem dX2_follows_86 : decode cX2_follows 86 = .ok (.iload_n 2, 1) := by decide +kernel
theorem dX2_follows_87 : decode cX2_follows 87 = .ok (.iconst 1, 1) := by decide +kernel
theorem dX2_follows_88 : decode cX2_follows 88 = .ok (.isub, 1) := by decide +kernel
theorem dX2_follows_89 : decode cX2_follows 89 = .ok (.iaload, 1) := by decide +kernel
theorem dX2_follows_90 : decode cX2_follows 90 = .ok (.aload_n 1, 1) := by decide +kernel
theorem dX2_follows_91 : decode cX2_follows 91 = .ok (.iload_n 2, 1) := by decide +kernel
theorem dX2_follows_92 : decode cX2_follows 92 = .ok (.iaload, 1) := by decide +kernel
theorem dX2_follows_93 : decode cX2_follows 93 = .ok (.invokevirtual 68, 3) := by decide +kernel
theorem dX2_follows_96 : decode cX2_follows 96 = .ok (.ifCond .eq 5, 3) := by decide +kernel
theorem dX2_follows_99 : decode cX2_follows 99 = .ok (.iconst 0, 1) := by decide +kernel
theorem dX2_follows_100 : decode cX2_follows 100 = .ok (.ireturn, 1) := by decide +kernel
theorem dX2_follows_101 : decode cX2_follows 101 = .ok (.iinc 3 1, 3) := by decide +kernel
theorem dX2_follows_104 : decode cX2_follows 104 = .ok (.goto (-35), 3) := by decide +kernel
theorem dX2_follows_107 : decode cX2_follows 107 = .ok (.iconst 1, 1) := by decide +kernel
theorem dX2_follows_108 : decode cX2_follows 108 = .ok (.ireturn, 1) := by decide +kernel
def L_Ground_follows_14 (a0 : Nat) (k40 : Int32 → CS → Option (Int32 × CS)) (x2 : Int32) : Nat → Int32 → CS → Option (Int32 × CS)
  | 0, _, _ => none
  | n + 1, x3, σ => if x2 ≤ x3 then k40 x2 σ else gix x3 (lenA a0) (gix x2 (lenA a0) (bnd (f_Ground_isSamePlace (rd σ a0 x3) (rd σ a0 x2) σ) (fun r26 σ26 => if r26 = 0 then (L_Ground_follows_14 a0 k40 x2 n) (x3 + 1) σ26 else some (0, σ26))))
set_option maxHeartbeats 4000000 in
set_option maxRecDepth 100000 in
theorem w_Ground_follows_14 (C : Cx g p s m args meth c A 4 cX2_follows yX2_follows.cls) (hr : meth.sig.returnType = (some .boolean)) {a0 : Nat} (ha0 : okI a0 = true) {res : Int32 × CS}  (x2 : Int32) {k40 : Int32 → CS → Option (Int32 × CS)} (hk40 : ∀ (x2 : Int32) (σ : CS) (ta : Nat → Nat), φ0 ≤ ph σ.2.2 → ph σ.2.2 ≤ BB → k40 x2 σ = some res → NI g p l e s m args below meth c A 3 87 4 ad Rr φ0 res ta σ [(0, .ref (ad 1)), (1, .ref (ad (27 + a0))), (2, .int x2)] 40 []) : ∀ (n : Nat) (x3 : Int32) (σ : CS) (ta : Nat → Nat), φ0 ≤ ph σ.2.2 → ph σ.2.2 ≤ BB → L_Ground_follows_14 a0 k40 x2 n x3 σ = some res → NI g p l e s m args below meth c A 3 87 4 ad Rr φ0 res ta σ [(0, .ref (ad 1)), (1, .ref (ad (27 + a0))), (2, .int x2), (3, .int x3)] 14 [] := by
  intro n
  induction n with
  | zero =>
    intro x3 σ ta hφ hφ2 h
    exact absurd (show (none : Option (Int32 × CS)) = some res from h) (by intro h9; cases h9)
  | succ n ih =>
    intro x3 σ ta hφ hφ2 h
    rw [L_Ground_follows_14] at h
    refine nw_iload_n C dX2_follows_14 rfl 3 rfl ?_
    refine nw_iload_n C dX2_follows_15 rfl 2 rfl ?_
    refine nw_icmp_ge (tgt := 40) C dX2_follows_16 (by decide) h (fun _ h => ?_) (fun _ h => ?_)
    · exact nw_lv (lv' := [(0, .ref (ad 1)), (1, .ref (ad (27 + a0))), (2, .int x2)]) [0, 1, 2] rfl (hk40 x2 _ _ hφ hφ2 h)
    · refine nw_aload_n C dX2_follows_19 rfl 0 rfl ?_
      refine nw_aload_n C dX2_follows_20 rfl 1 rfl ?_
      refine nw_iload_n C dX2_follows_21 rfl 3 rfl ?_
      refine nw_iald C (27 + a0) (cl_I a0 ha0) dX2_follows_22 h (fun h => ?_)
      refine nw_aload_n C dX2_follows_23 rfl 1 rfl ?_
      refine nw_iload_n C dX2_follows_24 rfl 2 rfl ?_
      refine nw_iald C (27 + a0) (cl_I a0 ha0) dX2_follows_25 h (fun h => ?_)
      refine nc_callVI (q0 := 1) (As := [.int (rd σ a0 x3), .int (rd σ a0 x2)]) (rest := []) C h (fun _ _ e => c_Ground_isSamePlace e hφ2) tw_955 kv_X2_isSamePlace cl_Ground rfl ⟨Nat.le_of_ble_eq_true rfl, Nat.le_of_ble_eq_true rfl⟩ rfl dX2_follows_26 rfl (Nat.le_of_ble_eq_true rfl) hφ hφ2 (fun r26 σ26 ta h hφ hφ2 => ?_)
      refine nw_if_eq (tgt := 34) C dX2_follows_29 (by decide) h (fun _ h => ?_) (fun _ h => ?_)
      · refine nw_iinc (lv' := [(3, .int (x3 + 1)), (0, .ref (ad 1)), (1, .ref (ad (27 + a0))), (2, .int x2)]) C (x3 + 1) dX2_follows_34 3 rfl rfl (by decide) rfl ?_
        refine nw_goto (tgt := 14) C dX2_follows_37 (by decide) ?_
        exact nw_lv (lv' := [(0, .ref (ad 1)), (1, .ref (ad (27 + a0))), (2, .int x2), (3, .int (x3 + 1))]) [1, 2, 3, 0] rfl (ih (x3 + 1) _ _ hφ hφ2 h)
      · refine nw_iconst (v := 0) C dX2_follows_32 (by decide) ?_
        exact nc_zret C hr (Or.inl rfl) dX2_follows_33 hφ hφ2 h
def L_Ground_follows_69 (a0 : Nat)  (x2 : Int32) : Nat → Int32 → CS → Option (Int32 × CS)
  | 0, _, _ => none
  | n + 1, x3, σ => if x2 ≤ (x3 + 2) then some (1, σ) else gix x3 (lenA a0) (gix (x3 + 1) (lenA a0) (gix (x2 - 1) (lenA a0) (gix x2 (lenA a0) (bnd (f_Ground_touch (rd σ a0 x3) (rd σ a0 (x3 + 1)) (rd σ a0 (x2 - 1)) (rd σ a0 x2) σ) (fun r93 σ93 => if r93 = 0 then (L_Ground_follows_69 a0 x2 n) (x3 + 1) σ93 else some (0, σ93))))))
set_option maxHeartbeats 4000000 in
set_option maxRecDepth 100000 in
theorem w_Ground_follows_69 (C : Cx g p s m args meth c A 4 cX2_follows yX2_follows.cls) (hr : meth.sig.returnType = (some .boolean)) {a0 : Nat} (ha0 : okI a0 = true) {res : Int32 × CS}  (x2 : Int32)  : ∀ (n : Nat) (x3 : Int32) (σ : CS) (ta : Nat → Nat), φ0 ≤ ph σ.2.2 → ph σ.2.2 ≤ BB → L_Ground_follows_69 a0 x2 n x3 σ = some res → NI g p l e s m args below meth c A 3 87 4 ad Rr φ0 res ta σ [(0, .ref (ad 1)), (1, .ref (ad (27 + a0))), (2, .int x2), (3, .int x3)] 69 [] := by
  intro n
  induction n with
  | zero =>
    intro x3 σ ta hφ hφ2 h
    exact absurd (show (none : Option (Int32 × CS)) = some res from h) (by intro h9; cases h9)
  | succ n ih =>
    intro x3 σ ta hφ hφ2 h
    rw [L_Ground_follows_69] at h
    refine nw_iload_n C dX2_follows_69 rfl 3 rfl ?_
    refine nw_iconst (v := 2) C dX2_follows_70 (by decide) ?_
    refine nw_iadd C dX2_follows_71 ?_
    refine nw_iload_n C dX2_follows_72 rfl 2 rfl ?_
    refine nw_icmp_ge (tgt := 107) C dX2_follows_73 (by decide) h (fun _ h => ?_) (fun _ h => ?_)
    · refine nw_iconst (v := 1) C dX2_follows_107 (by decide) ?_
      exact nc_zret C hr (Or.inr rfl) dX2_follows_108 hφ hφ2 h
    · refine nw_aload_n C dX2_follows_76 rfl 0 rfl ?_
      refine nw_aload_n C dX2_follows_77 rfl 1 rfl ?_
      refine nw_iload_n C dX2_follows_78 rfl 3 rfl ?_
      refine nw_iald C (27 + a0) (cl_I a0 ha0) dX2_follows_79 h (fun h => ?_)
      refine nw_aload_n C dX2_follows_80 rfl 1 rfl ?_
      refine nw_iload_n C dX2_follows_81 rfl 3 rfl ?_
      refine nw_iconst (v := 1) C dX2_follows_82 (by decide) ?_
      refine nw_iadd C dX2_follows_83 ?_
      refine nw_iald C (27 + a0) (cl_I a0 ha0) dX2_follows_84 h (fun h => ?_)
      refine nw_aload_n C dX2_follows_85 rfl 1 rfl ?_
      refine nw_iload_n C dX2_follows_86 rfl 2 rfl ?_
      refine nw_iconst (v := 1) C dX2_follows_87 (by decide) ?_
      refine nw_isub C dX2_follows_88 ?_
      refine nw_iald C (27 + a0) (cl_I a0 ha0) dX2_follows_89 h (fun h => ?_)
      refine nw_aload_n C dX2_follows_90 rfl 1 rfl ?_
      refine nw_iload_n C dX2_follows_91 rfl 2 rfl ?_
      refine nw_iald C (27 + a0) (cl_I a0 ha0) dX2_follows_92 h (fun h => ?_)
      refine nc_callVI (q0 := 1) (As := [.int (rd σ a0 x3), .int (rd σ a0 (x3 + 1)), .int (rd σ a0 (x2 - 1)), .int (rd σ a0 x2)]) (rest := []) C h (fun _ _ e => c_Ground_touch e hφ2) tw_967 kv_X2_touch cl_Ground rfl ⟨Nat.le_of_ble_eq_true rfl, Nat.le_of_ble_eq_true rfl⟩ rfl dX2_follows_93 rfl (Nat.le_of_ble_eq_true rfl) hφ hφ2 (fun r93 σ93 ta h hφ hφ2 => ?_)
      refine nw_if_eq (tgt := 101) C dX2_follows_96 (by decide) h (fun _ h => ?_) (fun _ h => ?_)
      · refine nw_iinc (lv' := [(3, .int (x3 + 1)), (0, .ref (ad 1)), (1, .ref (ad (27 + a0))), (2, .int x2)]) C (x3 + 1) dX2_follows_101 3 rfl rfl (by decide) rfl ?_
        refine nw_goto (tgt := 69) C dX2_follows_104 (by decide) ?_
        exact nw_lv (lv' := [(0, .ref (ad 1)), (1, .ref (ad (27 + a0))), (2, .int x2), (3, .int (x3 + 1))]) [1, 2, 3, 0] rfl (ih (x3 + 1) _ _ hφ hφ2 h)
      · refine nw_iconst (v := 0) C dX2_follows_99 (by decide) ?_
        exact nc_zret C hr (Or.inl rfl) dX2_follows_100 hφ hφ2 h
def B_Ground_follows_40 (a0 : Nat)   (x2 : Int32) (σ : CS) : Option (Int32 × CS) := if x2 < 2 then L_Ground_follows_69 a0 x2 FU 0 σ else gix (x2 - 2) (lenA a0) (gix (x2 - 1) (lenA a0) (gix x2 (lenA a0) (bnd (f_Ground_foldsBack (rd σ a0 (x2 - 2)) (rd σ a0 (x2 - 1)) (rd σ a0 x2) σ) (fun r59 σ59 => if r59 = 0 then L_Ground_follows_69 a0 x2 FU 0 σ59 else some (0, σ59)))))
set_option maxHeartbeats 4000000 in
set_option maxRecDepth 100000 in
theorem w_Ground_follows_40 (C : Cx g p s m args meth c A 4 cX2_follows yX2_follows.cls) (hr : meth.sig.returnType = (some .boolean)) {a0 : Nat} (ha0 : okI a0 = true) {res : Int32 × CS}   (x2 : Int32)  (σ : CS) (ta : Nat → Nat) (hφ : φ0 ≤ ph σ.2.2) (hφ2 : ph σ.2.2 ≤ BB) (h : B_Ground_follows_40 a0 x2 σ = some res) : NI g p l e s m args below meth c A 3 87 4 ad Rr φ0 res ta σ [(0, .ref (ad 1)), (1, .ref (ad (27 + a0))), (2, .int x2)] 40 [] := by
  unfold B_Ground_follows_40 at h
  refine nw_iload_n C dX2_follows_40 rfl 2 rfl ?_
  refine nw_iconst (v := 2) C dX2_follows_41 (by decide) ?_
  refine nw_icmp_lt (tgt := 67) C dX2_follows_42 (by decide) h (fun _ h => ?_) (fun _ h => ?_)
  · refine nw_iconst (v := 0) C dX2_follows_67 (by decide) ?_
    refine nw_istore_n (lv' := [(3, .int 0), (0, .ref (ad 1)), (1, .ref (ad (27 + a0))), (2, .int x2)]) C dX2_follows_68 rfl (by decide) rfl ?_
    exact nw_lv (lv' := [(0, .ref (ad 1)), (1, .ref (ad (27 + a0))), (2, .int x2), (3, .int 0)]) [1, 2, 3, 0] rfl (w_Ground_follows_69 C hr ha0 x2 FU 0 _ _ hφ hφ2 h)
  · refine nw_aload_n C dX2_follows_45 rfl 0 rfl ?_
    refine nw_aload_n C dX2_follows_46 rfl 1 rfl ?_
    refine nw_iload_n C dX2_follows_47 rfl 2 rfl ?_
    refine nw_iconst (v := 2) C dX2_follows_48 (by decide) ?_
    refine nw_isub C dX2_follows_49 ?_
    refine nw_iald C (27 + a0) (cl_I a0 ha0) dX2_follows_50 h (fun h => ?_)
    refine nw_aload_n C dX2_follows_51 rfl 1 rfl ?_
    refine nw_iload_n C dX2_follows_52 rfl 2 rfl ?_
    refine nw_iconst (v := 1) C dX2_follows_53 (by decide) ?_
    refine nw_isub C dX2_follows_54 ?_
    refine nw_iald C (27 + a0) (cl_I a0 ha0) dX2_follows_55 h (fun h => ?_)
    refine nw_aload_n C dX2_follows_56 rfl 1 rfl ?_
    refine nw_iload_n C dX2_follows_57 rfl 2 rfl ?_
    refine nw_iald C (27 + a0) (cl_I a0 ha0) dX2_follows_58 h (fun h => ?_)
    refine nc_callVI (q0 := 1) (As := [.int (rd σ a0 (x2 - 2)), .int (rd σ a0 (x2 - 1)), .int (rd σ a0 x2)]) (rest := []) C h (fun _ _ e => c_Ground_foldsBack e hφ2) tw_959 kv_X2_foldsBack cl_Ground rfl ⟨Nat.le_of_ble_eq_true rfl, Nat.le_of_ble_eq_true rfl⟩ rfl dX2_follows_59 rfl (Nat.le_of_ble_eq_true rfl) hφ hφ2 (fun r59 σ59 ta h hφ hφ2 => ?_)
    refine nw_if_eq (tgt := 67) C dX2_follows_62 (by decide) h (fun _ h => ?_) (fun _ h => ?_)
    · refine nw_iconst (v := 0) C dX2_follows_67 (by decide) ?_
      refine nw_istore_n (lv' := [(3, .int 0), (0, .ref (ad 1)), (1, .ref (ad (27 + a0))), (2, .int x2)]) C dX2_follows_68 rfl (by decide) rfl ?_
      exact nw_lv (lv' := [(0, .ref (ad 1)), (1, .ref (ad (27 + a0))), (2, .int x2), (3, .int 0)]) [1, 2, 3, 0] rfl (w_Ground_follows_69 C hr ha0 x2 FU 0 _ _ hφ hφ2 h)
    · refine nw_iconst (v := 0) C dX2_follows_65 (by decide) ?_
      exact nc_zret C hr (Or.inl rfl) dX2_follows_66 hφ hφ2 h
def f_Ground_follows (a0 : Nat) (p1 : Int32) (σ : CS) : Option (Int32 × CS) := if p1 < 0 then some (0, σ) else if p1 < (nI (lenA a0)) then L_Ground_follows_14 a0 (B_Ground_follows_40 a0) p1 FU 0 σ else some (0, σ)
set_option maxHeartbeats 4000000 in
set_option maxRecDepth 100000 in
theorem c_Ground_follows {l : Launch} {g : EG} {ad ta : Nat → Nat} {Rr : va_W} {σ σ' : CS} {r : Int32} {p1 : Int32} (a0 : Nat) (ha0 : okI a0 = true) (h : f_Ground_follows a0 p1 σ = some (r, σ')) (hφ2 : ph σ.2.2 ≤ BB) : CtI l g yX2_follows (.code yX2_follows cX2_follows 4 (some .boolean)) 3 87 ad ta Rr σ [.ref (ad 1), .ref (ad (27 + a0)), .int p1] r σ' := by
  refine Ct.of rfl (by decide) (Nat.le_of_ble_eq_true rfl) ?_
  intro p e s m args below meth c A C hr
  have hφ : ph σ.2.2 ≤ ph σ.2.2 := Nat.le_refl _
  refine nw_zero (ph σ.2.2) ?_
  show NI g p l e s m args below meth c A 3 87 4 ad Rr (ph σ.2.2) (r, σ') ta σ [(0, .ref (ad 1)), (1, .ref (ad (27 + a0))), (2, .int p1)] 0 []
  unfold f_Ground_follows at h
  refine nw_iload_n C dX2_follows_0 rfl 2 rfl ?_
  refine nw_if_lt (tgt := 10) C dX2_follows_1 (by decide) h (fun _ h => ?_) (fun _ h => ?_)
  · refine nw_iconst (v := 0) C dX2_follows_10 (by decide) ?_
    exact nc_zret C hr (Or.inl rfl) dX2_follows_11 hφ hφ2 h
  · refine nw_iload_n C dX2_follows_4 rfl 2 rfl ?_
    refine nw_aload_n C dX2_follows_5 rfl 1 rfl ?_
    refine nw_alenI C (27 + a0) (cl_I a0 ha0) dX2_follows_6 ?_
    refine nw_icmp_lt (tgt := 12) C dX2_follows_7 (by decide) h (fun _ h => ?_) (fun _ h => ?_)
    · refine nw_iconst (v := 0) C dX2_follows_12 (by decide) ?_
      refine nw_istore_n (lv' := [(3, .int 0), (0, .ref (ad 1)), (1, .ref (ad (27 + a0))), (2, .int p1)]) C dX2_follows_13 rfl (by decide) rfl ?_
      exact nw_lv (lv' := [(0, .ref (ad 1)), (1, .ref (ad (27 + a0))), (2, .int p1), (3, .int 0)]) [1, 2, 3, 0] rfl (w_Ground_follows_14 C hr ha0 p1 (fun x2_ σ_ ta_ hφ_ hφ2_ h_ => w_Ground_follows_40 C hr ha0 x2_ σ_ ta_ hφ_ hφ2_ h_) FU 0 _ _ hφ hφ2 h)
    · refine nw_iconst (v := 0) C dX2_follows_10 (by decide) ?_
      exact nc_zret C hr (Or.inl rfl) dX2_follows_11 hφ hφ2 h
theorem dX2_closes_0 : decode cX2_closes 0 = .ok (.iload_n 2, 1) := by decide +kernel
theorem dX2_closes_1 : decode cX2_closes 1 = .ok (.iconst 3, 1) := by decide +kernel
theorem dX2_closes_2 : decode cX2_closes 2 = .ok (.if_icmp .lt 9, 3) := by decide +kernel
theorem dX2_closes_5 : decode cX2_closes 5 = .ok (.iload_n 2, 1) := by decide +kernel
theorem dX2_closes_6 : decode cX2_closes 6 = .ok (.aload_n 1, 1) := by decide +kernel
theorem dX2_closes_7 : decode cX2_closes 7 = .ok (.arraylength, 1) := by decide +kernel
theorem dX2_closes_8 : decode cX2_closes 8 = .ok (.if_icmp .le 5, 3) := by decide +kernel
theorem dX2_closes_11 : decode cX2_closes 11 = .ok (.iconst 0, 1) := by decide +kernel
theorem dX2_closes_12 : decode cX2_closes 12 = .ok (.ireturn, 1) := by decide +kernel
theorem dX2_closes_13 : decode cX2_closes 13 = .ok (.aload_n 1, 1) := by decide +kernel
theorem dX2_closes_14 : decode cX2_closes 14 = .ok (.iload_n 2, 1) := by decide +kernel
theorem dX2_closes_15 : decode cX2_closes 15 = .ok (.iconst 1, 1) := by decide +kernel
theorem dX2_closes_16 : decode cX2_closes 16 = .ok (.isub, 1) := by decide +kernel
theorem dX2_closes_17 : decode cX2_closes 17 = .ok (.iaload, 1) := by decide +kernel
theorem dX2_closes_18 : decode cX2_closes 18 = .ok (.istore_n 3, 1) := by decide +kernel
theorem dX2_closes_19 : decode cX2_closes 19 = .ok (.aload_n 0, 1) := by decide +kernel
theorem dX2_closes_20 : decode cX2_closes 20 = .ok (.aload_n 1, 1) := by decide +kernel
theorem dX2_closes_21 : decode cX2_closes 21 = .ok (.iload_n 2, 1) := by decide +kernel
theorem dX2_closes_22 : decode cX2_closes 22 = .ok (.iconst 2, 1) := by decide +kernel
theorem dX2_closes_23 : decode cX2_closes 23 = .ok (.isub, 1) := by decide +kernel
theorem dX2_closes_24 : decode cX2_closes 24 = .ok (.iaload, 1) := by decide +kernel
theorem dX2_closes_25 : decode cX2_closes 25 = .ok (.iload_n 3, 1) := by decide +kernel
theorem dX2_closes_26 : decode cX2_closes 26 = .ok (.aload_n 1, 1) := by decide +kernel
theorem dX2_closes_27 : decode cX2_closes 27 = .ok (.iconst 0, 1) := by decide +kernel
theorem dX2_closes_28 : decode cX2_closes 28 = .ok (.iaload, 1) := by decide +kernel
theorem dX2_closes_29 : decode cX2_closes 29 = .ok (.invokevirtual 64, 3) := by decide +kernel
theorem dX2_closes_32 : decode cX2_closes 32 = .ok (.ifCond .ne 17, 3) := by decide +kernel
theorem dX2_closes_35 : decode cX2_closes 35 = .ok (.aload_n 0, 1) := by decide +kernel
theorem dX2_closes_36 : decode cX2_closes 36 = .ok (.iload_n 3, 1) := by decide +kernel
theorem dX2_closes_37 : decode cX2_closes 37 = .ok (.aload_n 1, 1) := by decide +kernel
theorem dX2_closes_38 : decode cX2_closes 38 = .ok (.iconst 0, 1) := by decide +kernel
theorem dX2_closes_39 : decode cX2_closes 39 = .ok (.iaload, 1) := by decide +kernel
theorem dX2_closes_40 : decode cX2_closes 40 = .ok (.aload_n 1, 1) := by decide +kernel
theorem dX2_closes_41 : decode cX2_closes 41 = .ok (.iconst 1, 1) := by decide +kernel
theorem dX2_closes_42 : decode cX2_closes 42 = .ok (.iaload, 1) := by decide +kernel
theorem dX2_closes_43 : decode cX2_closes 43 = .ok (.invokevirtual 64, 3) := by decide +kernel
theorem dX2_closes_46 : decode cX2_closes 46 = .ok (.ifCond .eq 5, 3) := by decide +kernel
theorem dX2_closes_49 : decode cX2_closes 49 = .ok (.iconst 0, 1) := by decide +kernel
theorem dX2_closes_50 : decode cX2_closes 50 = .ok (.ireturn, 1) := by decide +kernel
theorem dX2_closes_51 : decode cX2_closes 51 = .ok (.iconst 1, 1) := by decide +kernel
theorem dX2_closes_52 : decode cX2_closes 52 = .ok (.istore 4, 2) := by decide +kernel
theorem dX2_closes_54 : decode cX2_closes 54 = .ok (.iload 4, 2) := by decide +kernel
theorem dX2_closes_56 : decode cX2_closes 56 = .ok (.iconst 2, 1) := by decide +kernel
theorem dX2_closes_57 : decode cX2_closes 57 = .ok (.iadd, 1) := by decide +kernel
theorem dX2_closes_58 : decode cX2_closes 58 = .ok (.iload_n 2, 1) := by decide +kernel
theorem dX2_closes_59 : decode cX2_closes 59 = .ok (.if_icmp .ge 32, 3) := by decide +kernel
theorem dX2_closes_62 : decode cX2_closes 62 = .ok (.aload_n 0, 1) := by decide +kernel
theorem dX2_closes_63 : decode cX2_closes 63 = .ok (.aload_n 1, 1) := by decide +kernel
theorem dX2_closes_64 : decode cX2_closes 64 = .ok (.iload 4, 2) := by decide +kernel
theorem dX2_closes_66 : decode cX2_closes 66 = .ok (.iaload, 1) := by decide +kernel
theorem dX2_closes_67 : decode cX2_closes 67 = .ok (.aload_n 1, 1) := by decide +kernel
theorem dX2_closes_68 : decode cX2_closes 68 = .ok (.iload 4, 2) := by decide +kernel
theorem dX2_closes_70 : decode cX2_closes 70 = .ok (.iconst 1, 1) := by decide +kernel
theorem dX2_closes_71 : decode cX2_closes 71 = .ok (.iadd, 1) := by decide +kernel
theorem dX2_closes_72 : decode cX2_closes 72 = .ok (.iaload, 1) := by decide +kernel
theorem dX2_closes_73 : decode cX2_closes 73 = .ok (.iload_n 3, 1) := by decide +kernel
theorem dX2_closes_74 : decode cX2_closes 74 = .ok (.aload_n 1, 1) := by decide +kernel
theorem dX2_closes_75 : decode cX2_closes 75 = .ok (.iconst 0, 1) := by decide +kernel
theorem dX2_closes_76 : decode cX2_closes 76 = .ok (.iaload, 1) := by decide +kernel
theorem dX2_closes_77 : decode cX2_closes 77 = .ok (.invokevirtual 68, 3) := by decide +kernel
theorem dX2_closes_80 : decode cX2_closes 80 = .ok (.ifCond .eq 5, 3) := by decide +kernel
theorem dX2_closes_83 : decode cX2_closes 83 = .ok (.iconst 0, 1) := by decide +kernel
theorem dX2_closes_84 : decode cX2_closes 84 = .ok (.ireturn, 1) := by decide +kernel
theorem dX2_closes_85 : decode cX2_closes 85 = .ok (.iinc 4 1, 3) := by decide +kernel
theorem dX2_closes_88 : decode cX2_closes 88 = .ok (.goto (-34), 3) := by decide +kernel
theorem dX2_closes_91 : decode cX2_closes 91 = .ok (.iconst 1, 1) := by decide +kernel
theorem dX2_closes_92 : decode cX2_closes 92 = .ok (.ireturn, 1) := by decide +kernel
def L_Ground_closes_54 (a0 : Nat)  (x2 : Int32) (x3 : Int32) : Nat → Int32 → CS → Option (Int32 × CS)
  | 0, _, _ => none
  | n + 1, x4, σ => if x2 ≤ (x4 + 2) then some (1, σ) else gix x4 (lenA a0) (gix (x4 + 1) (lenA a0) (gix 0 (lenA a0) (bnd (f_Ground_touch (rd σ a0 x4) (rd σ a0 (x4 + 1)) x3 (rd σ a0 0) σ) (fun r77 σ77 => if r77 = 0 then (L_Ground_closes_54 a0 x2 x3 n) (x4 + 1) σ77 else some (0, σ77)))))
set_option maxHeartbeats 4000000 in
set_option maxRecDepth 100000 in
theorem w_Ground_closes_54 (C : Cx g p s m args meth c A 5 cX2_closes yX2_closes.cls) (hr : meth.sig.returnType = (some .boolean)) {a0 : Nat} (ha0 : okI a0 = true) {res : Int32 × CS}  (x2 : Int32) (x3 : Int32)  : ∀ (n : Nat) (x4 : Int32) (σ : CS) (ta : Nat → Nat), φ0 ≤ ph σ.2.2 → ph σ.2.2 ≤ BB → L_Ground_closes_54 a0 x2 x3 n x4 σ = some res → NI g p l e s m args below meth c A 3 87 5 ad Rr φ0 res ta σ [(0, .ref (ad 1)), (1, .ref (ad (27 + a0))), (2, .int x2), (3, .int x3), (4, .int x4)] 54 [] := by
  intro n
  induction n with
  | zero =>
    intro x4 σ ta hφ hφ2 h
    exact absurd (show (none : Option (Int32 × CS)) = some res from h) (by intro h9; cases h9)
  | succ n ih =>
    intro x4 σ ta hφ hφ2 h
    rw [L_Ground_closes_54] at h
    refine nw_iload C dX2_closes_54 4 rfl ?_
    refine nw_iconst (v := 2) C dX2_closes_56 (by decide) ?_
    refine nw_iadd C dX2_closes_57 ?_
    refine nw_iload_n C dX2_closes_58 rfl 2 rfl ?_
    refine nw_icmp_ge (tgt := 91) C dX2_closes_59 (by decide) h (fun _ h => ?_) (fun _ h => ?_)
    · refine nw_iconst (v := 1) C dX2_closes_91 (by decide) ?_
      exact nc_zret C hr (Or.inr rfl) dX2_closes_92 hφ hφ2 h
    · refine nw_aload_n C dX2_closes_62 rfl 0 rfl ?_
      refine nw_aload_n C dX2_closes_63 rfl 1 rfl ?_
      refine nw_iload C dX2_closes_64 4 rfl ?_
      refine nw_iald C (27 + a0) (cl_I a0 ha0) dX2_closes_66 h (fun h => ?_)
      refine nw_aload_n C dX2_closes_67 rfl 1 rfl ?_
      refine nw_iload C dX2_closes_68 4 rfl ?_
      refine nw_iconst (v := 1) C dX2_closes_70 (by decide) ?_
      refine nw_iadd C dX2_closes_71 ?_
      refine nw_iald C (27 + a0) (cl_I a0 ha0) dX2_closes_72 h (fun h => ?_)
      refine nw_iload_n C dX2_closes_73 rfl 3 rfl ?_
      refine nw_aload_n C dX2_closes_74 rfl 1 rfl ?_
      refine nw_iconst (v := 0) C dX2_closes_75 (by decide) ?_
      refine nw_iald C (27 + a0) (cl_I a0 ha0) dX2_closes_76 h (fun h => ?_)
      refine nc_callVI (q0 := 1) (As := [.int (rd σ a0 x4), .int (rd σ a0 (x4 + 1)), .int x3, .int (rd σ a0 0)]) (rest := []) C h (fun _ _ e => c_Ground_touch e hφ2) tw_967 kv_X2_touch cl_Ground rfl ⟨Nat.le_of_ble_eq_true rfl, Nat.le_of_ble_eq_true rfl⟩ rfl dX2_closes_77 rfl (Nat.le_of_ble_eq_true rfl) hφ hφ2 (fun r77 σ77 ta h hφ hφ2 => ?_)
      refine nw_if_eq (tgt := 85) C dX2_closes_80 (by decide) h (fun _ h => ?_) (fun _ h => ?_)
      · refine nw_iinc (lv' := [(4, .int (x4 + 1)), (0, .ref (ad 1)), (1, .ref (ad (27 + a0))), (2, .int x2), (3, .int x3)]) C (x4 + 1) dX2_closes_85 4 rfl rfl (by decide) rfl ?_
        refine nw_goto (tgt := 54) C dX2_closes_88 (by decide) ?_
        exact nw_lv (lv' := [(0, .ref (ad 1)), (1, .ref (ad (27 + a0))), (2, .int x2), (3, .int x3), (4, .int (x4 + 1))]) [1, 2, 3, 4, 0] rfl (ih (x4 + 1) _ _ hφ hφ2 h)
      · refine nw_iconst (v := 0) C dX2_closes_83 (by decide) ?_
        exact nc_zret C hr (Or.inl rfl) dX2_closes_84 hφ hφ2 h
def f_Ground_closes (a0 : Nat) (p1 : Int32) (σ : CS) : Option (Int32 × CS) := if p1 < 3 then some (0, σ) else if p1 ≤ (nI (lenA a0)) then gix (p1 - 1) (lenA a0) (gix (p1 - 2) (lenA a0) (gix 0 (lenA a0) (bnd (f_Ground_foldsBack (rd σ a0 (p1 - 2)) (rd σ a0 (p1 - 1)) (rd σ a0 0) σ) (fun r29 σ29 => if r29 = 0 then gix 0 (lenA a0) (gix 1 (lenA a0) (bnd (f_Ground_foldsBack (rd σ a0 (p1 - 1)) (rd σ29 a0 0) (rd σ29 a0 1) σ29) (fun r43 σ43 => if r43 = 0 then L_Ground_closes_54 a0 p1 (rd σ a0 (p1 - 1)) FU 1 σ43 else some (0, σ43)))) else some (0, σ29))))) else some (0, σ)
set_option maxHeartbeats 4000000 in
set_option maxRecDepth 100000 in
theorem c_Ground_closes {l : Launch} {g : EG} {ad ta : Nat → Nat} {Rr : va_W} {σ σ' : CS} {r : Int32} {p1 : Int32} (a0 : Nat) (ha0 : okI a0 = true) (h : f_Ground_closes a0 p1 σ = some (r, σ')) (hφ2 : ph σ.2.2 ≤ BB) : CtI l g yX2_closes (.code yX2_closes cX2_closes 5 (some .boolean)) 3 87 ad ta Rr σ [.ref (ad 1), .ref (ad (27 + a0)), .int p1] r σ' := by
  refine Ct.of rfl (by decide) (Nat.le_of_ble_eq_true rfl) ?_
  intro p e s m args below meth c A C hr
  have hφ : ph σ.2.2 ≤ ph σ.2.2 := Nat.le_refl _
  refine nw_zero (ph σ.2.2) ?_
  show NI g p l e s m args below meth c A 3 87 5 ad Rr (ph σ.2.2) (r, σ') ta σ [(0, .ref (ad 1)), (1, .ref (ad (27 + a0))), (2, .int p1)] 0 []
  unfold f_Ground_closes at h
  refine nw_iload_n C dX2_closes_0 rfl 2 rfl ?_
  refine nw_iconst (v := 3) C dX2_closes_1 (by decide) ?_
  refine nw_icmp_lt (tgt := 11) C dX2_closes_2 (by decide) h (fun _ h => ?_) (fun _ h => ?_)
  · refine nw_iconst (v := 0) C dX2_closes_11 (by decide) ?_
    exact nc_zret C hr (Or.inl rfl) dX2_closes_12 hφ hφ2 h
  · refine nw_iload_n C dX2_closes_5 rfl 2 rfl ?_
    refine nw_aload_n C dX2_closes_6 rfl 1 rfl ?_
    refine nw_alenI C (27 + a0) (cl_I a0 ha0) dX2_closes_7 ?_
    refine nw_icmp_le (tgt := 13) C dX2_closes_8 (by decide) h (fun _ h => ?_) (fun _ h => ?_)
    · refine nw_aload_n C dX2_closes_13 rfl 1 rfl ?_
      refine nw_iload_n C dX2_closes_14 rfl 2 rfl ?_
      refine nw_iconst (v := 1) C dX2_closes_15 (by decide) ?_
      refine nw_isub C dX2_closes_16 ?_
      refine nw_iald C (27 + a0) (cl_I a0 ha0) dX2_closes_17 h (fun h => ?_)
      refine nw_istore_n (lv' := [(3, .int (rd σ a0 (p1 - 1))), (0, .ref (ad 1)), (1, .ref (ad (27 + a0))), (2, .int p1)]) C dX2_closes_18 rfl (by decide) rfl ?_
      refine nw_aload_n C dX2_closes_19 rfl 1 rfl ?_
      refine nw_aload_n C dX2_closes_20 rfl 2 rfl ?_
      refine nw_iload_n C dX2_closes_21 rfl 3 rfl ?_
      refine nw_iconst (v := 2) C dX2_closes_22 (by decide) ?_
      refine nw_isub C dX2_closes_23 ?_
      refine nw_iald C (27 + a0) (cl_I a0 ha0) dX2_closes_24 h (fun h => ?_)
      refine nw_iload_n C dX2_closes_25 rfl 0 rfl ?_
      refine nw_aload_n C dX2_closes_26 rfl 2 rfl ?_
      refine nw_iconst (v := 0) C dX2_closes_27 (by decide) ?_
      refine nw_iald C (27 + a0) (cl_I a0 ha0) dX2_closes_28 h (fun h => ?_)
      refine nc_callVI (q0 := 1) (As := [.int (rd σ a0 (p1 - 2)), .int (rd σ a0 (p1 - 1)), .int (rd σ a0 0)]) (rest := []) C h (fun _ _ e => c_Ground_foldsBack e hφ2) tw_959 kv_X2_foldsBack cl_Ground rfl ⟨Nat.le_of_ble_eq_true rfl, Nat.le_of_ble_eq_true rfl⟩ rfl dX2_closes_29 rfl (Nat.le_of_ble_eq_true rfl) hφ hφ2 (fun r29 σ29 ta h hφ hφ2 => ?_)
      refine nw_if_ne (tgt := 49) C dX2_closes_32 (by decide) h (fun _ h => ?_) (fun _ h => ?_)
      · refine nw_aload_n C dX2_closes_35 rfl 1 rfl ?_
        refine nw_iload_n C dX2_closes_36 rfl 0 rfl ?_
        refine nw_aload_n C dX2_closes_37 rfl 2 rfl ?_
        refine nw_iconst (v := 0) C dX2_closes_38 (by decide) ?_
        refine nw_iald C (27 + a0) (cl_I a0 ha0) dX2_closes_39 h (fun h => ?_)
        refine nw_aload_n C dX2_closes_40 rfl 2 rfl ?_
        refine nw_iconst (v := 1) C dX2_closes_41 (by decide) ?_
        refine nw_iald C (27 + a0) (cl_I a0 ha0) dX2_closes_42 h (fun h => ?_)
        refine nc_callVI (q0 := 1) (As := [.int (rd σ a0 (p1 - 1)), .int (rd σ29 a0 0), .int (rd σ29 a0 1)]) (rest := []) C h (fun _ _ e => c_Ground_foldsBack e hφ2) tw_959 kv_X2_foldsBack cl_Ground rfl ⟨Nat.le_of_ble_eq_true rfl, Nat.le_of_ble_eq_true rfl⟩ rfl dX2_closes_43 rfl (Nat.le_of_ble_eq_true rfl) hφ hφ2 (fun r43 σ43 ta h hφ hφ2 => ?_)
        refine nw_if_eq (tgt := 51) C dX2_closes_46 (by decide) h (fun _ h => ?_) (fun _ h => ?_)
        · refine nw_iconst (v := 1) C dX2_closes_51 (by decide) ?_
          refine nw_istore (lv' := [(4, .int 1), (3, .int (rd σ a0 (p1 - 1))), (0, .ref (ad 1)), (1, .ref (ad (27 + a0))), (2, .int p1)]) C dX2_closes_52 (by decide) rfl ?_
          exact nw_lv (lv' := [(0, .ref (ad 1)), (1, .ref (ad (27 + a0))), (2, .int p1), (3, .int (rd σ a0 (p1 - 1))), (4, .int 1)]) [2, 3, 4, 1, 0] rfl (w_Ground_closes_54 C hr ha0 p1 (rd σ a0 (p1 - 1)) FU 1 _ _ hφ hφ2 h)
        · refine nw_iconst (v := 0) C dX2_closes_49 (by decide) ?_
          exact nc_zret C hr (Or.inl rfl) dX2_closes_50 hφ hφ2 h
      · refine nw_iconst (v := 0) C dX2_closes_49 (by decide) ?_
        exact nc_zret C hr (Or.inl rfl) dX2_closes_50 hφ hφ2 h
    · refine nw_iconst (v := 0) C dX2_closes_11 (by decide) ?_
      exact nc_zret C hr (Or.inl rfl) dX2_closes_12 hφ hφ2 h
theorem dX2_isSimple_0 : decode cX2_isSimple 0 = .ok (.iconst 0, 1) := by decide +kernel
theorem dX2_isSimple_1 : decode cX2_isSimple 1 = .ok (.istore_n 2, 1) := by decide +kernel
theorem dX2_isSimple_2 : decode cX2_isSimple 2 = .ok (.iload_n 2, 1) := by decide +kernel
theorem dX2_isSimple_3 : decode cX2_isSimple 3 = .ok (.iload_n 1, 1) := by decide +kernel
theorem dX2_isSimple_4 : decode cX2_isSimple 4 = .ok (.if_icmp .ge 23, 3) := by decide +kernel
theorem dX2_isSimple_7 : decode cX2_isSimple 7 = .ok (.aload_n 0, 1) := by decide +kernel
theorem dX2_isSimple_8 : decode cX2_isSimple 8 = .ok (.aload_n 0, 1) := by decide +kernel
theorem dX2_isSimple_9 : decode cX2_isSimple 9 = .ok (.getfield 23, 3) := by decide +kernel
theorem dX2_isSimple_12 : decode cX2_isSimple 12 = .ok (.iload_n 2, 1) := by decide +kernel
theorem dX2_isSimple_13 : decode cX2_isSimple 13 = .ok (.invokevirtual 53, 3) := by decide +kernel
theorem dX2_isSimple_16 : decode cX2_isSimple 16 = .ok (.ifCond .ne 5, 3) := by decide +kernel
theorem dX2_isSimple_19 : decode cX2_isSimple 19 = .ok (.iconst 0, 1) := by decide +kernel
theorem dX2_isSimple_20 : decode cX2_isSimple 20 = .ok (.ireturn, 1) := by decide +kernel
theorem dX2_isSimple_21 : decode cX2_isSimple 21 = .ok (.iinc 2 1, 3) := by decide +kernel
theorem dX2_isSimple_24 : decode cX2_isSimple 24 = .ok (.goto (-22), 3) := by decide +kernel
theorem dX2_isSimple_27 : decode cX2_isSimple 27 = .ok (.aload_n 0, 1) := by decide +kernel
theorem dX2_isSimple_28 : decode cX2_isSimple 28 = .ok (.aload_n 0, 1) := by decide +kernel
theorem dX2_isSimple_29 : decode cX2_isSimple 29 = .ok (.getfield 23, 3) := by decide +kernel
theorem dX2_isSimple_32 : decode cX2_isSimple 32 = .ok (.iload_n 1, 1) := by decide +kernel
theorem dX2_isSimple_33 : decode cX2_isSimple 33 = .ok (.invokevirtual 57, 3) := by decide +kernel
theorem dX2_isSimple_36 : decode cX2_isSimple 36 = .ok (.ireturn, 1) := by decide +kernel
def L_Ground_isSimple_2 (k27 : Int32 → CS → Option (Int32 × CS)) (x1 : Int32) : Nat → Int32 → CS → Option (Int32 × CS)
  | 0, _, _ => none
  | n + 1, x2, σ => if x1 ≤ x2 then k27 x1 σ else bnd (f_Ground_follows 16 x2 σ) (fun r13 σ13 => if r13 = 0 then some (0, σ13) else (L_Ground_isSimple_2 k27 x1 n) (x2 + 1) σ13)
set_option maxHeartbeats 4000000 in
set_option maxRecDepth 100000 in
theorem w_Ground_isSimple_2 (C : Cx g p s m args meth c A 3 cX2_isSimple yX2_isSimple.cls) (hr : meth.sig.returnType = (some .boolean))  {res : Int32 × CS}  (x1 : Int32) {k27 : Int32 → CS → Option (Int32 × CS)} (hk27 : ∀ (x1 : Int32) (σ : CS) (ta : Nat → Nat), φ0 ≤ ph σ.2.2 → ph σ.2.2 ≤ BB → k27 x1 σ = some res → NI g p l e s m args below meth c A 4 111 3 ad Rr φ0 res ta σ [(0, .ref (ad 1)), (1, .int x1)] 27 []) : ∀ (n : Nat) (x2 : Int32) (σ : CS) (ta : Nat → Nat), φ0 ≤ ph σ.2.2 → ph σ.2.2 ≤ BB → L_Ground_isSimple_2 k27 x1 n x2 σ = some res → NI g p l e s m args below meth c A 4 111 3 ad Rr φ0 res ta σ [(0, .ref (ad 1)), (1, .int x1), (2, .int x2)] 2 [] := by
  intro n
  induction n with
  | zero =>
    intro x2 σ ta hφ hφ2 h
    exact absurd (show (none : Option (Int32 × CS)) = some res from h) (by intro h9; cases h9)
  | succ n ih =>
    intro x2 σ ta hφ hφ2 h
    rw [L_Ground_isSimple_2] at h
    refine nw_iload_n C dX2_isSimple_2 rfl 2 rfl ?_
    refine nw_iload_n C dX2_isSimple_3 rfl 1 rfl ?_
    refine nw_icmp_ge (tgt := 27) C dX2_isSimple_4 (by decide) h (fun _ h => ?_) (fun _ h => ?_)
    · exact nw_lv (lv' := [(0, .ref (ad 1)), (1, .int x1)]) [0, 1] rfl (hk27 x1 _ _ hφ hφ2 h)
    · refine nw_aload_n C dX2_isSimple_7 rfl 0 rfl ?_
      refine nw_aload_n C dX2_isSimple_8 rfl 0 rfl ?_
      refine nw_get (v := .ref (ad 43)) C in_X2 1 cl_Ground rfl 2 (by decide) tw_194 rfl rfl dX2_isSimple_9 ?_
      refine nw_iload_n C dX2_isSimple_12 rfl 2 rfl ?_
      refine nc_callVI (q0 := 1) (As := [.ref (ad 43), .int x2]) (rest := []) C h (fun _ _ e => c_Ground_follows 16 rfl e hφ2) tw_951 kv_X2_follows cl_Ground rfl ⟨Nat.le_of_ble_eq_true rfl, Nat.le_of_ble_eq_true rfl⟩ rfl dX2_isSimple_13 rfl (Nat.le_of_ble_eq_true rfl) hφ hφ2 (fun r13 σ13 ta h hφ hφ2 => ?_)
      refine nw_if_ne (tgt := 21) C dX2_isSimple_16 (by decide) h (fun _ h => ?_) (fun _ h => ?_)
      · refine nw_iconst (v := 0) C dX2_isSimple_19 (by decide) ?_
        exact nc_zret C hr (Or.inl rfl) dX2_isSimple_20 hφ hφ2 h
      · refine nw_iinc (lv' := [(2, .int (x2 + 1)), (0, .ref (ad 1)), (1, .int x1)]) C (x2 + 1) dX2_isSimple_21 2 rfl rfl (by decide) rfl ?_
        refine nw_goto (tgt := 2) C dX2_isSimple_24 (by decide) ?_
        exact nw_lv (lv' := [(0, .ref (ad 1)), (1, .int x1), (2, .int (x2 + 1))]) [1, 2, 0] rfl (ih (x2 + 1) _ _ hφ hφ2 h)
def B_Ground_isSimple_27   (x1 : Int32) (σ : CS) : Option (Int32 × CS) := bnd (f_Ground_closes 16 x1 σ) (fun r33 σ33 => grd (r33 = 0 ∨ r33 = 1) (some (r33, σ33)))
set_option maxHeartbeats 4000000 in
set_option maxRecDepth 100000 in
theorem w_Ground_isSimple_27 (C : Cx g p s m args meth c A 3 cX2_isSimple yX2_isSimple.cls) (hr : meth.sig.returnType = (some .boolean))  {res : Int32 × CS}   (x1 : Int32)  (σ : CS) (ta : Nat → Nat) (hφ : φ0 ≤ ph σ.2.2) (hφ2 : ph σ.2.2 ≤ BB) (h : B_Ground_isSimple_27 x1 σ = some res) : NI g p l e s m args below meth c A 4 111 3 ad Rr φ0 res ta σ [(0, .ref (ad 1)), (1, .int x1)] 27 [] := by
  unfold B_Ground_isSimple_27 at h
  refine nw_aload_n C dX2_isSimple_27 rfl 0 rfl ?_
  refine nw_aload_n C dX2_isSimple_28 rfl 0 rfl ?_
  refine nw_get (v := .ref (ad 43)) C in_X2 1 cl_Ground rfl 2 (by decide) tw_194 rfl rfl dX2_isSimple_29 ?_
  refine nw_iload_n C dX2_isSimple_32 rfl 1 rfl ?_
  refine nc_callVI (q0 := 1) (As := [.ref (ad 43), .int x1]) (rest := []) C h (fun _ _ e => c_Ground_closes 16 rfl e hφ2) tw_976 kv_X2_closes cl_Ground rfl ⟨Nat.le_of_ble_eq_true rfl, Nat.le_of_ble_eq_true rfl⟩ rfl dX2_isSimple_33 rfl (Nat.le_of_ble_eq_true rfl) hφ hφ2 (fun r33 σ33 ta h hφ hφ2 => ?_)
  exact nc_zretg C hr dX2_isSimple_36 hφ hφ2 h
def f_Ground_isSimple (p0 : Int32) (σ : CS) : Option (Int32 × CS) := L_Ground_isSimple_2 (B_Ground_isSimple_27) p0 FU 0 σ
set_option maxHeartbeats 4000000 in
set_option maxRecDepth 100000 in
theorem c_Ground_isSimple {l : Launch} {g : EG} {ad ta : Nat → Nat} {Rr : va_W} {σ σ' : CS} {r : Int32} {p0 : Int32}  (h : f_Ground_isSimple p0 σ = some (r, σ')) (hφ2 : ph σ.2.2 ≤ BB) : CtI l g yX2_isSimple (.code yX2_isSimple cX2_isSimple 3 (some .boolean)) 4 111 ad ta Rr σ [.ref (ad 1), .int p0] r σ' := by
  refine Ct.of rfl (by decide) (Nat.le_of_ble_eq_true rfl) ?_
  intro p e s m args below meth c A C hr
  have hφ : ph σ.2.2 ≤ ph σ.2.2 := Nat.le_refl _
  refine nw_zero (ph σ.2.2) ?_
  show NI g p l e s m args below meth c A 4 111 3 ad Rr (ph σ.2.2) (r, σ') ta σ [(0, .ref (ad 1)), (1, .int p0)] 0 []
  unfold f_Ground_isSimple at h
  refine nw_iconst (v := 0) C dX2_isSimple_0 (by decide) ?_
  refine nw_istore_n (lv' := [(2, .int 0), (0, .ref (ad 1)), (1, .int p0)]) C dX2_isSimple_1 rfl (by decide) rfl ?_
  exact nw_lv (lv' := [(0, .ref (ad 1)), (1, .int p0), (2, .int 0)]) [1, 2, 0] rfl (w_Ground_isSimple_2 C hr p0 (fun x1_ σ_ ta_ hφ_ hφ2_ h_ => w_Ground_isSimple_27 C hr x1_ σ_ ta_ hφ_ hφ2_ h_) FU 0 _ _ hφ hφ2 h)
theorem dX2_addRing_0 : decode cX2_addRing 0 = .ok (.aload_n 2, 1) := by decide +kernel
theorem dX2_addRing_1 : decode cX2_addRing 1 = .ok (.invokevirtual 27, 3) := by decide +kernel
theorem dX2_addRing_4 : decode cX2_addRing 4 = .ok (.istore_n 3, 1) := by decide +kernel
theorem dX2_addRing_5 : decode cX2_addRing 5 = .ok (.aload_n 0, 1) := by decide +kernel
theorem dX2_addRing_6 : decode cX2_addRing 6 = .ok (.getfield 20, 3) := by decide +kernel
theorem dX2_addRing_9 : decode cX2_addRing 9 = .ok (.invokevirtual 42, 3) := by decide +kernel
theorem dX2_addRing_12 : decode cX2_addRing 12 = .ok (.ifCond .eq 5, 3) := by decide +kernel
theorem dX2_addRing_15 : decode cX2_addRing 15 = .ok (.iconst (-1), 1) := by decide +kernel
theorem dX2_addRing_16 : decode cX2_addRing 16 = .ok (.ireturn, 1) := by decide +kernel
theorem dX2_addRing_17 : decode cX2_addRing 17 = .ok (.iload_n 3, 1) := by decide +kernel
theorem dX2_addRing_18 : decode cX2_addRing 18 = .ok (.iconst 3, 1) := by decide +kernel
theorem dX2_addRing_19 : decode cX2_addRing 19 = .ok (.if_icmp .lt 9, 3) := by decide +kernel
theorem dX2_addRing_22 : decode cX2_addRing 22 = .ok (.iload_n 3, 1) := by decide +kernel
theorem dX2_addRing_23 : decode cX2_addRing 23 = .ok (.bipush 10, 2) := by decide +kernel
theorem dX2_addRing_25 : decode cX2_addRing 25 = .ok (.if_icmp .le 6, 3) := by decide +kernel
theorem dX2_addRing_28 : decode cX2_addRing 28 = .ok (.bipush (-2), 2) := by decide +kernel
theorem dX2_addRing_30 : decode cX2_addRing 30 = .ok (.ireturn, 1) := by decide +kernel
theorem dX2_addRing_31 : decode cX2_addRing 31 = .ok (.iconst 0, 1) := by decide +kernel
theorem dX2_addRing_32 : decode cX2_addRing 32 = .ok (.istore 4, 2) := by decide +kernel
theorem dX2_addRing_34 : decode cX2_addRing 34 = .ok (.iload 4, 2) := by decide +kernel
theorem dX2_addRing_36 : decode cX2_addRing 36 = .ok (.iload_n 3, 1) := by decide +kernel
theorem dX2_addRing_37 : decode cX2_addRing 37 = .ok (.if_icmp .ge 53, 3) := by decide +kernel
theorem dX2_addRing_40 : decode cX2_addRing 40 = .ok (.iload 4, 2) := by decide +kernel
theorem dX2_addRing_42 : decode cX2_addRing 42 = .ok (.aload_n 0, 1) := by decide +kernel
theorem dX2_addRing_43 : decode cX2_addRing 43 = .ok (.getfield 23, 3) := by decide +kernel
theorem dX2_addRing_46 : decode cX2_addRing 46 = .ok (.arraylength, 1) := by decide +kernel
theorem dX2_addRing_47 : decode cX2_addRing 47 = .ok (.if_icmp .ge 43, 3) := by decide +kernel
theorem dX2_addRing_50 : decode cX2_addRing 50 = .ok (.aload_n 0, 1) := by decide +kernel
theorem dX2_addRing_51 : decode cX2_addRing 51 = .ok (.getfield 23, 3) := by decide +kernel
theorem dX2_addRing_54 : decode cX2_addRing 54 = .ok (.iload 4, 2) := by decide +kernel
theorem dX2_addRing_56 : decode cX2_addRing 56 = .ok (.aload_n 2, 1) := by decide +kernel
theorem dX2_addRing_57 : decode cX2_addRing 57 = .ok (.iload 4, 2) := by decide +kernel
theorem dX2_addRing_59 : decode cX2_addRing 59 = .ok (.iconst 0, 1) := by decide +kernel
theorem dX2_addRing_60 : decode cX2_addRing 60 = .ok (.invokevirtual 31, 3) := by decide +kernel
theorem dX2_addRing_63 : decode cX2_addRing 63 = .ok (.iastore, 1) := by decide +kernel
theorem dX2_addRing_64 : decode cX2_addRing 64 = .ok (.aload_n 0, 1) := by decide +kernel
theorem dX2_addRing_65 : decode cX2_addRing 65 = .ok (.getfield 16, 3) := by decide +kernel
theorem dX2_addRing_68 : decode cX2_addRing 68 = .ok (.aload_n 0, 1) := by decide +kernel
theorem dX2_addRing_69 : decode cX2_addRing 69 = .ok (.getfield 23, 3) := by decide +kernel
theorem dX2_addRing_72 : decode cX2_addRing 72 = .ok (.iload 4, 2) := by decide +kernel
theorem dX2_addRing_74 : decode cX2_addRing 74 = .ok (.iaload, 1) := by decide +kernel
theorem dX2_addRing_75 : decode cX2_addRing 75 = .ok (.invokevirtual 46, 3) := by decide +kernel
theorem dX2_addRing_78 : decode cX2_addRing 78 = .ok (.ifCond .ne 6, 3) := by decide +kernel
theorem dX2_addRing_81 : decode cX2_addRing 81 = .ok (.bipush (-3), 2) := by decide +kernel
theorem dX2_addRing_83 : decode cX2_addRing 83 = .ok (.ireturn, 1) := by decide +kernel
theorem dX2_addRing_84 : decode cX2_addRing 84 = .ok (.iinc 4 1, 3) := by decide +kernel
theorem dX2_addRing_87 : decode cX2_addRing 87 = .ok (.goto (-53), 3) := by decide +kernel
theorem dX2_addRing_90 : decode cX2_addRing 90 = .ok (.aload_n 0, 1) := by decide +kernel
theorem dX2_addRing_91 : decode cX2_addRing 91 = .ok (.iload_n 3, 1) := by decide +kernel
theorem dX2_addRing_92 : decode cX2_addRing 92 = .ok (.invokevirtual 50, 3) := by decide +kernel
theorem dX2_addRing_95 : decode cX2_addRing 95 = .ok (.ifCond .ne 6, 3) := by decide +kernel
theorem dX2_addRing_98 : decode cX2_addRing 98 = .ok (.bipush (-4), 2) := by decide +kernel
theorem dX2_addRing_100 : decode cX2_addRing 100 = .ok (.ireturn, 1) := by decide +kernel
theorem dX2_addRing_101 : decode cX2_addRing 101 = .ok (.aload_n 0, 1) := by decide +kernel
theorem dX2_addRing_102 : decode cX2_addRing 102 = .ok (.getfield 20, 3) := by decide +kernel
theorem dX2_addRing_105 : decode cX2_addRing 105 = .ok (.invokevirtual 35, 3) := by decide +kernel
theorem dX2_addRing_108 : decode cX2_addRing 108 = .ok (.istore 4, 2) := by decide +kernel
theorem dX2_addRing_110 : decode cX2_addRing 110 = .ok (.aload_n 0, 1) := by decide +kernel
theorem dX2_addRing_111 : decode cX2_addRing 111 = .ok (.getfield 20, 3) := by decide +kernel
theorem dX2_addRing_114 : decode cX2_addRing 114 = .ok (.iload 4, 2) := by decide +kernel
theorem dX2_addRing_116 : decode cX2_addRing 116 = .ok (.iconst 0, 1) := by decide +kernel
theorem dX2_addRing_117 : decode cX2_addRing 117 = .ok (.iload_n 1, 1) := by decide +kernel
theorem dX2_addRing_118 : decode cX2_addRing 118 = .ok (.invokevirtual 38, 3) := by decide +kernel
theorem dX2_addRing_121 : decode cX2_addRing 121 = .ok (.aload_n 0, 1) := by decide +kernel
theorem dX2_addRing_122 : decode cX2_addRing 122 = .ok (.getfield 20, 3) := by decide +kernel
theorem dX2_addRing_125 : decode cX2_addRing 125 = .ok (.iload 4, 2) := by decide +kernel
theorem dX2_addRing_127 : decode cX2_addRing 127 = .ok (.iconst 2, 1) := by decide +kernel
theorem dX2_addRing_128 : decode cX2_addRing 128 = .ok (.iload_n 3, 1) := by decide +kernel
theorem dX2_addRing_129 : decode cX2_addRing 129 = .ok (.invokevirtual 38, 3) := by decide +kernel
theorem dX2_addRing_132 : decode cX2_addRing 132 = .ok (.iconst 0, 1) := by decide +kernel
theorem dX2_addRing_133 : decode cX2_addRing 133 = .ok (.istore 5, 2) := by decide +kernel
theorem dX2_addRing_135 : decode cX2_addRing 135 = .ok (.iload 5, 2) := by decide +kernel
theorem dX2_addRing_137 : decode cX2_addRing 137 = .ok (.iload_n 3, 1) := by decide +kernel
theorem dX2_addRing_138 : decode cX2_addRing 138 = .ok (.if_icmp .ge 39, 3) := by decide +kernel
theorem dX2_addRing_141 : decode cX2_addRing 141 = .ok (.iload 5, 2) := by decide +kernel
theorem dX2_addRing_143 : decode cX2_addRing 143 = .ok (.aload_n 0, 1) := by decide +kernel
theorem dX2_addRing_144 : decode cX2_addRing 144 = .ok (.getfield 23, 3) := by decide +kernel
theorem dX2_addRing_147 : decode cX2_addRing 147 = .ok (.arraylength, 1) := by decide +kernel
theorem dX2_addRing_148 : decode cX2_addRing 148 = .ok (.if_icmp .ge 29, 3) := by decide +kernel
theorem dX2_addRing_151 : decode cX2_addRing 151 = .ok (.aload_n 0, 1) := by decide +kernel
theorem dX2_addRing_152 : decode cX2_addRing 152 = .ok (.getfield 20, 3) := by decide +kernel
theorem dX2_addRing_155 : decode cX2_addRing 155 = .ok (.iload 4, 2) := by decide +kernel
theorem dX2_addRing_157 : decode cX2_addRing 157 = .ok (.iconst 3, 1) := by decide +kernel
theorem dX2_addRing_158 : decode cX2_addRing 158 = .ok (.iload 5, 2) := by decide +kernel
theorem dX2_addRing_160 : decode cX2_addRing 160 = .ok (.iadd, 1) := by decide +kernel
theorem dX2_addRing_161 : decode cX2_addRing 161 = .ok (.aload_n 0, 1) := by decide +kernel
theorem dX2_addRing_162 : decode cX2_addRing 162 = .ok (.getfield 23, 3) := by decide +kernel
theorem dX2_addRing_165 : decode cX2_addRing 165 = .ok (.iload 5, 2) := by decide +kernel
theorem dX2_addRing_167 : decode cX2_addRing 167 = .ok (.iaload, 1) := by decide +kernel
theorem dX2_addRing_168 : decode cX2_addRing 168 = .ok (.invokevirtual 38, 3) := by decide +kernel
theorem dX2_addRing_171 : decode cX2_addRing 171 = .ok (.iinc 5 1, 3) := by decide +kernel
theorem dX2_addRing_174 : decode cX2_addRing 174 = .ok (.goto (-39), 3) := by decide +kernel
theorem dX2_addRing_177 : decode cX2_addRing 177 = .ok (.iload 4, 2) := by decide +kernel
theorem dX2_addRing_179 : decode cX2_addRing 179 = .ok (.ireturn, 1) := by decide +kernel
def L_Ground_addRing_34 (k90 : Int32 → Int32 → CS → Option (Int32 × CS)) (x1 : Int32) (x3 : Int32) : Nat → Int32 → CS → Option (Int32 × CS)
  | 0, _, _ => none
  | n + 1, x4, σ => if x3 ≤ x4 then k90 x1 x3 σ else if 10 ≤ x4 then k90 x1 x3 σ else bnd (f_Table_get 0 x4 0 σ) (fun r60 σ60 => gix x4 10 (gix x4 10 (bnd (f_Table_has 1 (rd (wr σ60 16 x4 r60) 16 x4) (wr σ60 16 x4 r60)) (fun r75 σ75 => if r75 = 0 then some ((-3), σ75) else (L_Ground_addRing_34 k90 x1 x3 n) (x4 + 1) σ75))))
set_option maxHeartbeats 4000000 in
set_option maxRecDepth 100000 in
theorem w_Ground_addRing_34 (C : Cx g p s m args meth c A 6 cX2_addRing yX2_addRing.cls) (hr : meth.sig.returnType = (some .int))  {res : Int32 × CS}  (x1 : Int32) (x3 : Int32) {k90 : Int32 → Int32 → CS → Option (Int32 × CS)} (hk90 : ∀ (x1 : Int32) (x3 : Int32) (σ : CS) (ta : Nat → Nat), φ0 ≤ ph σ.2.2 → ph σ.2.2 ≤ BB → k90 x1 x3 σ = some res → NI g p l e s m args below meth c A 5 222 6 ad Rr φ0 res ta σ [(0, .ref (ad 1)), (1, .int x1), (3, .int x3)] 90 []) : ∀ (n : Nat) (x4 : Int32) (σ : CS) (ta : Nat → Nat), φ0 ≤ ph σ.2.2 → ph σ.2.2 ≤ BB → L_Ground_addRing_34 k90 x1 x3 n x4 σ = some res → NI g p l e s m args below meth c A 5 222 6 ad Rr φ0 res ta σ [(0, .ref (ad 1)), (1, .int x1), (2, .ref (ad 11)), (3, .int x3), (4, .int x4)] 34 [] := by
  intro n
  induction n with
  | zero =>
    intro x4 σ ta hφ hφ2 h
    exact absurd (show (none : Option (Int32 × CS)) = some res from h) (by intro h9; cases h9)
  | succ n ih =>
    intro x4 σ ta hφ hφ2 h
    rw [L_Ground_addRing_34] at h
    refine nw_iload C dX2_addRing_34 4 rfl ?_
    refine nw_iload_n C dX2_addRing_36 rfl 3 rfl ?_
    refine nw_icmp_ge (tgt := 90) C dX2_addRing_37 (by decide) h (fun _ h => ?_) (fun _ h => ?_)
    · exact nw_lv (lv' := [(0, .ref (ad 1)), (1, .int x1), (3, .int x3)]) [0, 1, 3] rfl (hk90 x1 x3 _ _ hφ hφ2 h)
    · refine nw_iload C dX2_addRing_40 4 rfl ?_
      refine nw_aload_n C dX2_addRing_42 rfl 0 rfl ?_
      refine nw_get (v := .ref (ad 43)) C in_X2 1 cl_Ground rfl 2 (by decide) tw_194 rfl rfl dX2_addRing_43 ?_
      refine nw_alenI C 43 (cl_I 16 rfl) dX2_addRing_46 ?_
      refine nw_st (st' := [.int 10, .int x4]) rfl ?_
      refine nw_icmp_ge (tgt := 90) C dX2_addRing_47 (by decide) h (fun _ h => ?_) (fun _ h => ?_)
      · exact nw_lv (lv' := [(0, .ref (ad 1)), (1, .int x1), (3, .int x3)]) [0, 1, 3] rfl (hk90 x1 x3 _ _ hφ hφ2 h)
      · refine nw_aload_n C dX2_addRing_50 rfl 0 rfl ?_
        refine nw_get (v := .ref (ad 43)) C in_X2 1 cl_Ground rfl 2 (by decide) tw_194 rfl rfl dX2_addRing_51 ?_
        refine nw_iload C dX2_addRing_54 4 rfl ?_
        refine nw_aload_n C dX2_addRing_56 rfl 2 rfl ?_
        refine nw_iload C dX2_addRing_57 4 rfl ?_
        refine nw_iconst (v := 0) C dX2_addRing_59 (by decide) ?_
        refine nc_callVI (q0 := 11) (As := [.int x4, .int 0]) (rest := [.int x4, .ref (ad 43)]) C h (fun _ _ e => c_Table_get 0 (by decide) e hφ2) tw_839 kv_X9_get (cl_T 0 (by decide)) rfl ⟨Nat.le_of_ble_eq_true rfl, Nat.le_of_ble_eq_true rfl⟩ rfl dX2_addRing_60 rfl (Nat.le_of_ble_eq_true rfl) hφ hφ2 (fun r60 σ60 ta h hφ hφ2 => ?_)
        refine nw_iast C 43 (cl_I 16 rfl) dX2_addRing_63 h (cs_I 16 rfl) (fun h => ?_)
        refine nw_aload_n C dX2_addRing_64 rfl 0 rfl ?_
        refine nw_get (v := .ref (ad 12)) C in_X2 1 cl_Ground rfl 0 (by decide) tw_189 rfl rfl dX2_addRing_65 ?_
        refine nw_aload_n C dX2_addRing_68 rfl 0 rfl ?_
        refine nw_get (v := .ref (ad 43)) C in_X2 1 cl_Ground rfl 2 (by decide) tw_194 rfl rfl dX2_addRing_69 ?_
        refine nw_iload C dX2_addRing_72 4 rfl ?_
        refine nw_iald C 43 (cl_I 16 rfl) dX2_addRing_74 h (fun h => ?_)
        refine nw_st (st' := [.int (rd (wr σ60 16 x4 r60) 16 x4), .ref (ad 12)]) rfl ?_
        refine nc_callVI (q0 := 12) (As := [.int (rd (wr σ60 16 x4 r60) 16 x4)]) (rest := []) C h (fun _ _ e => c_Table_has 1 (by decide) e hφ2) tw_946 kv_X9_has (cl_T 1 (by decide)) rfl ⟨Nat.le_of_ble_eq_true rfl, Nat.le_of_ble_eq_true rfl⟩ rfl dX2_addRing_75 rfl (Nat.le_of_ble_eq_true rfl) hφ hφ2 (fun r75 σ75 ta h hφ hφ2 => ?_)
        refine nw_if_ne (tgt := 84) C dX2_addRing_78 (by decide) h (fun _ h => ?_) (fun _ h => ?_)
        · refine nw_bipush (v := (-3)) C dX2_addRing_81 (by decide) ?_
          exact nc_iret C hr dX2_addRing_83 hφ hφ2 h
        · refine nw_iinc (lv' := [(4, .int (x4 + 1)), (0, .ref (ad 1)), (1, .int x1), (2, .ref (ad 11)), (3, .int x3)]) C (x4 + 1) dX2_addRing_84 4 rfl rfl (by decide) rfl ?_
          refine nw_goto (tgt := 34) C dX2_addRing_87 (by decide) ?_
          exact nw_lv (lv' := [(0, .ref (ad 1)), (1, .int x1), (2, .ref (ad 11)), (3, .int x3), (4, .int (x4 + 1))]) [1, 2, 3, 4, 0] rfl (ih (x4 + 1) _ _ hφ hφ2 h)
def L_Ground_addRing_135  (x3 : Int32) (x4 : Int32) : Nat → Int32 → CS → Option (Int32 × CS)
  | 0, _, _ => none
  | n + 1, x5, σ => if x3 ≤ x5 then some (x4, σ) else if 10 ≤ x5 then some (x4, σ) else gix x5 10 (bnd (f_Table_put 2 x4 (3 + x5) (rd σ 16 x5) σ) (fun _ σ168 => (L_Ground_addRing_135 x3 x4 n) (x5 + 1) σ168))
set_option maxHeartbeats 4000000 in
set_option maxRecDepth 100000 in
theorem w_Ground_addRing_135 (C : Cx g p s m args meth c A 6 cX2_addRing yX2_addRing.cls) (hr : meth.sig.returnType = (some .int))  {res : Int32 × CS}  (x3 : Int32) (x4 : Int32)  : ∀ (n : Nat) (x5 : Int32) (σ : CS) (ta : Nat → Nat), φ0 ≤ ph σ.2.2 → ph σ.2.2 ≤ BB → L_Ground_addRing_135 x3 x4 n x5 σ = some res → NI g p l e s m args below meth c A 5 222 6 ad Rr φ0 res ta σ [(0, .ref (ad 1)), (3, .int x3), (4, .int x4), (5, .int x5)] 135 [] := by
  intro n
  induction n with
  | zero =>
    intro x5 σ ta hφ hφ2 h
    exact absurd (show (none : Option (Int32 × CS)) = some res from h) (by intro h9; cases h9)
  | succ n ih =>
    intro x5 σ ta hφ hφ2 h
    rw [L_Ground_addRing_135] at h
    refine nw_iload C dX2_addRing_135 3 rfl ?_
    refine nw_iload_n C dX2_addRing_137 rfl 1 rfl ?_
    refine nw_icmp_ge (tgt := 177) C dX2_addRing_138 (by decide) h (fun _ h => ?_) (fun _ h => ?_)
    · refine nw_iload C dX2_addRing_177 2 rfl ?_
      exact nc_iret C hr dX2_addRing_179 hφ hφ2 h
    · refine nw_iload C dX2_addRing_141 3 rfl ?_
      refine nw_aload_n C dX2_addRing_143 rfl 0 rfl ?_
      refine nw_get (v := .ref (ad 43)) C in_X2 1 cl_Ground rfl 2 (by decide) tw_194 rfl rfl dX2_addRing_144 ?_
      refine nw_alenI C 43 (cl_I 16 rfl) dX2_addRing_147 ?_
      refine nw_st (st' := [.int 10, .int x5]) rfl ?_
      refine nw_icmp_ge (tgt := 177) C dX2_addRing_148 (by decide) h (fun _ h => ?_) (fun _ h => ?_)
      · refine nw_iload C dX2_addRing_177 2 rfl ?_
        exact nc_iret C hr dX2_addRing_179 hφ hφ2 h
      · refine nw_aload_n C dX2_addRing_151 rfl 0 rfl ?_
        refine nw_get (v := .ref (ad 13)) C in_X2 1 cl_Ground rfl 1 (by decide) tw_192 rfl rfl dX2_addRing_152 ?_
        refine nw_iload C dX2_addRing_155 2 rfl ?_
        refine nw_iconst (v := 3) C dX2_addRing_157 (by decide) ?_
        refine nw_iload C dX2_addRing_158 3 rfl ?_
        refine nw_iadd C dX2_addRing_160 ?_
        refine nw_aload_n C dX2_addRing_161 rfl 0 rfl ?_
        refine nw_get (v := .ref (ad 43)) C in_X2 1 cl_Ground rfl 2 (by decide) tw_194 rfl rfl dX2_addRing_162 ?_
        refine nw_iload C dX2_addRing_165 3 rfl ?_
        refine nw_iald C 43 (cl_I 16 rfl) dX2_addRing_167 h (fun h => ?_)
        refine nc_callVV (q0 := 13) (As := [.int x4, .int (3 + x5), .int (rd σ 16 x5)]) (rest := []) C h (fun _ _ e => c_Table_put 2 (by decide) e hφ2) tw_926 kv_X9_put (cl_T 2 (by decide)) rfl ⟨Nat.le_of_ble_eq_true rfl, Nat.le_of_ble_eq_true rfl⟩ rfl dX2_addRing_168 rfl (Nat.le_of_ble_eq_true rfl) hφ hφ2 (fun r168 σ168 ta h hφ hφ2 => ?_)
        refine nw_iinc (lv' := [(5, .int (x5 + 1)), (0, .ref (ad 1)), (3, .int x3), (4, .int x4)]) C (x5 + 1) dX2_addRing_171 3 rfl rfl (by decide) rfl ?_
        refine nw_goto (tgt := 135) C dX2_addRing_174 (by decide) ?_
        exact nw_lv (lv' := [(0, .ref (ad 1)), (3, .int x3), (4, .int x4), (5, .int (x5 + 1))]) [1, 2, 3, 0] rfl (ih (x5 + 1) _ _ hφ hφ2 h)
def B_Ground_addRing_90   (x1 : Int32) (x3 : Int32) (σ : CS) : Option (Int32 × CS) := bnd (f_Ground_isSimple x3 σ) (fun r92 σ92 => if r92 = 0 then some ((-4), σ92) else bnd (f_Table_add 2 σ92) (fun r105 σ105 => bnd (f_Table_put 2 r105 0 x1 σ105) (fun _ σ118 => bnd (f_Table_put 2 r105 2 x3 σ118) (fun _ σ129 => L_Ground_addRing_135 x3 r105 FU 0 σ129))))
set_option maxHeartbeats 4000000 in
set_option maxRecDepth 100000 in
theorem w_Ground_addRing_90 (C : Cx g p s m args meth c A 6 cX2_addRing yX2_addRing.cls) (hr : meth.sig.returnType = (some .int))  {res : Int32 × CS}   (x1 : Int32) (x3 : Int32)  (σ : CS) (ta : Nat → Nat) (hφ : φ0 ≤ ph σ.2.2) (hφ2 : ph σ.2.2 ≤ BB) (h : B_Ground_addRing_90 x1 x3 σ = some res) : NI g p l e s m args below meth c A 5 222 6 ad Rr φ0 res ta σ [(0, .ref (ad 1)), (1, .int x1), (3, .int x3)] 90 [] := by
  unfold B_Ground_addRing_90 at h
  refine nw_aload_n C dX2_addRing_90 rfl 0 rfl ?_
  refine nw_iload_n C dX2_addRing_91 rfl 2 rfl ?_
  refine nc_callVI (q0 := 1) (As := [.int x3]) (rest := []) C h (fun _ _ e => c_Ground_isSimple e hφ2) tw_947 kv_X2_isSimple cl_Ground rfl ⟨Nat.le_of_ble_eq_true rfl, Nat.le_of_ble_eq_true rfl⟩ rfl dX2_addRing_92 rfl (Nat.le_of_ble_eq_true rfl) hφ hφ2 (fun r92 σ92 ta h hφ hφ2 => ?_)
  refine nw_if_ne (tgt := 101) C dX2_addRing_95 (by decide) h (fun _ h => ?_) (fun _ h => ?_)
  · refine nw_bipush (v := (-4)) C dX2_addRing_98 (by decide) ?_
    exact nc_iret C hr dX2_addRing_100 hφ hφ2 h
  · refine nw_aload_n C dX2_addRing_101 rfl 0 rfl ?_
    refine nw_get (v := .ref (ad 13)) C in_X2 1 cl_Ground rfl 1 (by decide) tw_192 rfl rfl dX2_addRing_102 ?_
    refine nc_callVI (q0 := 13) (As := []) (rest := []) C h (fun _ _ e => c_Table_add 2 (by decide) e hφ2) tw_925 kv_X9_add (cl_T 2 (by decide)) rfl ⟨Nat.le_of_ble_eq_true rfl, Nat.le_of_ble_eq_true rfl⟩ rfl dX2_addRing_105 rfl (Nat.le_of_ble_eq_true rfl) hφ hφ2 (fun r105 σ105 ta h hφ hφ2 => ?_)
    refine nw_istore (lv' := [(4, .int r105), (0, .ref (ad 1)), (1, .int x1), (3, .int x3)]) C dX2_addRing_108 (by decide) rfl ?_
    refine nw_aload_n C dX2_addRing_110 rfl 1 rfl ?_
    refine nw_get (v := .ref (ad 13)) C in_X2 1 cl_Ground rfl 1 (by decide) tw_192 rfl rfl dX2_addRing_111 ?_
    refine nw_iload C dX2_addRing_114 0 rfl ?_
    refine nw_iconst (v := 0) C dX2_addRing_116 (by decide) ?_
    refine nw_iload_n C dX2_addRing_117 rfl 2 rfl ?_
    refine nc_callVV (q0 := 13) (As := [.int r105, .int 0, .int x1]) (rest := []) C h (fun _ _ e => c_Table_put 2 (by decide) e hφ2) tw_926 kv_X9_put (cl_T 2 (by decide)) rfl ⟨Nat.le_of_ble_eq_true rfl, Nat.le_of_ble_eq_true rfl⟩ rfl dX2_addRing_118 rfl (Nat.le_of_ble_eq_true rfl) hφ hφ2 (fun r118 σ118 ta h hφ hφ2 => ?_)
    refine nw_aload_n C dX2_addRing_121 rfl 1 rfl ?_
    refine nw_get (v := .ref (ad 13)) C in_X2 1 cl_Ground rfl 1 (by decide) tw_192 rfl rfl dX2_addRing_122 ?_
    refine nw_iload C dX2_addRing_125 0 rfl ?_
    refine nw_iconst (v := 2) C dX2_addRing_127 (by decide) ?_
    refine nw_iload_n C dX2_addRing_128 rfl 3 rfl ?_
    refine nc_callVV (q0 := 13) (As := [.int r105, .int 2, .int x3]) (rest := []) C h (fun _ _ e => c_Table_put 2 (by decide) e hφ2) tw_926 kv_X9_put (cl_T 2 (by decide)) rfl ⟨Nat.le_of_ble_eq_true rfl, Nat.le_of_ble_eq_true rfl⟩ rfl dX2_addRing_129 rfl (Nat.le_of_ble_eq_true rfl) hφ hφ2 (fun r129 σ129 ta h hφ hφ2 => ?_)
    refine nw_iconst (v := 0) C dX2_addRing_132 (by decide) ?_
    refine nw_istore (lv' := [(5, .int 0), (4, .int r105), (0, .ref (ad 1)), (1, .int x1), (3, .int x3)]) C dX2_addRing_133 (by decide) rfl ?_
    exact nw_lv (lv' := [(0, .ref (ad 1)), (3, .int x3), (4, .int r105), (5, .int 0)]) [2, 4, 1, 0] rfl (w_Ground_addRing_135 C hr x3 r105 FU 0 _ _ hφ hφ2 h)
def f_Ground_addRing (p0 : Int32) (σ : CS) : Option (Int32 × CS) := bnd (f_Table_size 0 σ) (fun r1 σ1 => bnd (f_Table_isFull 2 σ1) (fun r9 σ9 => if r9 = 0 then if r1 < 3 then some ((-2), σ9) else if r1 ≤ 10 then L_Ground_addRing_34 (B_Ground_addRing_90) p0 r1 FU 0 σ9 else some ((-2), σ9) else some ((-1), σ9)))
set_option maxHeartbeats 4000000 in
set_option maxRecDepth 100000 in
theorem c_Ground_addRing {l : Launch} {g : EG} {ad ta : Nat → Nat} {Rr : va_W} {σ σ' : CS} {r : Int32} {p0 : Int32}  (h : f_Ground_addRing p0 σ = some (r, σ')) (hφ2 : ph σ.2.2 ≤ BB) : CtI l g yX2_addRing (.code yX2_addRing cX2_addRing 6 (some .int)) 5 222 ad ta Rr σ [.ref (ad 1), .int p0, .ref (ad 11)] r σ' := by
  refine Ct.of rfl (by decide) (Nat.le_of_ble_eq_true rfl) ?_
  intro p e s m args below meth c A C hr
  have hφ : ph σ.2.2 ≤ ph σ.2.2 := Nat.le_refl _
  refine nw_zero (ph σ.2.2) ?_
  show NI g p l e s m args below meth c A 5 222 6 ad Rr (ph σ.2.2) (r, σ') ta σ [(0, .ref (ad 1)), (1, .int p0), (2, .ref (ad 11))] 0 []
  unfold f_Ground_addRing at h
  refine nw_aload_n C dX2_addRing_0 rfl 2 rfl ?_
  refine nc_callVI (q0 := 11) (As := []) (rest := []) C h (fun _ _ e => c_Table_size 0 (by decide) e hφ2) tw_838 kv_X9_size (cl_T 0 (by decide)) rfl ⟨Nat.le_of_ble_eq_true rfl, Nat.le_of_ble_eq_true rfl⟩ rfl dX2_addRing_1 rfl (Nat.le_of_ble_eq_true rfl) hφ hφ2 (fun r1 σ1 ta h hφ hφ2 => ?_)
  refine nw_istore_n (lv' := [(3, .int r1), (0, .ref (ad 1)), (1, .int p0), (2, .ref (ad 11))]) C dX2_addRing_4 rfl (by decide) rfl ?_
  refine nw_aload_n C dX2_addRing_5 rfl 1 rfl ?_
  refine nw_get (v := .ref (ad 13)) C in_X2 1 cl_Ground rfl 1 (by decide) tw_192 rfl rfl dX2_addRing_6 ?_
  refine nc_callVI (q0 := 13) (As := []) (rest := []) C h (fun _ _ e => c_Table_isFull 2 (by decide) e hφ2) tw_945 kv_X9_isFull (cl_T 2 (by decide)) rfl ⟨Nat.le_of_ble_eq_true rfl, Nat.le_of_ble_eq_true rfl⟩ rfl dX2_addRing_9 rfl (Nat.le_of_ble_eq_true rfl) hφ hφ2 (fun r9 σ9 ta h hφ hφ2 => ?_)
  refine nw_if_eq (tgt := 17) C dX2_addRing_12 (by decide) h (fun _ h => ?_) (fun _ h => ?_)
  · refine nw_iload_n C dX2_addRing_17 rfl 0 rfl ?_
    refine nw_iconst (v := 3) C dX2_addRing_18 (by decide) ?_
    refine nw_icmp_lt (tgt := 28) C dX2_addRing_19 (by decide) h (fun _ h => ?_) (fun _ h => ?_)
    · refine nw_bipush (v := (-2)) C dX2_addRing_28 (by decide) ?_
      exact nc_iret C hr dX2_addRing_30 hφ hφ2 h
    · refine nw_iload_n C dX2_addRing_22 rfl 0 rfl ?_
      refine nw_bipush (v := 10) C dX2_addRing_23 (by decide) ?_
      refine nw_icmp_le (tgt := 31) C dX2_addRing_25 (by decide) h (fun _ h => ?_) (fun _ h => ?_)
      · refine nw_iconst (v := 0) C dX2_addRing_31 (by decide) ?_
        refine nw_istore (lv' := [(4, .int 0), (3, .int r1), (0, .ref (ad 1)), (1, .int p0), (2, .ref (ad 11))]) C dX2_addRing_32 (by decide) rfl ?_
        exact nw_lv (lv' := [(0, .ref (ad 1)), (1, .int p0), (2, .ref (ad 11)), (3, .int r1), (4, .int 0)]) [2, 3, 4, 1, 0] rfl (w_Ground_addRing_34 C hr p0 r1 (fun x1_ x3_ σ_ ta_ hφ_ hφ2_ h_ => w_Ground_addRing_90 C hr x1_ x3_ σ_ ta_ hφ_ hφ2_ h_) FU 0 _ _ hφ hφ2 h)
      · refine nw_bipush (v := (-2)) C dX2_addRing_28 (by decide) ?_
        exact nc_iret C hr dX2_addRing_30 hφ hφ2 h
  · refine nw_iconst (v := (-1)) C dX2_addRing_15 (by decide) ?_
    exact nc_iret C hr dX2_addRing_16 hφ hφ2 h
theorem dX2_wayOf_0 : decode cX2_wayOf 0 = .ok (.aload_n 0, 1) := by decide +kernel
theorem dX2_wayOf_1 : decode cX2_wayOf 1 = .ok (.getfield 16, 3) := by decide +kernel
theorem dX2_wayOf_4 : decode cX2_wayOf 4 = .ok (.iload_n 1, 1) := by decide +kernel
theorem dX2_wayOf_5 : decode cX2_wayOf 5 = .ok (.iconst 1, 1) := by decide +kernel
theorem dX2_wayOf_6 : decode cX2_wayOf 6 = .ok (.invokevirtual 31, 3) := by decide +kernel
theorem dX2_wayOf_9 : decode cX2_wayOf 9 = .ok (.aload_n 0, 1) := by decide +kernel
theorem dX2_wayOf_10 : decode cX2_wayOf 10 = .ok (.getfield 16, 3) := by decide +kernel
theorem dX2_wayOf_13 : decode cX2_wayOf 13 = .ok (.iload_n 1, 1) := by decide +kernel
theorem dX2_wayOf_14 : decode cX2_wayOf 14 = .ok (.iconst 2, 1) := by decide +kernel
theorem dX2_wayOf_15 : decode cX2_wayOf 15 = .ok (.invokevirtual 31, 3) := by decide +kernel
theorem dX2_wayOf_18 : decode cX2_wayOf 18 = .ok (.aload_n 0, 1) := by decide +kernel
theorem dX2_wayOf_19 : decode cX2_wayOf 19 = .ok (.getfield 16, 3) := by decide +kernel
theorem dX2_wayOf_22 : decode cX2_wayOf 22 = .ok (.iload_n 2, 1) := by decide +kernel
theorem dX2_wayOf_23 : decode cX2_wayOf 23 = .ok (.iconst 1, 1) := by decide +kernel
theorem dX2_wayOf_24 : decode cX2_wayOf 24 = .ok (.invokevirtual 31, 3) := by decide +kernel
theorem dX2_wayOf_27 : decode cX2_wayOf 27 = .ok (.aload_n 0, 1) := by decide +kernel
theorem dX2_wayOf_28 : decode cX2_wayOf 28 = .ok (.getfield 16, 3) := by decide +kernel
theorem dX2_wayOf_31 : decode cX2_wayOf 31 = .ok (.iload_n 2, 1) := by decide +kernel
theorem dX2_wayOf_32 : decode cX2_wayOf 32 = .ok (.iconst 2, 1) := by decide +kernel
theorem dX2_wayOf_33 : decode cX2_wayOf 33 = .ok (.invokevirtual 31, 3) := by decide +kernel
theorem dX2_wayOf_36 : decode cX2_wayOf 36 = .ok (.invokestatic 91, 3) := by decide +kernel
theorem dX2_wayOf_39 : decode cX2_wayOf 39 = .ok (.ireturn, 1) := by decide +kernel
def f_Ground_wayOf (p0 : Int32) (p1 : Int32) (σ : CS) : Option (Int32 × CS) := bnd (f_Table_get 1 p0 1 σ) (fun r6 σ6 => bnd (f_Table_get 1 p0 2 σ6) (fun r15 σ15 => bnd (f_Table_get 1 p1 1 σ15) (fun r24 σ24 => bnd (f_Table_get 1 p1 2 σ24) (fun r33 σ33 => bnd (f_FC_wayBetween r6 r15 r24 r33 σ33) (fun r36 σ36 => some (r36, σ36))))))
set_option maxHeartbeats 4000000 in
set_option maxRecDepth 100000 in
theorem c_Ground_wayOf {l : Launch} {g : EG} {ad ta : Nat → Nat} {Rr : va_W} {σ σ' : CS} {r : Int32} {p0 : Int32} {p1 : Int32}  (h : f_Ground_wayOf p0 p1 σ = some (r, σ')) (hφ2 : ph σ.2.2 ≤ BB) : CtI l g yX2_wayOf (.code yX2_wayOf cX2_wayOf 3 (some .int)) 2 63 ad ta Rr σ [.ref (ad 1), .int p0, .int p1] r σ' := by
  refine Ct.of rfl (by decide) (Nat.le_of_ble_eq_true rfl) ?_
  intro p e s m args below meth c A C hr
  have hφ : ph σ.2.2 ≤ ph σ.2.2 := Nat.le_refl _
  refine nw_zero (ph σ.2.2) ?_
  show NI g p l e s m args below meth c A 2 63 3 ad Rr (ph σ.2.2) (r, σ') ta σ [(0, .ref (ad 1)), (1, .int p0), (2, .int p1)] 0 []
  unfold f_Ground_wayOf at h
  refine nw_aload_n C dX2_wayOf_0 rfl 0 rfl ?_
  refine nw_get (v := .ref (ad 12)) C in_X2 1 cl_Ground rfl 0 (by decide) tw_189 rfl rfl dX2_wayOf_1 ?_
  refine nw_iload_n C dX2_wayOf_4 rfl 1 rfl ?_
  refine nw_iconst (v := 1) C dX2_wayOf_5 (by decide) ?_
  refine nc_callVI (q0 := 12) (As := [.int p0, .int 1]) (rest := []) C h (fun _ _ e => c_Table_get 1 (by decide) e hφ2) tw_839 kv_X9_get (cl_T 1 (by decide)) rfl ⟨Nat.le_of_ble_eq_true rfl, Nat.le_of_ble_eq_true rfl⟩ rfl dX2_wayOf_6 rfl (Nat.le_of_ble_eq_true rfl) hφ hφ2 (fun r6 σ6 ta h hφ hφ2 => ?_)
  refine nw_aload_n C dX2_wayOf_9 rfl 0 rfl ?_
  refine nw_get (v := .ref (ad 12)) C in_X2 1 cl_Ground rfl 0 (by decide) tw_189 rfl rfl dX2_wayOf_10 ?_
  refine nw_iload_n C dX2_wayOf_13 rfl 1 rfl ?_
  refine nw_iconst (v := 2) C dX2_wayOf_14 (by decide) ?_
  refine nc_callVI (q0 := 12) (As := [.int p0, .int 2]) (rest := [.int r6]) C h (fun _ _ e => c_Table_get 1 (by decide) e hφ2) tw_839 kv_X9_get (cl_T 1 (by decide)) rfl ⟨Nat.le_of_ble_eq_true rfl, Nat.le_of_ble_eq_true rfl⟩ rfl dX2_wayOf_15 rfl (Nat.le_of_ble_eq_true rfl) hφ hφ2 (fun r15 σ15 ta h hφ hφ2 => ?_)
  refine nw_aload_n C dX2_wayOf_18 rfl 0 rfl ?_
  refine nw_get (v := .ref (ad 12)) C in_X2 1 cl_Ground rfl 0 (by decide) tw_189 rfl rfl dX2_wayOf_19 ?_
  refine nw_iload_n C dX2_wayOf_22 rfl 2 rfl ?_
  refine nw_iconst (v := 1) C dX2_wayOf_23 (by decide) ?_
  refine nc_callVI (q0 := 12) (As := [.int p1, .int 1]) (rest := [.int r15, .int r6]) C h (fun _ _ e => c_Table_get 1 (by decide) e hφ2) tw_839 kv_X9_get (cl_T 1 (by decide)) rfl ⟨Nat.le_of_ble_eq_true rfl, Nat.le_of_ble_eq_true rfl⟩ rfl dX2_wayOf_24 rfl (Nat.le_of_ble_eq_true rfl) hφ hφ2 (fun r24 σ24 ta h hφ hφ2 => ?_)
  refine nw_aload_n C dX2_wayOf_27 rfl 0 rfl ?_
  refine nw_get (v := .ref (ad 12)) C in_X2 1 cl_Ground rfl 0 (by decide) tw_189 rfl rfl dX2_wayOf_28 ?_
  refine nw_iload_n C dX2_wayOf_31 rfl 2 rfl ?_
  refine nw_iconst (v := 2) C dX2_wayOf_32 (by decide) ?_
  refine nc_callVI (q0 := 12) (As := [.int p1, .int 2]) (rest := [.int r24, .int r15, .int r6]) C h (fun _ _ e => c_Table_get 1 (by decide) e hφ2) tw_839 kv_X9_get (cl_T 1 (by decide)) rfl ⟨Nat.le_of_ble_eq_true rfl, Nat.le_of_ble_eq_true rfl⟩ rfl dX2_wayOf_33 rfl (Nat.le_of_ble_eq_true rfl) hφ hφ2 (fun r33 σ33 ta h hφ hφ2 => ?_)
  refine nc_callSNI  (As := [.int r6, .int r15, .int r24, .int r33]) (rest := []) C h (fun _ _ e => c_FC_wayBetween e hφ2) tw_1061 ks_X11_wayBetween ⟨Nat.le_of_ble_eq_true rfl, Nat.le_of_ble_eq_true rfl⟩ rfl dX2_wayOf_36 rfl (Nat.le_of_ble_eq_true rfl) hφ hφ2 (fun r36 σ36 ta h hφ hφ2 => ?_)
  exact nc_iret C hr dX2_wayOf_39 hφ hφ2 h
theorem dX3_keepRule_0 : decode cX3_keepRule 0 = .ok (.aload_n 0, 1) := by decide +kernel
theorem dX3_keepRule_1 : decode cX3_keepRule 1 = .ok (.getfield 22, 3) := by decide +kernel
theorem dX3_keepRule_4 : decode cX3_keepRule 4 = .ok (.iload_n 2, 1) := by decide +kernel
theorem dX3_keepRule_5 : decode cX3_keepRule 5 = .ok (.bipush 6, 2) := by decide +kernel
theorem dX3_keepRule_7 : decode cX3_keepRule 7 = .ok (.invokevirtual 78, 3) := by decide +kernel
theorem dX3_keepRule_10 : decode cX3_keepRule 10 = .ok (.istore_n 3, 1) := by decide +kernel
theorem dX3_keepRule_11 : decode cX3_keepRule 11 = .ok (.aload_n 0, 1) := by decide +kernel
theorem dX3_keepRule_12 : decode cX3_keepRule 12 = .ok (.getfield 22, 3) := by decide +kernel
theorem dX3_keepRule_15 : decode cX3_keepRule 15 = .ok (.iload_n 2, 1) := by decide +kernel
theorem dX3_keepRule_16 : decode cX3_keepRule 16 = .ok (.iconst 2, 1) := by decide +kernel
theorem dX3_keepRule_17 : decode cX3_keepRule 17 = .ok (.invokevirtual 78, 3) := by decide +kernel
theorem dX3_keepRule_20 : decode cX3_keepRule 20 = .ok (.tableswitch 127 4 7 #[32, 113, 57, 100], 32) := by decide +kernel
theorem dX3_keepRule_52 : decode cX3_keepRule 52 = .ok (.aload_n 0, 1) := by decide +kernel
theorem dX3_keepRule_53 : decode cX3_keepRule 53 = .ok (.getfield 16, 3) := by decide +kernel
theorem dX3_keepRule_56 : decode cX3_keepRule 56 = .ok (.iload_n 1, 1) := by decide +kernel
theorem dX3_keepRule_57 : decode cX3_keepRule 57 = .ok (.iconst 1, 1) := by decide +kernel
theorem dX3_keepRule_58 : decode cX3_keepRule 58 = .ok (.aload_n 0, 1) := by decide +kernel
theorem dX3_keepRule_59 : decode cX3_keepRule 59 = .ok (.getfield 16, 3) := by decide +kernel
theorem dX3_keepRule_62 : decode cX3_keepRule 62 = .ok (.iload_n 1, 1) := by decide +kernel
theorem dX3_keepRule_63 : decode cX3_keepRule 63 = .ok (.iconst 1, 1) := by decide +kernel
theorem dX3_keepRule_64 : decode cX3_keepRule 64 = .ok (.invokevirtual 78, 3) := by decide +kernel
theorem dX3_keepRule_67 : decode cX3_keepRule 67 = .ok (.iconst 1, 1) := by decide +kernel
theorem dX3_keepRule_68 : decode cX3_keepRule 68 = .ok (.iload_n 3, 1) := by decide +kernel
theorem dX3_keepRule_69 : decode cX3_keepRule 69 = .ok (.ishl, 1) := by decide +kernel
theorem dX3_keepRule_70 : decode cX3_keepRule 70 = .ok (.ior, 1) := by decide +kernel
theorem dX3_keepRule_71 : decode cX3_keepRule 71 = .ok (.invokevirtual 71, 3) := by decide +kernel
theorem dX3_keepRule_74 : decode cX3_keepRule 74 = .ok (.goto 73, 3) := by decide +kernel
theorem dX3_keepRule_77 : decode cX3_keepRule 77 = .ok (.iconst 0, 1) := by decide +kernel
theorem dX3_keepRule_78 : decode cX3_keepRule 78 = .ok (.istore 4, 2) := by decide +kernel
theorem dX3_keepRule_80 : decode cX3_keepRule 80 = .ok (.iload 4, 2) := by decide +kernel
theorem dX3_keepRule_82 : decode cX3_keepRule 82 = .ok (.iconst 3, 1) := by decide +kernel
theorem dX3_keepRule_83 : decode cX3_keepRule 83 = .ok (.if_icmp .ge 34, 3) := by decide +kernel
theorem dX3_keepRule_86 : decode cX3_keepRule 86 = .ok (.aload_n 0, 1) := by decide +kernel
theorem dX3_keepRule_87 : decode cX3_keepRule 87 = .ok (.getfield 16, 3) := by decide +kernel
theorem dX3_keepRule_90 : decode cX3_keepRule 90 = .ok (.iload_n 1, 1) := by decide +kernel
theorem dX3_keepRule_91 : decode cX3_keepRule 91 = .ok (.iconst 2, 1) := by decide +kernel
theorem dX3_keepRule_92 : decode cX3_keepRule 92 = .ok (.iload 4, 2) := by decide +kernel
theorem dX3_keepRule_94 : decode cX3_keepRule 94 = .ok (.iadd, 1) := by decide +kernel
theorem dX3_keepRule_95 : decode cX3_keepRule 95 = .ok (.aload_n 0, 1) := by decide +kernel
theorem dX3_keepRule_96 : decode cX3_keepRule 96 = .ok (.getfield 22, 3) := by decide +kernel
theorem dX3_keepRule_99 : decode cX3_keepRule 99 = .ok (.iload_n 2, 1) := by decide +kernel
theorem dX3_keepRule_100 : decode cX3_keepRule 100 = .ok (.bipush 6, 2) := by decide +kernel
theorem dX3_keepRule_102 : decode cX3_keepRule 102 = .ok (.iload 4, 2) := by decide +kernel
theorem dX3_keepRule_104 : decode cX3_keepRule 104 = .ok (.iadd, 1) := by decide +kernel
theorem dX3_keepRule_105 : decode cX3_keepRule 105 = .ok (.invokevirtual 78, 3) := by decide +kernel
theorem dX3_keepRule_108 : decode cX3_keepRule 108 = .ok (.invokevirtual 71, 3) := by decide +kernel
theorem dX3_keepRule_111 : decode cX3_keepRule 111 = .ok (.iinc 4 1, 3) := by decide +kernel
theorem dX3_keepRule_114 : decode cX3_keepRule 114 = .ok (.goto (-34), 3) := by decide +kernel
theorem dX3_keepRule_117 : decode cX3_keepRule 117 = .ok (.goto 30, 3) := by decide +kernel
theorem dX3_keepRule_120 : decode cX3_keepRule 120 = .ok (.aload_n 0, 1) := by decide +kernel
theorem dX3_keepRule_121 : decode cX3_keepRule 121 = .ok (.getfield 16, 3) := by decide +kernel
theorem dX3_keepRule_124 : decode cX3_keepRule 124 = .ok (.iload_n 1, 1) := by decide +kernel
theorem dX3_keepRule_125 : decode cX3_keepRule 125 = .ok (.iconst 5, 1) := by decide +kernel
theorem dX3_keepRule_126 : decode cX3_keepRule 126 = .ok (.iload_n 3, 1) := by decide +kernel
theorem dX3_keepRule_127 : decode cX3_keepRule 127 = .ok (.invokevirtual 71, 3) := by decide +kernel
theorem dX3_keepRule_130 : decode cX3_keepRule 130 = .ok (.goto 17, 3) := by decide +kernel
theorem dX3_keepRule_133 : decode cX3_keepRule 133 = .ok (.aload_n 0, 1) := by decide +kernel
theorem dX3_keepRule_134 : decode cX3_keepRule 134 = .ok (.getfield 16, 3) := by decide +kernel
theorem dX3_keepRule_137 : decode cX3_keepRule 137 = .ok (.iload_n 1, 1) := by decide +kernel
theorem dX3_keepRule_138 : decode cX3_keepRule 138 = .ok (.bipush 6, 2) := by decide +kernel
theorem dX3_keepRule_140 : decode cX3_keepRule 140 = .ok (.iload_n 3, 1) := by decide +kernel
theorem dX3_keepRule_141 : decode cX3_keepRule 141 = .ok (.invokevirtual 71, 3) := by decide +kernel
theorem dX3_keepRule_144 : decode cX3_keepRule 144 = .ok (.goto 3, 3) := by decide +kernel
theorem dX3_keepRule_147 : decode cX3_keepRule 147 = .ok (.return_, 1) := by decide +kernel
def L_Laws_keepRule_80  (x1 : Int32) (x2 : Int32) : Nat → Int32 → CS → Option (Int32 × CS)
  | 0, _, _ => none
  | n + 1, x4, σ => if 3 ≤ x4 then some (0, σ) else bnd (f_Table_get 4 x2 (6 + x4) σ) (fun r105 σ105 => bnd (f_Table_put 3 x1 (2 + x4) r105 σ105) (fun _ σ108 => (L_Laws_keepRule_80 x1 x2 n) (x4 + 1) σ108))
set_option maxHeartbeats 4000000 in
set_option maxRecDepth 100000 in
theorem w_Laws_keepRule_80 (C : Cx g p s m args meth c A 5 cX3_keepRule yX3_keepRule.cls) (hr : meth.sig.returnType = none)  {res : Int32 × CS}  (x1 : Int32) (x2 : Int32)  : ∀ (n : Nat) (x4 : Int32) (σ : CS) (ta : Nat → Nat), φ0 ≤ ph σ.2.2 → ph σ.2.2 ≤ BB → L_Laws_keepRule_80 x1 x2 n x4 σ = some res → NV g p l e s m args below meth c A 1 24 5 ad Rr φ0 res ta σ [(0, .ref (ad 3)), (1, .int x1), (2, .int x2), (4, .int x4)] 80 [] := by
  intro n
  induction n with
  | zero =>
    intro x4 σ ta hφ hφ2 h
    exact absurd (show (none : Option (Int32 × CS)) = some res from h) (by intro h9; cases h9)
  | succ n ih =>
    intro x4 σ ta hφ hφ2 h
    rw [L_Laws_keepRule_80] at h
    refine nw_iload C dX3_keepRule_80 3 rfl ?_
    refine nw_iconst (v := 3) C dX3_keepRule_82 (by decide) ?_
    refine nw_icmp_ge (tgt := 117) C dX3_keepRule_83 (by decide) h (fun _ h => ?_) (fun _ h => ?_)
    · refine nw_goto (tgt := 147) C dX3_keepRule_117 (by decide) ?_
      exact nc_vret C hr dX3_keepRule_147 hφ hφ2 h
    · refine nw_aload_n C dX3_keepRule_86 rfl 0 rfl ?_
      refine nw_get (v := .ref (ad 14)) C in_X3 3 cl_Laws rfl 0 (by decide) tw_275 rfl rfl dX3_keepRule_87 ?_
      refine nw_iload_n C dX3_keepRule_90 rfl 1 rfl ?_
      refine nw_iconst (v := 2) C dX3_keepRule_91 (by decide) ?_
      refine nw_iload C dX3_keepRule_92 3 rfl ?_
      refine nw_iadd C dX3_keepRule_94 ?_
      refine nw_aload_n C dX3_keepRule_95 rfl 0 rfl ?_
      refine nw_get (v := .ref (ad 15)) C in_X3 3 cl_Laws rfl 1 (by decide) tw_278 rfl rfl dX3_keepRule_96 ?_
      refine nw_iload_n C dX3_keepRule_99 rfl 2 rfl ?_
      refine nw_bipush (v := 6) C dX3_keepRule_100 (by decide) ?_
      refine nw_iload C dX3_keepRule_102 3 rfl ?_
      refine nw_iadd C dX3_keepRule_104 ?_
      refine nc_callVI (q0 := 15) (As := [.int x2, .int (6 + x4)]) (rest := [.int (2 + x4), .int x1, .ref (ad 14)]) C h (fun _ _ e => c_Table_get 4 (by decide) e hφ2) tw_787 kv_X9_get (cl_T 4 (by decide)) rfl ⟨Nat.le_of_ble_eq_true rfl, Nat.le_of_ble_eq_true rfl⟩ rfl dX3_keepRule_105 rfl (Nat.le_of_ble_eq_true rfl) hφ hφ2 (fun r105 σ105 ta h hφ hφ2 => ?_)
      refine nc_callVV (q0 := 14) (As := [.int x1, .int (2 + x4), .int r105]) (rest := []) C h (fun _ _ e => c_Table_put 3 (by decide) e hφ2) tw_1230 kv_X9_put (cl_T 3 (by decide)) rfl ⟨Nat.le_of_ble_eq_true rfl, Nat.le_of_ble_eq_true rfl⟩ rfl dX3_keepRule_108 rfl (Nat.le_of_ble_eq_true rfl) hφ hφ2 (fun r108 σ108 ta h hφ hφ2 => ?_)
      refine nw_iinc (lv' := [(4, .int (x4 + 1)), (0, .ref (ad 3)), (1, .int x1), (2, .int x2)]) C (x4 + 1) dX3_keepRule_111 3 rfl rfl (by decide) rfl ?_
      refine nw_goto (tgt := 80) C dX3_keepRule_114 (by decide) ?_
      exact nw_lv (lv' := [(0, .ref (ad 3)), (1, .int x1), (2, .int x2), (4, .int (x4 + 1))]) [1, 2, 3, 0] rfl (ih (x4 + 1) _ _ hφ hφ2 h)
def f_Laws_keepRule (p0 : Int32) (p1 : Int32) (σ : CS) : Option (Int32 × CS) := bnd (f_Table_get 4 p1 6 σ) (fun r7 σ7 => bnd (f_Table_get 4 p1 2 σ7) (fun r17 σ17 => if r17 = 4 then bnd (f_Table_get 3 p0 1 σ17) (fun r64 σ64 => bnd (f_Table_put 3 p0 1 (r64 ||| ((1 : Int32) <<< (r7 &&& 31))) σ64) (fun _ σ71 => some (0, σ71))) else if r17 = 5 then bnd (f_Table_put 3 p0 6 r7 σ17) (fun _ σ141 => some (0, σ141)) else if r17 = 6 then L_Laws_keepRule_80 p0 p1 FU 0 σ17 else if r17 = 7 then bnd (f_Table_put 3 p0 5 r7 σ17) (fun _ σ127 => some (0, σ127)) else some (0, σ17)))
set_option maxHeartbeats 4000000 in
set_option maxRecDepth 100000 in
theorem c_Laws_keepRule {l : Launch} {g : EG} {ad ta : Nat → Nat} {Rr : va_W} {σ σ' : CS} {r : Int32} {p0 : Int32} {p1 : Int32}  (h : f_Laws_keepRule p0 p1 σ = some (r, σ')) (hφ2 : ph σ.2.2 ≤ BB) : CtV l g yX3_keepRule (.code yX3_keepRule cX3_keepRule 5 none) 1 24 ad ta Rr σ [.ref (ad 3), .int p0, .int p1] r σ' := by
  refine Ct.of rfl (by decide) (Nat.le_of_ble_eq_true rfl) ?_
  intro p e s m args below meth c A C hr
  have hφ : ph σ.2.2 ≤ ph σ.2.2 := Nat.le_refl _
  refine nw_zero (ph σ.2.2) ?_
  show NV g p l e s m args below meth c A 1 24 5 ad Rr (ph σ.2.2) (r, σ') ta σ [(0, .ref (ad 3)), (1, .int p0), (2, .int p1)] 0 []
  unfold f_Laws_keepRule at h
  refine nw_aload_n C dX3_keepRule_0 rfl 0 rfl ?_
  refine nw_get (v := .ref (ad 15)) C in_X3 3 cl_Laws rfl 1 (by decide) tw_278 rfl rfl dX3_keepRule_1 ?_
  refine nw_iload_n C dX3_keepRule_4 rfl 2 rfl ?_
  refine nw_bipush (v := 6) C dX3_keepRule_5 (by decide) ?_
  refine nc_callVI (q0 := 15) (As := [.int p1, .int 6]) (rest := []) C h (fun _ _ e => c_Table_get 4 (by decide) e hφ2) tw_787 kv_X9_get (cl_T 4 (by decide)) rfl ⟨Nat.le_of_ble_eq_true rfl, Nat.le_of_ble_eq_true rfl⟩ rfl dX3_keepRule_7 rfl (Nat.le_of_ble_eq_true rfl) hφ hφ2 (fun r7 σ7 ta h hφ hφ2 => ?_)
  refine nw_istore_n (lv' := [(3, .int r7), (0, .ref (ad 3)), (1, .int p0), (2, .int p1)]) C dX3_keepRule_10 rfl (by decide) rfl ?_
  refine nw_aload_n C dX3_keepRule_11 rfl 1 rfl ?_
  refine nw_get (v := .ref (ad 15)) C in_X3 3 cl_Laws rfl 1 (by decide) tw_278 rfl rfl dX3_keepRule_12 ?_
  refine nw_iload_n C dX3_keepRule_15 rfl 3 rfl ?_
  refine nw_iconst (v := 2) C dX3_keepRule_16 (by decide) ?_
  refine nc_callVI (q0 := 15) (As := [.int p1, .int 2]) (rest := []) C h (fun _ _ e => c_Table_get 4 (by decide) e hφ2) tw_787 kv_X9_get (cl_T 4 (by decide)) rfl ⟨Nat.le_of_ble_eq_true rfl, Nat.le_of_ble_eq_true rfl⟩ rfl dX3_keepRule_17 rfl (Nat.le_of_ble_eq_true rfl) hφ hφ2 (fun r17 σ17 ta h hφ hφ2 => ?_)
  refine nw_tsCase (tgt := 52) C 4 dX3_keepRule_20 (by decide) (by decide) rfl (by decide) h (fun _ h => ?_) (fun hc4 h => ?_)
  · refine nw_aload_n C dX3_keepRule_52 rfl 1 rfl ?_
    refine nw_get (v := .ref (ad 14)) C in_X3 3 cl_Laws rfl 0 (by decide) tw_275 rfl rfl dX3_keepRule_53 ?_
    refine nw_iload_n C dX3_keepRule_56 rfl 2 rfl ?_
    refine nw_iconst (v := 1) C dX3_keepRule_57 (by decide) ?_
    refine nw_aload_n C dX3_keepRule_58 rfl 1 rfl ?_
    refine nw_get (v := .ref (ad 14)) C in_X3 3 cl_Laws rfl 0 (by decide) tw_275 rfl rfl dX3_keepRule_59 ?_
    refine nw_iload_n C dX3_keepRule_62 rfl 2 rfl ?_
    refine nw_iconst (v := 1) C dX3_keepRule_63 (by decide) ?_
    refine nc_callVI (q0 := 14) (As := [.int p0, .int 1]) (rest := [.int 1, .int p0, .ref (ad 14)]) C h (fun _ _ e => c_Table_get 3 (by decide) e hφ2) tw_787 kv_X9_get (cl_T 3 (by decide)) rfl ⟨Nat.le_of_ble_eq_true rfl, Nat.le_of_ble_eq_true rfl⟩ rfl dX3_keepRule_64 rfl (Nat.le_of_ble_eq_true rfl) hφ hφ2 (fun r64 σ64 ta h hφ hφ2 => ?_)
    refine nw_iconst (v := 1) C dX3_keepRule_67 (by decide) ?_
    refine nw_iload_n C dX3_keepRule_68 rfl 0 rfl ?_
    refine nw_ishl C dX3_keepRule_69 ?_
    refine nw_ior C dX3_keepRule_70 ?_
    refine nc_callVV (q0 := 14) (As := [.int p0, .int 1, .int (r64 ||| ((1 : Int32) <<< (r7 &&& 31)))]) (rest := []) C h (fun _ _ e => c_Table_put 3 (by decide) e hφ2) tw_1230 kv_X9_put (cl_T 3 (by decide)) rfl ⟨Nat.le_of_ble_eq_true rfl, Nat.le_of_ble_eq_true rfl⟩ rfl dX3_keepRule_71 rfl (Nat.le_of_ble_eq_true rfl) hφ hφ2 (fun r71 σ71 ta h hφ hφ2 => ?_)
    refine nw_goto (tgt := 147) C dX3_keepRule_74 (by decide) ?_
    exact nc_vret C hr dX3_keepRule_147 hφ hφ2 h
  · refine nw_tsCase (tgt := 133) C 5 dX3_keepRule_20 (by decide) (by decide) rfl (by decide) h (fun _ h => ?_) (fun hc5 h => ?_)
    · refine nw_aload_n C dX3_keepRule_133 rfl 1 rfl ?_
      refine nw_get (v := .ref (ad 14)) C in_X3 3 cl_Laws rfl 0 (by decide) tw_275 rfl rfl dX3_keepRule_134 ?_
      refine nw_iload_n C dX3_keepRule_137 rfl 2 rfl ?_
      refine nw_bipush (v := 6) C dX3_keepRule_138 (by decide) ?_
      refine nw_iload_n C dX3_keepRule_140 rfl 0 rfl ?_
      refine nc_callVV (q0 := 14) (As := [.int p0, .int 6, .int r7]) (rest := []) C h (fun _ _ e => c_Table_put 3 (by decide) e hφ2) tw_1230 kv_X9_put (cl_T 3 (by decide)) rfl ⟨Nat.le_of_ble_eq_true rfl, Nat.le_of_ble_eq_true rfl⟩ rfl dX3_keepRule_141 rfl (Nat.le_of_ble_eq_true rfl) hφ hφ2 (fun r141 σ141 ta h hφ hφ2 => ?_)
      refine nw_goto (tgt := 147) C dX3_keepRule_144 (by decide) ?_
      exact nc_vret C hr dX3_keepRule_147 hφ hφ2 h
    · refine nw_tsCase (tgt := 77) C 6 dX3_keepRule_20 (by decide) (by decide) rfl (by decide) h (fun _ h => ?_) (fun hc6 h => ?_)
      · refine nw_iconst (v := 0) C dX3_keepRule_77 (by decide) ?_
        refine nw_istore (lv' := [(4, .int 0), (3, .int r7), (0, .ref (ad 3)), (1, .int p0), (2, .int p1)]) C dX3_keepRule_78 (by decide) rfl ?_
        exact nw_lv (lv' := [(0, .ref (ad 3)), (1, .int p0), (2, .int p1), (4, .int 0)]) [2, 3, 4, 0] rfl (w_Laws_keepRule_80 C hr p0 p1 FU 0 _ _ hφ hφ2 h)
      · refine nw_tsCase (tgt := 120) C 7 dX3_keepRule_20 (by decide) (by decide) rfl (by decide) h (fun _ h => ?_) (fun hc7 h => ?_)
        · refine nw_aload_n C dX3_keepRule_120 rfl 1 rfl ?_
          refine nw_get (v := .ref (ad 14)) C in_X3 3 cl_Laws rfl 0 (by decide) tw_275 rfl rfl dX3_keepRule_121 ?_
          refine nw_iload_n C dX3_keepRule_124 rfl 2 rfl ?_
          refine nw_iconst (v := 5) C dX3_keepRule_125 (by decide) ?_
          refine nw_iload_n C dX3_keepRule_126 rfl 0 rfl ?_
          refine nc_callVV (q0 := 14) (As := [.int p0, .int 5, .int r7]) (rest := []) C h (fun _ _ e => c_Table_put 3 (by decide) e hφ2) tw_1230 kv_X9_put (cl_T 3 (by decide)) rfl ⟨Nat.le_of_ble_eq_true rfl, Nat.le_of_ble_eq_true rfl⟩ rfl dX3_keepRule_127 rfl (Nat.le_of_ble_eq_true rfl) hφ hφ2 (fun r127 σ127 ta h hφ hφ2 => ?_)
          refine nw_goto (tgt := 147) C dX3_keepRule_130 (by decide) ?_
          exact nc_vret C hr dX3_keepRule_147 hφ hφ2 h
        · refine nw_tsOut (tgt := 147) C dX3_keepRule_20 (by have q4 := lv_neT hc4 (a := 4) (by decide); have q5 := lv_neT hc5 (a := 5) (by decide); have q6 := lv_neT hc6 (a := 6) (by decide); have q7 := lv_neT hc7 (a := 7) (by decide); omega) (by decide) ?_
          exact nc_vret C hr dX3_keepRule_147 hφ hφ2 h
theorem dX3_wordNumber_0 : decode cX3_wordNumber 0 = .ok (.aload_n 0, 1) := by decide +kernel
theorem dX3_wordNumber_1 : decode cX3_wordNumber 1 = .ok (.getfield 43, 3) := by decide +kernel
theorem dX3_wordNumber_4 : decode cX3_wordNumber 4 = .ok (.iconst (-1), 1) := by decide +kernel
theorem dX3_wordNumber_5 : decode cX3_wordNumber 5 = .ok (.if_icmp .ne 7, 3) := by decide +kernel
theorem dX3_wordNumber_8 : decode cX3_wordNumber 8 = .ok (.iconst (-1), 1) := by decide +kernel
theorem dX3_wordNumber_9 : decode cX3_wordNumber 9 = .ok (.goto 31, 3) := by decide +kernel
theorem dX3_wordNumber_12 : decode cX3_wordNumber 12 = .ok (.bipush 100, 2) := by decide +kernel
theorem dX3_wordNumber_14 : decode cX3_wordNumber 14 = .ok (.aload_n 0, 1) := by decide +kernel
theorem dX3_wordNumber_15 : decode cX3_wordNumber 15 = .ok (.getfield 22, 3) := by decide +kernel
theorem dX3_wordNumber_18 : decode cX3_wordNumber 18 = .ok (.aload_n 0, 1) := by decide +kernel
theorem dX3_wordNumber_19 : decode cX3_wordNumber 19 = .ok (.getfield 43, 3) := by decide +kernel
theorem dX3_wordNumber_22 : decode cX3_wordNumber 22 = .ok (.iconst 0, 1) := by decide +kernel
theorem dX3_wordNumber_23 : decode cX3_wordNumber 23 = .ok (.invokevirtual 78, 3) := by decide +kernel
theorem dX3_wordNumber_26 : decode cX3_wordNumber 26 = .ok (.imul, 1) := by decide +kernel
theorem dX3_wordNumber_27 : decode cX3_wordNumber 27 = .ok (.aload_n 0, 1) := by decide +kernel
theorem dX3_wordNumber_28 : decode cX3_wordNumber 28 = .ok (.getfield 22, 3) := by decide +kernel
theorem dX3_wordNumber_31 : decode cX3_wordNumber 31 = .ok (.aload_n 0, 1) := by decide +kernel
theorem dX3_wordNumber_32 : decode cX3_wordNumber 32 = .ok (.getfield 43, 3) := by decide +kernel
theorem dX3_wordNumber_35 : decode cX3_wordNumber 35 = .ok (.iconst 1, 1) := by decide +kernel
theorem dX3_wordNumber_36 : decode cX3_wordNumber 36 = .ok (.invokevirtual 78, 3) := by decide +kernel
theorem dX3_wordNumber_39 : decode cX3_wordNumber 39 = .ok (.iadd, 1) := by decide +kernel
theorem dX3_wordNumber_40 : decode cX3_wordNumber 40 = .ok (.ireturn, 1) := by decide +kernel
def f_Laws_wordNumber  (σ : CS) : Option (Int32 × CS) := if (σ.1 53) = (-1) then some ((-1), σ) else bnd (f_Table_get 4 (σ.1 53) 0 σ) (fun r23 σ23 => bnd (f_Table_get 4 (σ23.1 53) 1 σ23) (fun r36 σ36 => some (((100 * r23) + r36), σ36)))
set_option maxHeartbeats 4000000 in
set_option maxRecDepth 100000 in
theorem c_Laws_wordNumber {l : Launch} {g : EG} {ad ta : Nat → Nat} {Rr : va_W} {σ σ' : CS} {r : Int32}   (h : f_Laws_wordNumber σ = some (r, σ')) (hφ2 : ph σ.2.2 ≤ BB) : CtI l g yX3_wordNumber (.code yX3_wordNumber cX3_wordNumber 1 (some .int)) 1 23 ad ta Rr σ [.ref (ad 3)] r σ' := by
  refine Ct.of rfl (by decide) (Nat.le_of_ble_eq_true rfl) ?_
  intro p e s m args below meth c A C hr
  have hφ : ph σ.2.2 ≤ ph σ.2.2 := Nat.le_refl _
  refine nw_zero (ph σ.2.2) ?_
  show NI g p l e s m args below meth c A 1 23 1 ad Rr (ph σ.2.2) (r, σ') ta σ [(0, .ref (ad 3))] 0 []
  unfold f_Laws_wordNumber at h
  refine nw_aload_n C dX3_wordNumber_0 rfl 0 rfl ?_
  refine nw_get (v := .int (σ.1 53)) C in_X3 3 cl_Laws rfl 6 (by decide) tw_284 rfl rfl dX3_wordNumber_1 ?_
  refine nw_iconst (v := (-1)) C dX3_wordNumber_4 (by decide) ?_
  refine nw_icmp_ne (tgt := 12) C dX3_wordNumber_5 (by decide) h (fun _ h => ?_) (fun _ h => ?_)
  · refine nw_iconst (v := (-1)) C dX3_wordNumber_8 (by decide) ?_
    refine nw_goto (tgt := 40) C dX3_wordNumber_9 (by decide) ?_
    exact nc_iret C hr dX3_wordNumber_40 hφ hφ2 h
  · refine nw_bipush (v := 100) C dX3_wordNumber_12 (by decide) ?_
    refine nw_aload_n C dX3_wordNumber_14 rfl 0 rfl ?_
    refine nw_get (v := .ref (ad 15)) C in_X3 3 cl_Laws rfl 1 (by decide) tw_278 rfl rfl dX3_wordNumber_15 ?_
    refine nw_aload_n C dX3_wordNumber_18 rfl 0 rfl ?_
    refine nw_get (v := .int (σ.1 53)) C in_X3 3 cl_Laws rfl 6 (by decide) tw_284 rfl rfl dX3_wordNumber_19 ?_
    refine nw_iconst (v := 0) C dX3_wordNumber_22 (by decide) ?_
    refine nc_callVI (q0 := 15) (As := [.int (σ.1 53), .int 0]) (rest := [.int 100]) C h (fun _ _ e => c_Table_get 4 (by decide) e hφ2) tw_787 kv_X9_get (cl_T 4 (by decide)) rfl ⟨Nat.le_of_ble_eq_true rfl, Nat.le_of_ble_eq_true rfl⟩ rfl dX3_wordNumber_23 rfl (Nat.le_of_ble_eq_true rfl) hφ hφ2 (fun r23 σ23 ta h hφ hφ2 => ?_)
    refine nw_imul C dX3_wordNumber_26 ?_
    refine nw_aload_n C dX3_wordNumber_27 rfl 0 rfl ?_
    refine nw_get (v := .ref (ad 15)) C in_X3 3 cl_Laws rfl 1 (by decide) tw_278 rfl rfl dX3_wordNumber_28 ?_
    refine nw_aload_n C dX3_wordNumber_31 rfl 0 rfl ?_
    refine nw_get (v := .int (σ23.1 53)) C in_X3 3 cl_Laws rfl 6 (by decide) tw_284 rfl rfl dX3_wordNumber_32 ?_
    refine nw_iconst (v := 1) C dX3_wordNumber_35 (by decide) ?_
    refine nc_callVI (q0 := 15) (As := [.int (σ23.1 53), .int 1]) (rest := [.int (100 * r23)]) C h (fun _ _ e => c_Table_get 4 (by decide) e hφ2) tw_787 kv_X9_get (cl_T 4 (by decide)) rfl ⟨Nat.le_of_ble_eq_true rfl, Nat.le_of_ble_eq_true rfl⟩ rfl dX3_wordNumber_36 rfl (Nat.le_of_ble_eq_true rfl) hφ hφ2 (fun r36 σ36 ta h hφ hφ2 => ?_)
    refine nw_iadd C dX3_wordNumber_39 ?_
    exact nc_iret C hr dX3_wordNumber_40 hφ hφ2 h
theorem dX4_setLodge_0 : decode cX4_setLodge 0 = .ok (.aload_n 0, 1) := by decide +kernel
theorem dX4_setLodge_1 : decode cX4_setLodge 1 = .ok (.getfield 11, 3) := by decide +kernel
theorem dX4_setLodge_4 : decode cX4_setLodge 4 = .ok (.iload_n 1, 1) := by decide +kernel
theorem dX4_setLodge_5 : decode cX4_setLodge 5 = .ok (.iconst 3, 1) := by decide +kernel
theorem dX4_setLodge_6 : decode cX4_setLodge 6 = .ok (.iload_n 2, 1) := by decide +kernel
theorem dX4_setLodge_7 : decode cX4_setLodge 7 = .ok (.invokevirtual 46, 3) := by decide +kernel
theorem dX4_setLodge_10 : decode cX4_setLodge 10 = .ok (.aload_n 0, 1) := by decide +kernel
theorem dX4_setLodge_11 : decode cX4_setLodge 11 = .ok (.getfield 11, 3) := by decide +kernel
theorem dX4_setLodge_14 : decode cX4_setLodge 14 = .ok (.iload_n 1, 1) := by decide +kernel
theorem dX4_setLodge_15 : decode cX4_setLodge 15 = .ok (.iconst 4, 1) := by decide +kernel
theorem dX4_setLodge_16 : decode cX4_setLodge 16 = .ok (.iload_n 3, 1) := by decide +kernel
theorem dX4_setLodge_17 : decode cX4_setLodge 17 = .ok (.invokevirtual 46, 3) := by decide +kernel
theorem dX4_setLodge_20 : decode cX4_setLodge 20 = .ok (.aload_n 0, 1) := by decide +kernel
theorem dX4_setLodge_21 : decode cX4_setLodge 21 = .ok (.getfield 11, 3) := by decide +kernel
theorem dX4_setLodge_24 : decode cX4_setLodge 24 = .ok (.iload_n 1, 1) := by decide +kernel
theorem dX4_setLodge_25 : decode cX4_setLodge 25 = .ok (.iconst 5, 1) := by decide +kernel
theorem dX4_setLodge_26 : decode cX4_setLodge 26 = .ok (.iload 4, 2) := by decide +kernel
theorem dX4_setLodge_28 : decode cX4_setLodge 28 = .ok (.invokevirtual 46, 3) := by decide +kernel
theorem dX4_setLodge_31 : decode cX4_setLodge 31 = .ok (.aload_n 0, 1) := by decide +kernel
theorem dX4_setLodge_32 : decode cX4_setLodge 32 = .ok (.iconst 1, 1) := by decide +kernel
theorem dX4_setLodge_33 : decode cX4_setLodge 33 = .ok (.putfield 40, 3) := by decide +kernel
theorem dX4_setLodge_36 : decode cX4_setLodge 36 = .ok (.return_, 1) := by decide +kernel
def f_Patrols_setLodge (p0 : Int32) (p1 : Int32) (p2 : Int32) (p3 : Int32) (σ : CS) : Option (Int32 × CS) := bnd (f_Table_put 9 p0 3 p1 σ) (fun _ σ7 => bnd (f_Table_put 9 p0 4 p2 σ7) (fun _ σ17 => bnd (f_Table_put 9 p0 5 p3 σ17) (fun _ σ28 => some (0, (sF σ28 68 1)))))
set_option maxHeartbeats 4000000 in
set_option maxRecDepth 100000 in
theorem c_Patrols_setLodge {l : Launch} {g : EG} {ad ta : Nat → Nat} {Rr : va_W} {σ σ' : CS} {r : Int32} {p0 : Int32} {p1 : Int32} {p2 : Int32} {p3 : Int32}  (h : f_Patrols_setLodge p0 p1 p2 p3 σ = some (r, σ')) (hφ2 : ph σ.2.2 ≤ BB) : CtV l g yX4_setLodge (.code yX4_setLodge cX4_setLodge 5 none) 1 24 ad ta Rr σ [.ref (ad 9), .int p0, .int p1, .int p2, .int p3] r σ' := by
  refine Ct.of rfl (by decide) (Nat.le_of_ble_eq_true rfl) ?_
  intro p e s m args below meth c A C hr
  have hφ : ph σ.2.2 ≤ ph σ.2.2 := Nat.le_refl _
  refine nw_zero (ph σ.2.2) ?_
  show NV g p l e s m args below meth c A 1 24 5 ad Rr (ph σ.2.2) (r, σ') ta σ [(0, .ref (ad 9)), (1, .int p0), (2, .int p1), (3, .int p2), (4, .int p3)] 0 []
  unfold f_Patrols_setLodge at h
  refine nw_aload_n C dX4_setLodge_0 rfl 0 rfl ?_
  refine nw_get (v := .ref (ad 20)) C in_X4 9 cl_Patrols rfl 0 (by decide) tw_433 rfl rfl dX4_setLodge_1 ?_
  refine nw_iload_n C dX4_setLodge_4 rfl 1 rfl ?_
  refine nw_iconst (v := 3) C dX4_setLodge_5 (by decide) ?_
  refine nw_iload_n C dX4_setLodge_6 rfl 2 rfl ?_
  refine nc_callVV (q0 := 20) (As := [.int p0, .int 3, .int p1]) (rest := []) C h (fun _ _ e => c_Table_put 9 (by decide) e hφ2) tw_1482 kv_X9_put (cl_T 9 (by decide)) rfl ⟨Nat.le_of_ble_eq_true rfl, Nat.le_of_ble_eq_true rfl⟩ rfl dX4_setLodge_7 rfl (Nat.le_of_ble_eq_true rfl) hφ hφ2 (fun r7 σ7 ta h hφ hφ2 => ?_)
  refine nw_aload_n C dX4_setLodge_10 rfl 0 rfl ?_
  refine nw_get (v := .ref (ad 20)) C in_X4 9 cl_Patrols rfl 0 (by decide) tw_433 rfl rfl dX4_setLodge_11 ?_
  refine nw_iload_n C dX4_setLodge_14 rfl 1 rfl ?_
  refine nw_iconst (v := 4) C dX4_setLodge_15 (by decide) ?_
  refine nw_iload_n C dX4_setLodge_16 rfl 3 rfl ?_
  refine nc_callVV (q0 := 20) (As := [.int p0, .int 4, .int p2]) (rest := []) C h (fun _ _ e => c_Table_put 9 (by decide) e hφ2) tw_1482 kv_X9_put (cl_T 9 (by decide)) rfl ⟨Nat.le_of_ble_eq_true rfl, Nat.le_of_ble_eq_true rfl⟩ rfl dX4_setLodge_17 rfl (Nat.le_of_ble_eq_true rfl) hφ hφ2 (fun r17 σ17 ta h hφ hφ2 => ?_)
  refine nw_aload_n C dX4_setLodge_20 rfl 0 rfl ?_
  refine nw_get (v := .ref (ad 20)) C in_X4 9 cl_Patrols rfl 0 (by decide) tw_433 rfl rfl dX4_setLodge_21 ?_
  refine nw_iload_n C dX4_setLodge_24 rfl 1 rfl ?_
  refine nw_iconst (v := 5) C dX4_setLodge_25 (by decide) ?_
  refine nw_iload C dX4_setLodge_26 4 rfl ?_
  refine nc_callVV (q0 := 20) (As := [.int p0, .int 5, .int p3]) (rest := []) C h (fun _ _ e => c_Table_put 9 (by decide) e hφ2) tw_1482 kv_X9_put (cl_T 9 (by decide)) rfl ⟨Nat.le_of_ble_eq_true rfl, Nat.le_of_ble_eq_true rfl⟩ rfl dX4_setLodge_28 rfl (Nat.le_of_ble_eq_true rfl) hφ hφ2 (fun r28 σ28 ta h hφ hφ2 => ?_)
  refine nw_aload_n C dX4_setLodge_31 rfl 0 rfl ?_
  refine nw_iconst (v := 1) C dX4_setLodge_32 (by decide) ?_
  refine nw_put (ty := .boolean) C in_X4 9 cl_Patrols rfl 8 (by decide) tyX4 tyX4_ok nmX4 tw_443 rfl rfl (by decide +kernel) (nar_b (Or.inr rfl)) (fit_b (Or.inr rfl)) (Nat.le_of_ble_eq_true rfl) dX4_setLodge_33 cs_Patrols_stale ?_
  exact nc_vret C hr dX4_setLodge_36 hφ hφ2 h
theorem dX4_addSpot_0 : decode cX4_addSpot 0 = .ok (.aload_n 0, 1) := by decide +kernel
theorem dX4_addSpot_1 : decode cX4_addSpot 1 = .ok (.getfield 20, 3) := by decide +kernel
theorem dX4_addSpot_4 : decode cX4_addSpot 4 = .ok (.invokevirtual 50, 3) := by decide +kernel
theorem dX4_addSpot_7 : decode cX4_addSpot 7 = .ok (.istore 4, 2) := by decide +kernel
theorem dX4_addSpot_9 : decode cX4_addSpot 9 = .ok (.aload_n 0, 1) := by decide +kernel
theorem dX4_addSpot_10 : decode cX4_addSpot 10 = .ok (.getfield 20, 3) := by decide +kernel
theorem dX4_addSpot_13 : decode cX4_addSpot 13 = .ok (.iload 4, 2) := by decide +kernel
theorem dX4_addSpot_15 : decode cX4_addSpot 15 = .ok (.iconst 0, 1) := by decide +kernel
theorem dX4_addSpot_16 : decode cX4_addSpot 16 = .ok (.iload_n 1, 1) := by decide +kernel
theorem dX4_addSpot_17 : decode cX4_addSpot 17 = .ok (.invokevirtual 46, 3) := by decide +kernel
theorem dX4_addSpot_20 : decode cX4_addSpot 20 = .ok (.aload_n 0, 1) := by decide +kernel
theorem dX4_addSpot_21 : decode cX4_addSpot 21 = .ok (.getfield 20, 3) := by decide +kernel
theorem dX4_addSpot_24 : decode cX4_addSpot 24 = .ok (.iload 4, 2) := by decide +kernel
theorem dX4_addSpot_26 : decode cX4_addSpot 26 = .ok (.iconst 1, 1) := by decide +kernel
theorem dX4_addSpot_27 : decode cX4_addSpot 27 = .ok (.iload_n 2, 1) := by decide +kernel
theorem dX4_addSpot_28 : decode cX4_addSpot 28 = .ok (.invokevirtual 46, 3) := by decide +kernel
theorem dX4_addSpot_31 : decode cX4_addSpot 31 = .ok (.aload_n 0, 1) := by decide +kernel
theorem dX4_addSpot_32 : decode cX4_addSpot 32 = .ok (.getfield 20, 3) := by decide +kernel
theorem dX4_addSpot_35 : decode cX4_addSpot 35 = .ok (.iload 4, 2) := by decide +kernel
theorem dX4_addSpot_37 : decode cX4_addSpot 37 = .ok (.iconst 2, 1) := by decide +kernel
theorem dX4_addSpot_38 : decode cX4_addSpot 38 = .ok (.iload_n 3, 1) := by decide +kernel
theorem dX4_addSpot_39 : decode cX4_addSpot 39 = .ok (.invokevirtual 46, 3) := by decide +kernel
theorem dX4_addSpot_42 : decode cX4_addSpot 42 = .ok (.aload_n 0, 1) := by decide +kernel
theorem dX4_addSpot_43 : decode cX4_addSpot 43 = .ok (.iconst 1, 1) := by decide +kernel
theorem dX4_addSpot_44 : decode cX4_addSpot 44 = .ok (.putfield 40, 3) := by decide +kernel
theorem dX4_addSpot_47 : decode cX4_addSpot 47 = .ok (.iload 4, 2) := by decide +kernel
theorem dX4_addSpot_49 : decode cX4_addSpot 49 = .ok (.ireturn, 1) := by decide +kernel
def f_Patrols_addSpot (p0 : Int32) (p1 : Int32) (p2 : Int32) (σ : CS) : Option (Int32 × CS) := bnd (f_Table_add 13 σ) (fun r4 σ4 => bnd (f_Table_put 13 r4 0 p0 σ4) (fun _ σ17 => bnd (f_Table_put 13 r4 1 p1 σ17) (fun _ σ28 => bnd (f_Table_put 13 r4 2 p2 σ28) (fun _ σ39 => some (r4, (sF σ39 68 1))))))
set_option maxHeartbeats 4000000 in
set_option maxRecDepth 100000 in
theorem c_Patrols_addSpot {l : Launch} {g : EG} {ad ta : Nat → Nat} {Rr : va_W} {σ σ' : CS} {r : Int32} {p0 : Int32} {p1 : Int32} {p2 : Int32}  (h : f_Patrols_addSpot p0 p1 p2 σ = some (r, σ')) (hφ2 : ph σ.2.2 ≤ BB) : CtI l g yX4_addSpot (.code yX4_addSpot cX4_addSpot 5 (some .int)) 5 222 ad ta Rr σ [.ref (ad 9), .int p0, .int p1, .int p2] r σ' := by
  refine Ct.of rfl (by decide) (Nat.le_of_ble_eq_true rfl) ?_
  intro p e s m args below meth c A C hr
  have hφ : ph σ.2.2 ≤ ph σ.2.2 := Nat.le_refl _
  refine nw_zero (ph σ.2.2) ?_
  show NI g p l e s m args below meth c A 5 222 5 ad Rr (ph σ.2.2) (r, σ') ta σ [(0, .ref (ad 9)), (1, .int p0), (2, .int p1), (3, .int p2)] 0 []
  unfold f_Patrols_addSpot at h
  refine nw_aload_n C dX4_addSpot_0 rfl 0 rfl ?_
  refine nw_get (v := .ref (ad 24)) C in_X4 9 cl_Patrols rfl 1 (by decide) tw_434 rfl rfl dX4_addSpot_1 ?_
  refine nc_callVI (q0 := 24) (As := []) (rest := []) C h (fun _ _ e => c_Table_add 13 (by decide) e hφ2) tw_1494 kv_X9_add (cl_T 13 (by decide)) rfl ⟨Nat.le_of_ble_eq_true rfl, Nat.le_of_ble_eq_true rfl⟩ rfl dX4_addSpot_4 rfl (Nat.le_of_ble_eq_true rfl) hφ hφ2 (fun r4 σ4 ta h hφ hφ2 => ?_)
  refine nw_istore (lv' := [(4, .int r4), (0, .ref (ad 9)), (1, .int p0), (2, .int p1), (3, .int p2)]) C dX4_addSpot_7 (by decide) rfl ?_
  refine nw_aload_n C dX4_addSpot_9 rfl 1 rfl ?_
  refine nw_get (v := .ref (ad 24)) C in_X4 9 cl_Patrols rfl 1 (by decide) tw_434 rfl rfl dX4_addSpot_10 ?_
  refine nw_iload C dX4_addSpot_13 0 rfl ?_
  refine nw_iconst (v := 0) C dX4_addSpot_15 (by decide) ?_
  refine nw_iload_n C dX4_addSpot_16 rfl 2 rfl ?_
  refine nc_callVV (q0 := 24) (As := [.int r4, .int 0, .int p0]) (rest := []) C h (fun _ _ e => c_Table_put 13 (by decide) e hφ2) tw_1482 kv_X9_put (cl_T 13 (by decide)) rfl ⟨Nat.le_of_ble_eq_true rfl, Nat.le_of_ble_eq_true rfl⟩ rfl dX4_addSpot_17 rfl (Nat.le_of_ble_eq_true rfl) hφ hφ2 (fun r17 σ17 ta h hφ hφ2 => ?_)
  refine nw_aload_n C dX4_addSpot_20 rfl 1 rfl ?_
  refine nw_get (v := .ref (ad 24)) C in_X4 9 cl_Patrols rfl 1 (by decide) tw_434 rfl rfl dX4_addSpot_21 ?_
  refine nw_iload C dX4_addSpot_24 0 rfl ?_
  refine nw_iconst (v := 1) C dX4_addSpot_26 (by decide) ?_
  refine nw_iload_n C dX4_addSpot_27 rfl 3 rfl ?_
  refine nc_callVV (q0 := 24) (As := [.int r4, .int 1, .int p1]) (rest := []) C h (fun _ _ e => c_Table_put 13 (by decide) e hφ2) tw_1482 kv_X9_put (cl_T 13 (by decide)) rfl ⟨Nat.le_of_ble_eq_true rfl, Nat.le_of_ble_eq_true rfl⟩ rfl dX4_addSpot_28 rfl (Nat.le_of_ble_eq_true rfl) hφ hφ2 (fun r28 σ28 ta h hφ hφ2 => ?_)
  refine nw_aload_n C dX4_addSpot_31 rfl 1 rfl ?_
  refine nw_get (v := .ref (ad 24)) C in_X4 9 cl_Patrols rfl 1 (by decide) tw_434 rfl rfl dX4_addSpot_32 ?_
  refine nw_iload C dX4_addSpot_35 0 rfl ?_
  refine nw_iconst (v := 2) C dX4_addSpot_37 (by decide) ?_
  refine nw_iload_n C dX4_addSpot_38 rfl 4 rfl ?_
  refine nc_callVV (q0 := 24) (As := [.int r4, .int 2, .int p2]) (rest := []) C h (fun _ _ e => c_Table_put 13 (by decide) e hφ2) tw_1482 kv_X9_put (cl_T 13 (by decide)) rfl ⟨Nat.le_of_ble_eq_true rfl, Nat.le_of_ble_eq_true rfl⟩ rfl dX4_addSpot_39 rfl (Nat.le_of_ble_eq_true rfl) hφ hφ2 (fun r39 σ39 ta h hφ hφ2 => ?_)
  refine nw_aload_n C dX4_addSpot_42 rfl 1 rfl ?_
  refine nw_iconst (v := 1) C dX4_addSpot_43 (by decide) ?_
  refine nw_put (ty := .boolean) C in_X4 9 cl_Patrols rfl 8 (by decide) tyX4 tyX4_ok nmX4 tw_443 rfl rfl (by decide +kernel) (nar_b (Or.inr rfl)) (fit_b (Or.inr rfl)) (Nat.le_of_ble_eq_true rfl) dX4_addSpot_44 cs_Patrols_stale ?_
  refine nw_iload C dX4_addSpot_47 0 rfl ?_
  exact nc_iret C hr dX4_addSpot_49 hφ hφ2 h
theorem dX4_wardenOf_0 : decode cX4_wardenOf 0 = .ok (.iload_n 1, 1) := by decide +kernel
theorem dX4_wardenOf_1 : decode cX4_wardenOf 1 = .ok (.ifCond .lt 21, 3) := by decide +kernel
theorem dX4_wardenOf_4 : decode cX4_wardenOf 4 = .ok (.iload_n 1, 1) := by decide +kernel
theorem dX4_wardenOf_5 : decode cX4_wardenOf 5 = .ok (.aload_n 0, 1) := by decide +kernel
theorem dX4_wardenOf_6 : decode cX4_wardenOf 6 = .ok (.getfield 34, 3) := by decide +kernel
theorem dX4_wardenOf_9 : decode cX4_wardenOf 9 = .ok (.arraylength, 1) := by decide +kernel
theorem dX4_wardenOf_10 : decode cX4_wardenOf 10 = .ok (.if_icmp .ge 12, 3) := by decide +kernel
theorem dX4_wardenOf_13 : decode cX4_wardenOf 13 = .ok (.aload_n 0, 1) := by decide +kernel
theorem dX4_wardenOf_14 : decode cX4_wardenOf 14 = .ok (.getfield 34, 3) := by decide +kernel
theorem dX4_wardenOf_17 : decode cX4_wardenOf 17 = .ok (.iload_n 1, 1) := by decide +kernel
theorem dX4_wardenOf_18 : decode cX4_wardenOf 18 = .ok (.iaload, 1) := by decide +kernel
theorem dX4_wardenOf_19 : decode cX4_wardenOf 19 = .ok (.goto 4, 3) := by decide +kernel
theorem dX4_wardenOf_22 : decode cX4_wardenOf 22 = .ok (.iconst (-1), 1) := by decide +kernel
theorem dX4_wardenOf_23 : decode cX4_wardenOf 23 = .ok (.ireturn, 1) := by decide +kernel
def f_Patrols_wardenOf (p0 : Int32) (σ : CS) : Option (Int32 × CS) := if p0 < 0 then some ((-1), σ) else if 8 ≤ p0 then some ((-1), σ) else gix p0 8 (some ((rd σ 30 p0), σ))
set_option maxHeartbeats 4000000 in
set_option maxRecDepth 100000 in
theorem c_Patrols_wardenOf {l : Launch} {g : EG} {ad ta : Nat → Nat} {Rr : va_W} {σ σ' : CS} {r : Int32} {p0 : Int32}  (h : f_Patrols_wardenOf p0 σ = some (r, σ')) (hφ2 : ph σ.2.2 ≤ BB) : CtI l g yX4_wardenOf (.code yX4_wardenOf cX4_wardenOf 2 (some .int)) 0 0 ad ta Rr σ [.ref (ad 9), .int p0] r σ' := by
  refine Ct.of rfl (by decide) (Nat.le_of_ble_eq_true rfl) ?_
  intro p e s m args below meth c A C hr
  have hφ : ph σ.2.2 ≤ ph σ.2.2 := Nat.le_refl _
  refine nw_zero (ph σ.2.2) ?_
  show NI g p l e s m args below meth c A 0 0 2 ad Rr (ph σ.2.2) (r, σ') ta σ [(0, .ref (ad 9)), (1, .int p0)] 0 []
  unfold f_Patrols_wardenOf at h
  refine nw_iload_n C dX4_wardenOf_0 rfl 1 rfl ?_
  refine nw_if_lt (tgt := 22) C dX4_wardenOf_1 (by decide) h (fun _ h => ?_) (fun _ h => ?_)
  · refine nw_iconst (v := (-1)) C dX4_wardenOf_22 (by decide) ?_
    exact nc_iret C hr dX4_wardenOf_23 hφ hφ2 h
  · refine nw_iload_n C dX4_wardenOf_4 rfl 1 rfl ?_
    refine nw_aload_n C dX4_wardenOf_5 rfl 0 rfl ?_
    refine nw_get (v := .ref (ad 57)) C in_X4 9 cl_Patrols rfl 5 (by decide) tw_439 rfl rfl dX4_wardenOf_6 ?_
    refine nw_alenI C 57 (cl_I 30 rfl) dX4_wardenOf_9 ?_
    refine nw_st (st' := [.int 8, .int p0]) rfl ?_
    refine nw_icmp_ge (tgt := 22) C dX4_wardenOf_10 (by decide) h (fun _ h => ?_) (fun _ h => ?_)
    · refine nw_iconst (v := (-1)) C dX4_wardenOf_22 (by decide) ?_
      exact nc_iret C hr dX4_wardenOf_23 hφ hφ2 h
    · refine nw_aload_n C dX4_wardenOf_13 rfl 0 rfl ?_
      refine nw_get (v := .ref (ad 57)) C in_X4 9 cl_Patrols rfl 5 (by decide) tw_439 rfl rfl dX4_wardenOf_14 ?_
      refine nw_iload_n C dX4_wardenOf_17 rfl 1 rfl ?_
      refine nw_iald C 57 (cl_I 30 rfl) dX4_wardenOf_18 h (fun h => ?_)
      refine nw_goto (tgt := 23) C dX4_wardenOf_19 (by decide) ?_
      exact nc_iret C hr dX4_wardenOf_23 hφ hφ2 h
theorem dX5_addPerson_0 : decode cX5_addPerson 0 = .ok (.aload_n 0, 1) := by decide +kernel
theorem dX5_addPerson_1 : decode cX5_addPerson 1 = .ok (.getfield 14, 3) := by decide +kernel
theorem dX5_addPerson_4 : decode cX5_addPerson 4 = .ok (.invokevirtual 20, 3) := by decide +kernel
theorem dX5_addPerson_7 : decode cX5_addPerson 7 = .ok (.istore_n 3, 1) := by decide +kernel
theorem dX5_addPerson_8 : decode cX5_addPerson 8 = .ok (.aload_n 0, 1) := by decide +kernel
theorem dX5_addPerson_9 : decode cX5_addPerson 9 = .ok (.getfield 14, 3) := by decide +kernel
theorem dX5_addPerson_12 : decode cX5_addPerson 12 = .ok (.iload_n 3, 1) := by decide +kernel
theorem dX5_addPerson_13 : decode cX5_addPerson 13 = .ok (.iconst 0, 1) := by decide +kernel
theorem dX5_addPerson_14 : decode cX5_addPerson 14 = .ok (.iload_n 1, 1) := by decide +kernel
theorem dX5_addPerson_15 : decode cX5_addPerson 15 = .ok (.invokevirtual 24, 3) := by decide +kernel
theorem dX5_addPerson_18 : decode cX5_addPerson 18 = .ok (.aload_n 0, 1) := by decide +kernel
theorem dX5_addPerson_19 : decode cX5_addPerson 19 = .ok (.getfield 14, 3) := by decide +kernel
theorem dX5_addPerson_22 : decode cX5_addPerson 22 = .ok (.iload_n 3, 1) := by decide +kernel
theorem dX5_addPerson_23 : decode cX5_addPerson 23 = .ok (.iconst 1, 1) := by decide +kernel
theorem dX5_addPerson_24 : decode cX5_addPerson 24 = .ok (.iload_n 2, 1) := by decide +kernel
theorem dX5_addPerson_25 : decode cX5_addPerson 25 = .ok (.invokevirtual 24, 3) := by decide +kernel
theorem dX5_addPerson_28 : decode cX5_addPerson 28 = .ok (.iload_n 3, 1) := by decide +kernel
theorem dX5_addPerson_29 : decode cX5_addPerson 29 = .ok (.ireturn, 1) := by decide +kernel
def f_People_addPerson (p0 : Int32) (p1 : Int32) (σ : CS) : Option (Int32 × CS) := bnd (f_Table_add 6 σ) (fun r4 σ4 => bnd (f_Table_put 6 r4 0 p0 σ4) (fun _ σ15 => bnd (f_Table_put 6 r4 1 p1 σ15) (fun _ σ25 => some (r4, σ25))))
set_option maxHeartbeats 4000000 in
set_option maxRecDepth 100000 in
theorem c_People_addPerson {l : Launch} {g : EG} {ad ta : Nat → Nat} {Rr : va_W} {σ σ' : CS} {r : Int32} {p0 : Int32} {p1 : Int32}  (h : f_People_addPerson p0 p1 σ = some (r, σ')) (hφ2 : ph σ.2.2 ≤ BB) : CtI l g yX5_addPerson (.code yX5_addPerson cX5_addPerson 4 (some .int)) 5 222 ad ta Rr σ [.ref (ad 5), .int p0, .int p1] r σ' := by
  refine Ct.of rfl (by decide) (Nat.le_of_ble_eq_true rfl) ?_
  intro p e s m args below meth c A C hr
  have hφ : ph σ.2.2 ≤ ph σ.2.2 := Nat.le_refl _
  refine nw_zero (ph σ.2.2) ?_
  show NI g p l e s m args below meth c A 5 222 4 ad Rr (ph σ.2.2) (r, σ') ta σ [(0, .ref (ad 5)), (1, .int p0), (2, .int p1)] 0 []
  unfold f_People_addPerson at h
  refine nw_aload_n C dX5_addPerson_0 rfl 0 rfl ?_
  refine nw_get (v := .ref (ad 17)) C in_X5 5 cl_People rfl 0 (by decide) tw_311 rfl rfl dX5_addPerson_1 ?_
  refine nc_callVI (q0 := 17) (As := []) (rest := []) C h (fun _ _ e => c_Table_add 6 (by decide) e hφ2) tw_1263 kv_X9_add (cl_T 6 (by decide)) rfl ⟨Nat.le_of_ble_eq_true rfl, Nat.le_of_ble_eq_true rfl⟩ rfl dX5_addPerson_4 rfl (Nat.le_of_ble_eq_true rfl) hφ hφ2 (fun r4 σ4 ta h hφ hφ2 => ?_)
  refine nw_istore_n (lv' := [(3, .int r4), (0, .ref (ad 5)), (1, .int p0), (2, .int p1)]) C dX5_addPerson_7 rfl (by decide) rfl ?_
  refine nw_aload_n C dX5_addPerson_8 rfl 1 rfl ?_
  refine nw_get (v := .ref (ad 17)) C in_X5 5 cl_People rfl 0 (by decide) tw_311 rfl rfl dX5_addPerson_9 ?_
  refine nw_iload_n C dX5_addPerson_12 rfl 0 rfl ?_
  refine nw_iconst (v := 0) C dX5_addPerson_13 (by decide) ?_
  refine nw_iload_n C dX5_addPerson_14 rfl 2 rfl ?_
  refine nc_callVV (q0 := 17) (As := [.int r4, .int 0, .int p0]) (rest := []) C h (fun _ _ e => c_Table_put 6 (by decide) e hφ2) tw_904 kv_X9_put (cl_T 6 (by decide)) rfl ⟨Nat.le_of_ble_eq_true rfl, Nat.le_of_ble_eq_true rfl⟩ rfl dX5_addPerson_15 rfl (Nat.le_of_ble_eq_true rfl) hφ hφ2 (fun r15 σ15 ta h hφ hφ2 => ?_)
  refine nw_aload_n C dX5_addPerson_18 rfl 1 rfl ?_
  refine nw_get (v := .ref (ad 17)) C in_X5 5 cl_People rfl 0 (by decide) tw_311 rfl rfl dX5_addPerson_19 ?_
  refine nw_iload_n C dX5_addPerson_22 rfl 0 rfl ?_
  refine nw_iconst (v := 1) C dX5_addPerson_23 (by decide) ?_
  refine nw_iload_n C dX5_addPerson_24 rfl 3 rfl ?_
  refine nc_callVV (q0 := 17) (As := [.int r4, .int 1, .int p1]) (rest := []) C h (fun _ _ e => c_Table_put 6 (by decide) e hφ2) tw_904 kv_X9_put (cl_T 6 (by decide)) rfl ⟨Nat.le_of_ble_eq_true rfl, Nat.le_of_ble_eq_true rfl⟩ rfl dX5_addPerson_25 rfl (Nat.le_of_ble_eq_true rfl) hφ hφ2 (fun r25 σ25 ta h hφ hφ2 => ?_)
  refine nw_iload_n C dX5_addPerson_28 rfl 0 rfl ?_
  exact nc_iret C hr dX5_addPerson_29 hφ hφ2 h
theorem dX6_skipBlanks_0 : decode cX6_skipBlanks 0 = .ok (.aload_n 0, 1) := by decide +kernel
theorem dX6_skipBlanks_1 : decode cX6_skipBlanks 1 = .ok (.getfield 31, 3) := by decide +kernel
theorem dX6_skipBlanks_4 : decode cX6_skipBlanks 4 = .ok (.istore_n 1, 1) := by decide +kernel
theorem dX6_skipBlanks_5 : decode cX6_skipBlanks 5 = .ok (.iload_n 1, 1) := by decide +kernel
theorem dX6_skipBlanks_6 : decode cX6_skipBlanks 6 = .ok (.aload_n 0, 1) := by decide +kernel
theorem dX6_skipBlanks_7 : decode cX6_skipBlanks 7 = .ok (.getfield 27, 3) := by decide +kernel
theorem dX6_skipBlanks_10 : decode cX6_skipBlanks 10 = .ok (.if_icmp .ge 30, 3) := by decide +kernel
theorem dX6_skipBlanks_13 : decode cX6_skipBlanks 13 = .ok (.aload_n 0, 1) := by decide +kernel
theorem dX6_skipBlanks_14 : decode cX6_skipBlanks 14 = .ok (.getfield 9, 3) := by decide +kernel
theorem dX6_skipBlanks_17 : decode cX6_skipBlanks 17 = .ok (.iload_n 1, 1) := by decide +kernel
theorem dX6_skipBlanks_18 : decode cX6_skipBlanks 18 = .ok (.iconst 0, 1) := by decide +kernel
theorem dX6_skipBlanks_19 : decode cX6_skipBlanks 19 = .ok (.invokevirtual 126, 3) := by decide +kernel
theorem dX6_skipBlanks_22 : decode cX6_skipBlanks 22 = .ok (.bipush 32, 2) := by decide +kernel
theorem dX6_skipBlanks_24 : decode cX6_skipBlanks 24 = .ok (.if_icmp .ne 16, 3) := by decide +kernel
theorem dX6_skipBlanks_27 : decode cX6_skipBlanks 27 = .ok (.aload_n 0, 1) := by decide +kernel
theorem dX6_skipBlanks_28 : decode cX6_skipBlanks 28 = .ok (.iload_n 1, 1) := by decide +kernel
theorem dX6_skipBlanks_29 : decode cX6_skipBlanks 29 = .ok (.iconst 1, 1) := by decide +kernel
theorem dX6_skipBlanks_30 : decode cX6_skipBlanks 30 = .ok (.iadd, 1) := by decide +kernel
theorem dX6_skipBlanks_31 : decode cX6_skipBlanks 31 = .ok (.putfield 31, 3) := by decide +kernel
theorem dX6_skipBlanks_34 : decode cX6_skipBlanks 34 = .ok (.iinc 1 1, 3) := by decide +kernel
theorem dX6_skipBlanks_37 : decode cX6_skipBlanks 37 = .ok (.goto (-32), 3) := by decide +kernel
theorem dX6_skipBlanks_40 : decode cX6_skipBlanks 40 = .ok (.return_, 1) := by decide +kernel
def L_Reader_skipBlanks_5   : Nat → Int32 → CS → Option (Int32 × CS)
  | 0, _, _ => none
  | n + 1, x1, σ => if (σ.1 55) ≤ x1 then some (0, σ) else bnd (f_Table_get 0 x1 0 σ) (fun r19 σ19 => if r19 = 32 then (L_Reader_skipBlanks_5 n) (x1 + 1) (sF σ19 56 (x1 + 1)) else some (0, σ19))
set_option maxHeartbeats 4000000 in
set_option maxRecDepth 100000 in
theorem w_Reader_skipBlanks_5 (C : Cx g p s m args meth c A 2 cX6_skipBlanks yX6_skipBlanks.cls) (hr : meth.sig.returnType = none)  {res : Int32 × CS}    : ∀ (n : Nat) (x1 : Int32) (σ : CS) (ta : Nat → Nat), φ0 ≤ ph σ.2.2 → ph σ.2.2 ≤ BB → L_Reader_skipBlanks_5 n x1 σ = some res → NV g p l e s m args below meth c A 1 23 2 ad Rr φ0 res ta σ [(0, .ref (ad 4)), (1, .int x1)] 5 [] := by
  intro n
  induction n with
  | zero =>
    intro x1 σ ta hφ hφ2 h
    exact absurd (show (none : Option (Int32 × CS)) = some res from h) (by intro h9; cases h9)
  | succ n ih =>
    intro x1 σ ta hφ hφ2 h
    rw [L_Reader_skipBlanks_5] at h
    refine nw_iload_n C dX6_skipBlanks_5 rfl 1 rfl ?_
    refine nw_aload_n C dX6_skipBlanks_6 rfl 0 rfl ?_
    refine nw_get (v := .int (σ.1 55)) C in_X6 4 cl_Reader rfl 3 (by decide) tw_252 rfl rfl dX6_skipBlanks_7 ?_
    refine nw_icmp_ge (tgt := 40) C dX6_skipBlanks_10 (by decide) h (fun _ h => ?_) (fun _ h => ?_)
    · exact nc_vret C hr dX6_skipBlanks_40 hφ hφ2 h
    · refine nw_aload_n C dX6_skipBlanks_13 rfl 0 rfl ?_
      refine nw_get (v := .ref (ad 11)) C in_X6 4 cl_Reader rfl 0 (by decide) tw_249 rfl rfl dX6_skipBlanks_14 ?_
      refine nw_iload_n C dX6_skipBlanks_17 rfl 1 rfl ?_
      refine nw_iconst (v := 0) C dX6_skipBlanks_18 (by decide) ?_
      refine nc_callVI (q0 := 11) (As := [.int x1, .int 0]) (rest := []) C h (fun _ _ e => c_Table_get 0 (by decide) e hφ2) tw_1084 kv_X9_get (cl_T 0 (by decide)) rfl ⟨Nat.le_of_ble_eq_true rfl, Nat.le_of_ble_eq_true rfl⟩ rfl dX6_skipBlanks_19 rfl (Nat.le_of_ble_eq_true rfl) hφ hφ2 (fun r19 σ19 ta h hφ hφ2 => ?_)
      refine nw_bipush (v := 32) C dX6_skipBlanks_22 (by decide) ?_
      refine nw_icmp_ne (tgt := 40) C dX6_skipBlanks_24 (by decide) h (fun _ h => ?_) (fun _ h => ?_)
      · refine nw_aload_n C dX6_skipBlanks_27 rfl 0 rfl ?_
        refine nw_iload_n C dX6_skipBlanks_28 rfl 1 rfl ?_
        refine nw_iconst (v := 1) C dX6_skipBlanks_29 (by decide) ?_
        refine nw_iadd C dX6_skipBlanks_30 ?_
        refine nw_put (ty := .int) C in_X6 4 cl_Reader rfl 4 (by decide) tyX6 tyX6_ok nmX6 tw_253 rfl rfl (by decide +kernel) rfl rfl (Nat.le_of_ble_eq_true rfl) dX6_skipBlanks_31 cs_Reader_at ?_
        refine nw_iinc (lv' := [(1, .int (x1 + 1)), (0, .ref (ad 4))]) C (x1 + 1) dX6_skipBlanks_34 1 rfl rfl (by decide) rfl ?_
        refine nw_goto (tgt := 5) C dX6_skipBlanks_37 (by decide) ?_
        exact nw_lv (lv' := [(0, .ref (ad 4)), (1, .int (x1 + 1))]) [1, 0] rfl (ih (x1 + 1) _ _ hφ hφ2 h)
      · exact nc_vret C hr dX6_skipBlanks_40 hφ hφ2 h
def f_Reader_skipBlanks  (σ : CS) : Option (Int32 × CS) := L_Reader_skipBlanks_5 FU (σ.1 56) σ
set_option maxHeartbeats 4000000 in
set_option maxRecDepth 100000 in
theorem c_Reader_skipBlanks {l : Launch} {g : EG} {ad ta : Nat → Nat} {Rr : va_W} {σ σ' : CS} {r : Int32}   (h : f_Reader_skipBlanks σ = some (r, σ')) (hφ2 : ph σ.2.2 ≤ BB) : CtV l g yX6_skipBlanks (.code yX6_skipBlanks cX6_skipBlanks 2 none) 1 23 ad ta Rr σ [.ref (ad 4)] r σ' := by
  refine Ct.of rfl (by decide) (Nat.le_of_ble_eq_true rfl) ?_
  intro p e s m args below meth c A C hr
  have hφ : ph σ.2.2 ≤ ph σ.2.2 := Nat.le_refl _
  refine nw_zero (ph σ.2.2) ?_
  show NV g p l e s m args below meth c A 1 23 2 ad Rr (ph σ.2.2) (r, σ') ta σ [(0, .ref (ad 4))] 0 []
  unfold f_Reader_skipBlanks at h
  refine nw_aload_n C dX6_skipBlanks_0 rfl 0 rfl ?_
  refine nw_get (v := .int (σ.1 56)) C in_X6 4 cl_Reader rfl 4 (by decide) tw_253 rfl rfl dX6_skipBlanks_1 ?_
  refine nw_istore_n (lv' := [(1, .int (σ.1 56)), (0, .ref (ad 4))]) C dX6_skipBlanks_4 rfl (by decide) rfl ?_
  exact nw_lv (lv' := [(0, .ref (ad 4)), (1, .int (σ.1 56))]) [1, 0] rfl (w_Reader_skipBlanks_5 C hr FU (σ.1 56) _ _ hφ hφ2 h)
theorem dX6_isDigit_0 : decode cX6_isDigit 0 = .ok (.iload_n 0, 1) := by decide +kernel
theorem dX6_isDigit_1 : decode cX6_isDigit 1 = .ok (.bipush 48, 2) := by decide +kernel
theorem dX6_isDigit_3 : decode cX6_isDigit 3 = .ok (.bipush 57, 2) := by decide +kernel
theorem dX6_isDigit_5 : decode cX6_isDigit 5 = .ok (.invokestatic 144, 3) := by decide +kernel
theorem dX6_isDigit_8 : decode cX6_isDigit 8 = .ok (.ireturn, 1) := by decide +kernel
def f_Reader_isDigit (p0 : Int32) (σ : CS) : Option (Int32 × CS) := bnd (f_FC_within p0 48 57 σ) (fun r5 σ5 => grd (r5 = 0 ∨ r5 = 1) (some (r5, σ5)))
set_option maxHeartbeats 4000000 in
set_option maxRecDepth 100000 in
theorem c_Reader_isDigit {l : Launch} {g : EG} {ad ta : Nat → Nat} {Rr : va_W} {σ σ' : CS} {r : Int32} {p0 : Int32}  (h : f_Reader_isDigit p0 σ = some (r, σ')) (hφ2 : ph σ.2.2 ≤ BB) : CtI l g yX6_isDigit (.code yX6_isDigit cX6_isDigit 1 (some .boolean)) 1 22 ad ta Rr σ [.int p0] r σ' := by
  refine Ct.of rfl (by decide) (Nat.le_of_ble_eq_true rfl) ?_
  intro p e s m args below meth c A C hr
  have hφ : ph σ.2.2 ≤ ph σ.2.2 := Nat.le_refl _
  refine nw_zero (ph σ.2.2) ?_
  show NI g p l e s m args below meth c A 1 22 1 ad Rr (ph σ.2.2) (r, σ') ta σ [(0, .int p0)] 0 []
  unfold f_Reader_isDigit at h
  refine nw_iload_n C dX6_isDigit_0 rfl 0 rfl ?_
  refine nw_bipush (v := 48) C dX6_isDigit_1 (by decide) ?_
  refine nw_bipush (v := 57) C dX6_isDigit_3 (by decide) ?_
  refine nc_callSNI  (As := [.int p0, .int 48, .int 57]) (rest := []) C h (fun _ _ e => c_FC_within e hφ2) tw_1097 ks_X11_within ⟨Nat.le_of_ble_eq_true rfl, Nat.le_of_ble_eq_true rfl⟩ rfl dX6_isDigit_5 rfl (Nat.le_of_ble_eq_true rfl) hφ hφ2 (fun r5 σ5 ta h hφ hφ2 => ?_)
  exact nc_zretg C hr dX6_isDigit_8 hφ hφ2 h
theorem dX6_fail_0 : decode cX6_fail 0 = .ok (.aload_n 0, 1) := by decide +kernel
theorem dX6_fail_1 : decode cX6_fail 1 = .ok (.iload_n 1, 1) := by decide +kernel
theorem dX6_fail_2 : decode cX6_fail 2 = .ok (.putfield 37, 3) := by decide +kernel
theorem dX6_fail_5 : decode cX6_fail 5 = .ok (.aload_n 0, 1) := by decide +kernel
theorem dX6_fail_6 : decode cX6_fail 6 = .ok (.iload_n 2, 1) := by decide +kernel
theorem dX6_fail_7 : decode cX6_fail 7 = .ok (.putfield 40, 3) := by decide +kernel
theorem dX6_fail_10 : decode cX6_fail 10 = .ok (.iconst 0, 1) := by decide +kernel
theorem dX6_fail_11 : decode cX6_fail 11 = .ok (.ireturn, 1) := by decide +kernel
def f_Reader_fail (p0 : Int32) (p1 : Int32) (σ : CS) : Option (Int32 × CS) := some (0, (sF (sF σ 58 p0) 59 p1))
set_option maxHeartbeats 4000000 in
set_option maxRecDepth 100000 in
theorem c_Reader_fail {l : Launch} {g : EG} {ad ta : Nat → Nat} {Rr : va_W} {σ σ' : CS} {r : Int32} {p0 : Int32} {p1 : Int32}  (h : f_Reader_fail p0 p1 σ = some (r, σ')) (hφ2 : ph σ.2.2 ≤ BB) : CtI l g yX6_fail (.code yX6_fail cX6_fail 3 (some .boolean)) 0 0 ad ta Rr σ [.ref (ad 4), .int p0, .int p1] r σ' := by
  refine Ct.of rfl (by decide) (Nat.le_of_ble_eq_true rfl) ?_
  intro p e s m args below meth c A C hr
  have hφ : ph σ.2.2 ≤ ph σ.2.2 := Nat.le_refl _
  refine nw_zero (ph σ.2.2) ?_
  show NI g p l e s m args below meth c A 0 0 3 ad Rr (ph σ.2.2) (r, σ') ta σ [(0, .ref (ad 4)), (1, .int p0), (2, .int p1)] 0 []
  unfold f_Reader_fail at h
  refine nw_aload_n C dX6_fail_0 rfl 0 rfl ?_
  refine nw_iload_n C dX6_fail_1 rfl 1 rfl ?_
  refine nw_put (ty := .int) C in_X6 4 cl_Reader rfl 6 (by decide) tyX6 tyX6_ok nmX6 tw_255 rfl rfl (by decide +kernel) rfl rfl (Nat.le_of_ble_eq_true rfl) dX6_fail_2 cs_Reader_fault ?_
  refine nw_aload_n C dX6_fail_5 rfl 0 rfl ?_
  refine nw_iload_n C dX6_fail_6 rfl 2 rfl ?_
  refine nw_put (ty := .int) C in_X6 4 cl_Reader rfl 7 (by decide) tyX6 tyX6_ok nmX6 tw_256 rfl rfl (by decide +kernel) rfl rfl (Nat.le_of_ble_eq_true rfl) dX6_fail_7 cs_Reader_place ?_
  refine nw_iconst (v := 0) C dX6_fail_10 (by decide) ?_
  exact nc_zret C hr (Or.inl rfl) dX6_fail_11 hφ hφ2 h
theorem dX6_takeNumber_0 : decode cX6_takeNumber 0 = .ok (.aload_n 0, 1) := by decide +kernel
theorem dX6_takeNumber_1 : decode cX6_takeNumber 1 = .ok (.invokevirtual 43, 3) := by decide +kernel
theorem dX6_takeNumber_4 : decode cX6_takeNumber 4 = .ok (.aload_n 0, 1) := by decide +kernel
theorem dX6_takeNumber_5 : decode cX6_takeNumber 5 = .ok (.getfield 31, 3) := by decide +kernel
theorem dX6_takeNumber_8 : decode cX6_takeNumber 8 = .ok (.istore_n 3, 1) := by decide +kernel
theorem dX6_takeNumber_9 : decode cX6_takeNumber 9 = .ok (.iconst 0, 1) := by decide +kernel
theorem dX6_takeNumber_10 : decode cX6_takeNumber 10 = .ok (.istore 4, 2) := by decide +kernel
theorem dX6_takeNumber_12 : decode cX6_takeNumber 12 = .ok (.iload_n 3, 1) := by decide +kernel
theorem dX6_takeNumber_13 : decode cX6_takeNumber 13 = .ok (.istore 5, 2) := by decide +kernel
theorem dX6_takeNumber_15 : decode cX6_takeNumber 15 = .ok (.iload 5, 2) := by decide +kernel
theorem dX6_takeNumber_17 : decode cX6_takeNumber 17 = .ok (.aload_n 0, 1) := by decide +kernel
theorem dX6_takeNumber_18 : decode cX6_takeNumber 18 = .ok (.getfield 27, 3) := by decide +kernel
theorem dX6_takeNumber_21 : decode cX6_takeNumber 21 = .ok (.if_icmp .ge 60, 3) := by decide +kernel
theorem dX6_takeNumber_24 : decode cX6_takeNumber 24 = .ok (.aload_n 0, 1) := by decide +kernel
theorem dX6_takeNumber_25 : decode cX6_takeNumber 25 = .ok (.getfield 9, 3) := by decide +kernel
theorem dX6_takeNumber_28 : decode cX6_takeNumber 28 = .ok (.iload 5, 2) := by decide +kernel
theorem dX6_takeNumber_30 : decode cX6_takeNumber 30 = .ok (.iconst 0, 1) := by decide +kernel
theorem dX6_takeNumber_31 : decode cX6_takeNumber 31 = .ok (.invokevirtual 126, 3) := by decide +kernel
theorem dX6_takeNumber_34 : decode cX6_takeNumber 34 = .ok (.invokestatic 129, 3) := by decide +kernel
theorem dX6_takeNumber_37 : decode cX6_takeNumber 37 = .ok (.ifCond .eq 44, 3) := by decide +kernel
theorem dX6_takeNumber_40 : decode cX6_takeNumber 40 = .ok (.iload 4, 2) := by decide +kernel
theorem dX6_takeNumber_42 : decode cX6_takeNumber 42 = .ok (.bipush 10, 2) := by decide +kernel
theorem dX6_takeNumber_44 : decode cX6_takeNumber 44 = .ok (.imul, 1) := by decide +kernel
theorem dX6_takeNumber_45 : decode cX6_takeNumber 45 = .ok (.aload_n 0, 1) := by decide +kernel
theorem dX6_takeNumber_46 : decode cX6_takeNumber 46 = .ok (.getfield 9, 3) := by decide +kernel
theorem dX6_takeNumber_49 : decode cX6_takeNumber 49 = .ok (.iload 5, 2) := by decide +kernel
theorem dX6_takeNumber_51 : decode cX6_takeNumber 51 = .ok (.iconst 0, 1) := by decide +kernel
theorem dX6_takeNumber_52 : decode cX6_takeNumber 52 = .ok (.invokevirtual 126, 3) := by decide +kernel
theorem dX6_takeNumber_55 : decode cX6_takeNumber 55 = .ok (.iadd, 1) := by decide +kernel
theorem dX6_takeNumber_56 : decode cX6_takeNumber 56 = .ok (.bipush 48, 2) := by decide +kernel
theorem dX6_takeNumber_58 : decode cX6_takeNumber 58 = .ok (.isub, 1) := by decide +kernel
theorem dX6_takeNumber_59 : decode cX6_takeNumber 59 = .ok (.sipush 10000, 3) := by decide +kernel
theorem dX6_takeNumber_62 : decode cX6_takeNumber 62 = .ok (.invokestatic 139, 3) := by decide +kernel
theorem dX6_takeNumber_65 : decode cX6_takeNumber 65 = .ok (.istore 4, 2) := by decide +kernel
theorem dX6_takeNumber_67 : decode cX6_takeNumber 67 = .ok (.aload_n 0, 1) := by decide +kernel
theorem dX6_takeNumber_68 : decode cX6_takeNumber 68 = .ok (.iload 5, 2) := by decide +kernel
theorem dX6_takeNumber_70 : decode cX6_takeNumber 70 = .ok (.iconst 1, 1) := by decide +kernel
theorem dX6_takeNumber_71 : decode cX6_takeNumber 71 = .ok (.iadd, 1) := by decide +kernel
theorem dX6_takeNumber_72 : decode cX6_takeNumber 72 = .ok (.putfield 31, 3) := by decide +kernel
theorem dX6_takeNumber_75 : decode cX6_takeNumber 75 = .ok (.iinc 5 1, 3) := by decide +kernel
theorem dX6_takeNumber_78 : decode cX6_takeNumber 78 = .ok (.goto (-63), 3) := by decide +kernel
theorem dX6_takeNumber_81 : decode cX6_takeNumber 81 = .ok (.aload_n 0, 1) := by decide +kernel
theorem dX6_takeNumber_82 : decode cX6_takeNumber 82 = .ok (.getfield 31, 3) := by decide +kernel
theorem dX6_takeNumber_85 : decode cX6_takeNumber 85 = .ok (.iload_n 3, 1) := by decide +kernel
theorem dX6_takeNumber_86 : decode cX6_takeNumber 86 = .ok (.if_icmp .ne 12, 3) := by decide +kernel
theorem dX6_takeNumber_89 : decode cX6_takeNumber 89 = .ok (.aload_n 0, 1) := by decide +kernel
theorem dX6_takeNumber_90 : decode cX6_takeNumber 90 = .ok (.iconst 1, 1) := by decide +kernel
theorem dX6_takeNumber_91 : decode cX6_takeNumber 91 = .ok (.iload_n 3, 1) := by decide +kernel
theorem dX6_takeNumber_92 : decode cX6_takeNumber 92 = .ok (.invokevirtual 56, 3) := by decide +kernel
theorem dX6_takeNumber_95 : decode cX6_takeNumber 95 = .ok (.pop, 1) := by decide +kernel
theorem dX6_takeNumber_96 : decode cX6_takeNumber 96 = .ok (.iconst (-1), 1) := by decide +kernel
theorem dX6_takeNumber_97 : decode cX6_takeNumber 97 = .ok (.ireturn, 1) := by decide +kernel
theorem dX6_takeNumber_98 : decode cX6_takeNumber 98 = .ok (.iload 4, 2) := by decide +kernel
theorem dX6_takeNumber_100 : decode cX6_takeNumber 100 = .ok (.iload_n 1, 1) := by decide +kernel
theorem dX6_takeNumber_101 : decode cX6_takeNumber 101 = .ok (.iload_n 2, 1) := by decide +kernel
theorem dX6_takeNumber_102 : decode cX6_takeNumber 102 = .ok (.invokestatic 144, 3) := by decide +kernel
theorem dX6_takeNumber_105 : decode cX6_takeNumber 105 = .ok (.ifCond .ne 12, 3) := by decide +kernel
theorem dX6_takeNumber_108 : decode cX6_takeNumber 108 = .ok (.aload_n 0, 1) := by decide +kernel
theorem dX6_takeNumber_109 : decode cX6_takeNumber 109 = .ok (.iconst 2, 1) := by decide +kernel
theorem dX6_takeNumber_110 : decode cX6_takeNumber 110 = .ok (.iload_n 3, 1) := by decide +kernel
theorem dX6_takeNumber_111 : decode cX6_takeNumber 111 = .ok (.invokevirtual 56, 3) := by decide +kernel
theorem dX6_takeNumber_114 : decode cX6_takeNumber 114 = .ok (.pop, 1) := by decide +kernel
theorem dX6_takeNumber_115 : decode cX6_takeNumber 115 = .ok (.iconst (-1), 1) := by decide +kernel
theorem dX6_takeNumber_116 : decode cX6_takeNumber 116 = .ok (.ireturn, 1) := by decide +kernel
theorem dX6_takeNumber_117 : decode cX6_takeNumber 117 = .ok (.iload 4, 2) := by decide +kernel
theorem dX6_takeNumber_119 : decode cX6_takeNumber 119 = .ok (.ireturn, 1) := by decide +kernel
def L_Reader_takeNumber_15 (k81 : Int32 → Int32 → Int32 → Int32 → CS → Option (Int32 × CS)) (x1 : Int32) (x2 : Int32) (x3 : Int32) : Nat → Int32 → Int32 → CS → Option (Int32 × CS)
  | 0, _, _, _ => none
  | n + 1, x4, x5, σ => if (σ.1 55) ≤ x5 then k81 x1 x2 x3 x4 σ else bnd (f_Table_get 0 x5 0 σ) (fun r31 σ31 => bnd (f_Reader_isDigit r31 σ31) (fun r34 σ34 => if r34 = 0 then k81 x1 x2 x3 x4 σ34 else bnd (f_Table_get 0 x5 0 σ34) (fun r52 σ52 => (L_Reader_takeNumber_15 k81 x1 x2 x3 n) (if 10000 < (((x4 * 10) + r52) - 48) then 10000 else (((x4 * 10) + r52) - 48)) (x5 + 1) (sF σ52 56 (x5 + 1)))))
set_option maxHeartbeats 4000000 in
set_option maxRecDepth 100000 in
theorem w_Reader_takeNumber_15 (C : Cx g p s m args meth c A 6 cX6_takeNumber yX6_takeNumber.cls) (hr : meth.sig.returnType = (some .int))  {res : Int32 × CS}  (x1 : Int32) (x2 : Int32) (x3 : Int32) {k81 : Int32 → Int32 → Int32 → Int32 → CS → Option (Int32 × CS)} (hk81 : ∀ (x1 : Int32) (x2 : Int32) (x3 : Int32) (x4 : Int32) (σ : CS) (ta : Nat → Nat), φ0 ≤ ph σ.2.2 → ph σ.2.2 ≤ BB → k81 x1 x2 x3 x4 σ = some res → NI g p l e s m args below meth c A 2 44 6 ad Rr φ0 res ta σ [(0, .ref (ad 4)), (1, .int x1), (2, .int x2), (3, .int x3), (4, .int x4)] 81 []) : ∀ (n : Nat) (x4 : Int32) (x5 : Int32) (σ : CS) (ta : Nat → Nat), φ0 ≤ ph σ.2.2 → ph σ.2.2 ≤ BB → L_Reader_takeNumber_15 k81 x1 x2 x3 n x4 x5 σ = some res → NI g p l e s m args below meth c A 2 44 6 ad Rr φ0 res ta σ [(0, .ref (ad 4)), (1, .int x1), (2, .int x2), (3, .int x3), (4, .int x4), (5, .int x5)] 15 [] := by
  intro n
  induction n with
  | zero =>
    intro x4 x5 σ ta hφ hφ2 h
    exact absurd (show (none : Option (Int32 × CS)) = some res from h) (by intro h9; cases h9)
  | succ n ih =>
    intro x4 x5 σ ta hφ hφ2 h
    rw [L_Reader_takeNumber_15] at h
    refine nw_iload C dX6_takeNumber_15 5 rfl ?_
    refine nw_aload_n C dX6_takeNumber_17 rfl 0 rfl ?_
    refine nw_get (v := .int (σ.1 55)) C in_X6 4 cl_Reader rfl 3 (by decide) tw_252 rfl rfl dX6_takeNumber_18 ?_
    refine nw_icmp_ge (tgt := 81) C dX6_takeNumber_21 (by decide) h (fun _ h => ?_) (fun _ h => ?_)
    · exact nw_lv (lv' := [(0, .ref (ad 4)), (1, .int x1), (2, .int x2), (3, .int x3), (4, .int x4)]) [0, 1, 2, 3, 4] rfl (hk81 x1 x2 x3 x4 _ _ hφ hφ2 h)
    · refine nw_aload_n C dX6_takeNumber_24 rfl 0 rfl ?_
      refine nw_get (v := .ref (ad 11)) C in_X6 4 cl_Reader rfl 0 (by decide) tw_249 rfl rfl dX6_takeNumber_25 ?_
      refine nw_iload C dX6_takeNumber_28 5 rfl ?_
      refine nw_iconst (v := 0) C dX6_takeNumber_30 (by decide) ?_
      refine nc_callVI (q0 := 11) (As := [.int x5, .int 0]) (rest := []) C h (fun _ _ e => c_Table_get 0 (by decide) e hφ2) tw_1084 kv_X9_get (cl_T 0 (by decide)) rfl ⟨Nat.le_of_ble_eq_true rfl, Nat.le_of_ble_eq_true rfl⟩ rfl dX6_takeNumber_31 rfl (Nat.le_of_ble_eq_true rfl) hφ hφ2 (fun r31 σ31 ta h hφ hφ2 => ?_)
      refine nc_callSI  (As := [.int r31]) (rest := []) C h (fun _ _ e => c_Reader_isDigit e hφ2) tw_1203 ks_X6_isDigit ⟨Nat.le_of_ble_eq_true rfl, Nat.le_of_ble_eq_true rfl⟩ rfl dX6_takeNumber_34 rfl (Nat.le_of_ble_eq_true rfl) hφ hφ2 (fun r34 σ34 ta h hφ hφ2 => ?_)
      refine nw_if_eq (tgt := 81) C dX6_takeNumber_37 (by decide) h (fun _ h => ?_) (fun _ h => ?_)
      · exact nw_lv (lv' := [(0, .ref (ad 4)), (1, .int x1), (2, .int x2), (3, .int x3), (4, .int x4)]) [0, 1, 2, 3, 4] rfl (hk81 x1 x2 x3 x4 _ _ hφ hφ2 h)
      · refine nw_iload C dX6_takeNumber_40 4 rfl ?_
        refine nw_bipush (v := 10) C dX6_takeNumber_42 (by decide) ?_
        refine nw_imul C dX6_takeNumber_44 ?_
        refine nw_aload_n C dX6_takeNumber_45 rfl 0 rfl ?_
        refine nw_get (v := .ref (ad 11)) C in_X6 4 cl_Reader rfl 0 (by decide) tw_249 rfl rfl dX6_takeNumber_46 ?_
        refine nw_iload C dX6_takeNumber_49 5 rfl ?_
        refine nw_iconst (v := 0) C dX6_takeNumber_51 (by decide) ?_
        refine nc_callVI (q0 := 11) (As := [.int x5, .int 0]) (rest := [.int (x4 * 10)]) C h (fun _ _ e => c_Table_get 0 (by decide) e hφ2) tw_1084 kv_X9_get (cl_T 0 (by decide)) rfl ⟨Nat.le_of_ble_eq_true rfl, Nat.le_of_ble_eq_true rfl⟩ rfl dX6_takeNumber_52 rfl (Nat.le_of_ble_eq_true rfl) hφ hφ2 (fun r52 σ52 ta h hφ hφ2 => ?_)
        refine nw_iadd C dX6_takeNumber_55 ?_
        refine nw_bipush (v := 48) C dX6_takeNumber_56 (by decide) ?_
        refine nw_isub C dX6_takeNumber_58 ?_
        refine nw_sipush (v := 10000) C dX6_takeNumber_59 (by decide) ?_
        refine nw_mmin C tw_1210 tw_543 tw_125 tm_min (Nat.le_of_ble_eq_true rfl) (Nat.le_of_ble_eq_true rfl) (Nat.sub_le_sub_right hφ2 _) (Nat.mul_le_mul_left 2 (Nat.sub_le_sub_right hφ2 _)) dX6_takeNumber_62 ?_
        refine nw_istore (lv' := [(4, .int (if 10000 < (((x4 * 10) + r52) - 48) then 10000 else (((x4 * 10) + r52) - 48))), (0, .ref (ad 4)), (1, .int x1), (2, .int x2), (3, .int x3), (5, .int x5)]) C dX6_takeNumber_65 (by decide) rfl ?_
        refine nw_aload_n C dX6_takeNumber_67 rfl 1 rfl ?_
        refine nw_iload C dX6_takeNumber_68 5 rfl ?_
        refine nw_iconst (v := 1) C dX6_takeNumber_70 (by decide) ?_
        refine nw_iadd C dX6_takeNumber_71 ?_
        refine nw_put (ty := .int) C in_X6 4 cl_Reader rfl 4 (by decide) tyX6 tyX6_ok nmX6 tw_253 rfl rfl (by decide +kernel) rfl rfl (Nat.le_of_ble_eq_true rfl) dX6_takeNumber_72 cs_Reader_at ?_
        refine nw_iinc (lv' := [(5, .int (x5 + 1)), (4, .int (if 10000 < (((x4 * 10) + r52) - 48) then 10000 else (((x4 * 10) + r52) - 48))), (0, .ref (ad 4)), (1, .int x1), (2, .int x2), (3, .int x3)]) C (x5 + 1) dX6_takeNumber_75 5 rfl rfl (by decide) rfl ?_
        refine nw_goto (tgt := 15) C dX6_takeNumber_78 (by decide) ?_
        exact nw_lv (lv' := [(0, .ref (ad 4)), (1, .int x1), (2, .int x2), (3, .int x3), (4, .int (if 10000 < (((x4 * 10) + r52) - 48) then 10000 else (((x4 * 10) + r52) - 48))), (5, .int (x5 + 1))]) [2, 3, 4, 5, 1, 0] rfl (ih (if 10000 < (((x4 * 10) + r52) - 48) then 10000 else (((x4 * 10) + r52) - 48)) (x5 + 1) _ _ hφ hφ2 h)
def B_Reader_takeNumber_81   (x1 : Int32) (x2 : Int32) (x3 : Int32) (x4 : Int32) (σ : CS) : Option (Int32 × CS) := if (σ.1 56) = x3 then bnd (f_Reader_fail 1 x3 σ) (fun r92 σ92 => some ((-1), σ92)) else bnd (f_FC_within x4 x1 x2 σ) (fun r102 σ102 => if r102 = 0 then bnd (f_Reader_fail 2 x3 σ102) (fun r111 σ111 => some ((-1), σ111)) else some (x4, σ102))
set_option maxHeartbeats 4000000 in
set_option maxRecDepth 100000 in
theorem w_Reader_takeNumber_81 (C : Cx g p s m args meth c A 6 cX6_takeNumber yX6_takeNumber.cls) (hr : meth.sig.returnType = (some .int))  {res : Int32 × CS}   (x1 : Int32) (x2 : Int32) (x3 : Int32) (x4 : Int32)  (σ : CS) (ta : Nat → Nat) (hφ : φ0 ≤ ph σ.2.2) (hφ2 : ph σ.2.2 ≤ BB) (h : B_Reader_takeNumber_81 x1 x2 x3 x4 σ = some res) : NI g p l e s m args below meth c A 2 44 6 ad Rr φ0 res ta σ [(0, .ref (ad 4)), (1, .int x1), (2, .int x2), (3, .int x3), (4, .int x4)] 81 [] := by
  unfold B_Reader_takeNumber_81 at h
  refine nw_aload_n C dX6_takeNumber_81 rfl 0 rfl ?_
  refine nw_get (v := .int (σ.1 56)) C in_X6 4 cl_Reader rfl 4 (by decide) tw_253 rfl rfl dX6_takeNumber_82 ?_
  refine nw_iload_n C dX6_takeNumber_85 rfl 3 rfl ?_
  refine nw_icmp_ne (tgt := 98) C dX6_takeNumber_86 (by decide) h (fun _ h => ?_) (fun _ h => ?_)
  · refine nw_aload_n C dX6_takeNumber_89 rfl 0 rfl ?_
    refine nw_iconst (v := 1) C dX6_takeNumber_90 (by decide) ?_
    refine nw_iload_n C dX6_takeNumber_91 rfl 3 rfl ?_
    refine nc_callVI (q0 := 4) (As := [.int 1, .int x3]) (rest := []) C h (fun _ _ e => c_Reader_fail e hφ2) tw_1150 kv_X6_fail cl_Reader rfl ⟨Nat.le_of_ble_eq_true rfl, Nat.le_of_ble_eq_true rfl⟩ rfl dX6_takeNumber_92 rfl (Nat.le_of_ble_eq_true rfl) hφ hφ2 (fun r92 σ92 ta h hφ hφ2 => ?_)
    refine nw_pop C dX6_takeNumber_95 rfl ?_
    refine nw_iconst (v := (-1)) C dX6_takeNumber_96 (by decide) ?_
    exact nc_iret C hr dX6_takeNumber_97 hφ hφ2 h
  · refine nw_iload C dX6_takeNumber_98 4 rfl ?_
    refine nw_iload_n C dX6_takeNumber_100 rfl 1 rfl ?_
    refine nw_iload_n C dX6_takeNumber_101 rfl 2 rfl ?_
    refine nc_callSNI  (As := [.int x4, .int x1, .int x2]) (rest := []) C h (fun _ _ e => c_FC_within e hφ2) tw_1097 ks_X11_within ⟨Nat.le_of_ble_eq_true rfl, Nat.le_of_ble_eq_true rfl⟩ rfl dX6_takeNumber_102 rfl (Nat.le_of_ble_eq_true rfl) hφ hφ2 (fun r102 σ102 ta h hφ hφ2 => ?_)
    refine nw_if_ne (tgt := 117) C dX6_takeNumber_105 (by decide) h (fun _ h => ?_) (fun _ h => ?_)
    · refine nw_aload_n C dX6_takeNumber_108 rfl 0 rfl ?_
      refine nw_iconst (v := 2) C dX6_takeNumber_109 (by decide) ?_
      refine nw_iload_n C dX6_takeNumber_110 rfl 3 rfl ?_
      refine nc_callVI (q0 := 4) (As := [.int 2, .int x3]) (rest := []) C h (fun _ _ e => c_Reader_fail e hφ2) tw_1150 kv_X6_fail cl_Reader rfl ⟨Nat.le_of_ble_eq_true rfl, Nat.le_of_ble_eq_true rfl⟩ rfl dX6_takeNumber_111 rfl (Nat.le_of_ble_eq_true rfl) hφ hφ2 (fun r111 σ111 ta h hφ hφ2 => ?_)
      refine nw_pop C dX6_takeNumber_114 rfl ?_
      refine nw_iconst (v := (-1)) C dX6_takeNumber_115 (by decide) ?_
      exact nc_iret C hr dX6_takeNumber_116 hφ hφ2 h
    · refine nw_iload C dX6_takeNumber_117 4 rfl ?_
      exact nc_iret C hr dX6_takeNumber_119 hφ hφ2 h
def f_Reader_takeNumber (p0 : Int32) (p1 : Int32) (σ : CS) : Option (Int32 × CS) := bnd (f_Reader_skipBlanks σ) (fun _ σ1 => L_Reader_takeNumber_15 (B_Reader_takeNumber_81) p0 p1 (σ1.1 56) FU 0 (σ1.1 56) σ1)
set_option maxHeartbeats 4000000 in
set_option maxRecDepth 100000 in
theorem c_Reader_takeNumber {l : Launch} {g : EG} {ad ta : Nat → Nat} {Rr : va_W} {σ σ' : CS} {r : Int32} {p0 : Int32} {p1 : Int32}  (h : f_Reader_takeNumber p0 p1 σ = some (r, σ')) (hφ2 : ph σ.2.2 ≤ BB) : CtI l g yX6_takeNumber (.code yX6_takeNumber cX6_takeNumber 6 (some .int)) 2 44 ad ta Rr σ [.ref (ad 4), .int p0, .int p1] r σ' := by
  refine Ct.of rfl (by decide) (Nat.le_of_ble_eq_true rfl) ?_
  intro p e s m args below meth c A C hr
  have hφ : ph σ.2.2 ≤ ph σ.2.2 := Nat.le_refl _
  refine nw_zero (ph σ.2.2) ?_
  show NI g p l e s m args below meth c A 2 44 6 ad Rr (ph σ.2.2) (r, σ') ta σ [(0, .ref (ad 4)), (1, .int p0), (2, .int p1)] 0 []
  unfold f_Reader_takeNumber at h
  refine nw_aload_n C dX6_takeNumber_0 rfl 0 rfl ?_
  refine nc_callVV (q0 := 4) (As := []) (rest := []) C h (fun _ _ e => c_Reader_skipBlanks e hφ2) tw_1080 kv_X6_skipBlanks cl_Reader rfl ⟨Nat.le_of_ble_eq_true rfl, Nat.le_of_ble_eq_true rfl⟩ rfl dX6_takeNumber_1 rfl (Nat.le_of_ble_eq_true rfl) hφ hφ2 (fun r1 σ1 ta h hφ hφ2 => ?_)
  refine nw_aload_n C dX6_takeNumber_4 rfl 0 rfl ?_
  refine nw_get (v := .int (σ1.1 56)) C in_X6 4 cl_Reader rfl 4 (by decide) tw_253 rfl rfl dX6_takeNumber_5 ?_
  refine nw_istore_n (lv' := [(3, .int (σ1.1 56)), (0, .ref (ad 4)), (1, .int p0), (2, .int p1)]) C dX6_takeNumber_8 rfl (by decide) rfl ?_
  refine nw_iconst (v := 0) C dX6_takeNumber_9 (by decide) ?_
  refine nw_istore (lv' := [(4, .int 0), (3, .int (σ1.1 56)), (0, .ref (ad 4)), (1, .int p0), (2, .int p1)]) C dX6_takeNumber_10 (by decide) rfl ?_
  refine nw_iload_n C dX6_takeNumber_12 rfl 1 rfl ?_
  refine nw_istore (lv' := [(5, .int (σ1.1 56)), (4, .int 0), (3, .int (σ1.1 56)), (0, .ref (ad 4)), (1, .int p0), (2, .int p1)]) C dX6_takeNumber_13 (by decide) rfl ?_
  exact nw_lv (lv' := [(0, .ref (ad 4)), (1, .int p0), (2, .int p1), (3, .int (σ1.1 56)), (4, .int 0), (5, .int (σ1.1 56))]) [3, 4, 5, 2, 1, 0] rfl (w_Reader_takeNumber_15 C hr p0 p1 (σ1.1 56) (fun x1_ x2_ x3_ x4_ σ_ ta_ hφ_ hφ2_ h_ => w_Reader_takeNumber_81 C hr x1_ x2_ x3_ x4_ σ_ ta_ hφ_ hφ2_ h_) FU 0 (σ1.1 56) _ _ hφ hφ2 h)
end
