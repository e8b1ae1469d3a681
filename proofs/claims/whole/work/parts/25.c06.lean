section
variable {g : EG} {p : Program} {l : Launch} {e : Env} {s : State} {m : MethodId} {args : Array Value} {below : List Frame} {meth : Method} {c : Code} {A : Nat → Prop} {ad am ta : Nat → Nat} {Rr : va_W} {φ0 : Nat}
theorem dX6_emit_0 : decode cX6_emit 0 = .ok (.aload_n 0, 1) := by decide +kernel
theorem dX6_emit_1 : decode cX6_emit 1 = .ok (.getfield 18, 3) := by decide +kernel
theorem dX6_emit_4 : decode cX6_emit 4 = .ok (.aload_n 0, 1) := by decide +kernel
theorem dX6_emit_5 : decode cX6_emit 5 = .ok (.getfield 18, 3) := by decide +kernel
theorem dX6_emit_8 : decode cX6_emit 8 = .ok (.invokevirtual 56, 3) := by decide +kernel
theorem dX6_emit_11 : decode cX6_emit 11 = .ok (.iconst 0, 1) := by decide +kernel
theorem dX6_emit_12 : decode cX6_emit 12 = .ok (.iload_n 1, 1) := by decide +kernel
theorem dX6_emit_13 : decode cX6_emit 13 = .ok (.invokevirtual 61, 3) := by decide +kernel
theorem dX6_emit_16 : decode cX6_emit 16 = .ok (.iconst 1, 1) := by decide +kernel
theorem dX6_emit_17 : decode cX6_emit 17 = .ok (.ireturn, 1) := by decide +kernel
def f_Reader_emit (p0 : Int32) (σ : CS) : Option (Int32 × CS) := bnd (f_Table_add 5 σ) (fun r8 σ8 => bnd (f_Table_put 5 r8 0 p0 σ8) (fun _ σ13 => some (1, σ13)))
set_option maxHeartbeats 4000000 in
set_option maxRecDepth 100000 in
theorem c_Reader_emit {l : Launch} {g : EG} {ad ta : Nat → Nat} {Rr : va_W} {σ σ' : CS} {r : Int32} {p0 : Int32}  (h : f_Reader_emit p0 σ = some (r, σ')) (hφ2 : ph σ.2.2 ≤ BB) : CtI l g yX6_emit (.code yX6_emit cX6_emit 2 (some .boolean)) 5 222 ad ta Rr σ [.ref (ad 4), .int p0] r σ' := by
  refine Ct.of rfl (by decide) (Nat.le_of_ble_eq_true rfl) ?_
  intro p e s m args below meth c A C hr
  have hφ : ph σ.2.2 ≤ ph σ.2.2 := Nat.le_refl _
  refine nw_zero (ph σ.2.2) ?_
  show NI g p l e s m args below meth c A 5 222 2 ad Rr (ph σ.2.2) (r, σ') ta σ [(0, .ref (ad 4)), (1, .int p0)] 0 []
  unfold f_Reader_emit at h
  refine nw_aload_n C dX6_emit_0 rfl 0 rfl ?_
  refine nw_get (v := .ref (ad 16)) C in_X6 4 cl_Reader rfl 2 (by decide) tw_251 rfl rfl dX6_emit_1 ?_
  refine nw_aload_n C dX6_emit_4 rfl 0 rfl ?_
  refine nw_get (v := .ref (ad 16)) C in_X6 4 cl_Reader rfl 2 (by decide) tw_251 rfl rfl dX6_emit_5 ?_
  refine nc_callVI (q0 := 16) (As := []) (rest := [.ref (ad 16)]) C h (fun _ _ e => c_Table_add 5 (by decide) e hφ2) tw_1160 kv_X9_add (cl_T 5 (by decide)) rfl ⟨Nat.le_of_ble_eq_true rfl, Nat.le_of_ble_eq_true rfl⟩ rfl dX6_emit_8 rfl (Nat.le_of_ble_eq_true rfl) hφ hφ2 (fun r8 σ8 ta h hφ hφ2 => ?_)
  refine nw_iconst (v := 0) C dX6_emit_11 (by decide) ?_
  refine nw_iload_n C dX6_emit_12 rfl 1 rfl ?_
  refine nc_callVV (q0 := 16) (As := [.int r8, .int 0, .int p0]) (rest := []) C h (fun _ _ e => c_Table_put 5 (by decide) e hφ2) tw_1161 kv_X9_put (cl_T 5 (by decide)) rfl ⟨Nat.le_of_ble_eq_true rfl, Nat.le_of_ble_eq_true rfl⟩ rfl dX6_emit_13 rfl (Nat.le_of_ble_eq_true rfl) hφ hφ2 (fun r13 σ13 ta h hφ hφ2 => ?_)
  refine nw_iconst (v := 1) C dX6_emit_16 (by decide) ?_
  exact nc_zret C hr (Or.inr rfl) dX6_emit_17 hφ hφ2 h
theorem dX6_goPast_0 : decode cX6_goPast 0 = .ok (.aload_n 0, 1) := by decide +kernel
theorem dX6_goPast_1 : decode cX6_goPast 1 = .ok (.dup, 1) := by decide +kernel
theorem dX6_goPast_2 : decode cX6_goPast 2 = .ok (.getfield 31, 3) := by decide +kernel
theorem dX6_goPast_5 : decode cX6_goPast 5 = .ok (.iconst 1, 1) := by decide +kernel
theorem dX6_goPast_6 : decode cX6_goPast 6 = .ok (.iadd, 1) := by decide +kernel
theorem dX6_goPast_7 : decode cX6_goPast 7 = .ok (.putfield 31, 3) := by decide +kernel
theorem dX6_goPast_10 : decode cX6_goPast 10 = .ok (.iconst 1, 1) := by decide +kernel
theorem dX6_goPast_11 : decode cX6_goPast 11 = .ok (.ireturn, 1) := by decide +kernel
def f_Reader_goPast  (σ : CS) : Option (Int32 × CS) := some (1, (sF σ 56 ((σ.1 56) + 1)))
set_option maxHeartbeats 4000000 in
set_option maxRecDepth 100000 in
theorem c_Reader_goPast {l : Launch} {g : EG} {ad ta : Nat → Nat} {Rr : va_W} {σ σ' : CS} {r : Int32}   (h : f_Reader_goPast σ = some (r, σ')) (hφ2 : ph σ.2.2 ≤ BB) : CtI l g yX6_goPast (.code yX6_goPast cX6_goPast 1 (some .boolean)) 0 0 ad ta Rr σ [.ref (ad 4)] r σ' := by
  refine Ct.of rfl (by decide) (Nat.le_of_ble_eq_true rfl) ?_
  intro p e s m args below meth c A C hr
  have hφ : ph σ.2.2 ≤ ph σ.2.2 := Nat.le_refl _
  refine nw_zero (ph σ.2.2) ?_
  show NI g p l e s m args below meth c A 0 0 1 ad Rr (ph σ.2.2) (r, σ') ta σ [(0, .ref (ad 4))] 0 []
  unfold f_Reader_goPast at h
  refine nw_aload_n C dX6_goPast_0 rfl 0 rfl ?_
  refine nw_dup C dX6_goPast_1 rfl ?_
  refine nw_get (v := .int (σ.1 56)) C in_X6 4 cl_Reader rfl 4 (by decide) tw_253 rfl rfl dX6_goPast_2 ?_
  refine nw_iconst (v := 1) C dX6_goPast_5 (by decide) ?_
  refine nw_iadd C dX6_goPast_6 ?_
  refine nw_put (ty := .int) C in_X6 4 cl_Reader rfl 4 (by decide) tyX6 tyX6_ok nmX6 tw_253 rfl rfl (by decide +kernel) rfl rfl (Nat.le_of_ble_eq_true rfl) dX6_goPast_7 cs_Reader_at ?_
  refine nw_iconst (v := 1) C dX6_goPast_10 (by decide) ?_
  exact nc_zret C hr (Or.inr rfl) dX6_goPast_11 hφ hφ2 h
theorem dX6_takeSign_0 : decode cX6_takeSign 0 = .ok (.aload_n 0, 1) := by decide +kernel
theorem dX6_takeSign_1 : decode cX6_takeSign 1 = .ok (.invokevirtual 43, 3) := by decide +kernel
theorem dX6_takeSign_4 : decode cX6_takeSign 4 = .ok (.aload_n 0, 1) := by decide +kernel
theorem dX6_takeSign_5 : decode cX6_takeSign 5 = .ok (.getfield 9, 3) := by decide +kernel
theorem dX6_takeSign_8 : decode cX6_takeSign 8 = .ok (.aload_n 0, 1) := by decide +kernel
theorem dX6_takeSign_9 : decode cX6_takeSign 9 = .ok (.getfield 31, 3) := by decide +kernel
theorem dX6_takeSign_12 : decode cX6_takeSign 12 = .ok (.iconst 0, 1) := by decide +kernel
theorem dX6_takeSign_13 : decode cX6_takeSign 13 = .ok (.invokevirtual 122, 3) := by decide +kernel
theorem dX6_takeSign_16 : decode cX6_takeSign 16 = .ok (.iload_n 1, 1) := by decide +kernel
theorem dX6_takeSign_17 : decode cX6_takeSign 17 = .ok (.if_icmp .ne 14, 3) := by decide +kernel
theorem dX6_takeSign_20 : decode cX6_takeSign 20 = .ok (.aload_n 0, 1) := by decide +kernel
theorem dX6_takeSign_21 : decode cX6_takeSign 21 = .ok (.invokevirtual 135, 3) := by decide +kernel
theorem dX6_takeSign_24 : decode cX6_takeSign 24 = .ok (.ifCond .eq 7, 3) := by decide +kernel
theorem dX6_takeSign_27 : decode cX6_takeSign 27 = .ok (.iconst 1, 1) := by decide +kernel
theorem dX6_takeSign_28 : decode cX6_takeSign 28 = .ok (.goto 4, 3) := by decide +kernel
theorem dX6_takeSign_31 : decode cX6_takeSign 31 = .ok (.iconst 0, 1) := by decide +kernel
theorem dX6_takeSign_32 : decode cX6_takeSign 32 = .ok (.ireturn, 1) := by decide +kernel
def f_Reader_takeSign (p0 : Int32) (σ : CS) : Option (Int32 × CS) := bnd (f_Reader_skipBlanks σ) (fun _ σ1 => bnd (f_Table_get 0 (σ1.1 56) 0 σ1) (fun r13 σ13 => if r13 = p0 then bnd (f_Reader_goPast σ13) (fun r21 σ21 => if r21 = 0 then some (0, σ21) else some (1, σ21)) else some (0, σ13)))
set_option maxHeartbeats 4000000 in
set_option maxRecDepth 100000 in
theorem c_Reader_takeSign {l : Launch} {g : EG} {ad ta : Nat → Nat} {Rr : va_W} {σ σ' : CS} {r : Int32} {p0 : Int32}  (h : f_Reader_takeSign p0 σ = some (r, σ')) (hφ2 : ph σ.2.2 ≤ BB) : CtI l g yX6_takeSign (.code yX6_takeSign cX6_takeSign 2 (some .boolean)) 2 44 ad ta Rr σ [.ref (ad 4), .int p0] r σ' := by
  refine Ct.of rfl (by decide) (Nat.le_of_ble_eq_true rfl) ?_
  intro p e s m args below meth c A C hr
  have hφ : ph σ.2.2 ≤ ph σ.2.2 := Nat.le_refl _
  refine nw_zero (ph σ.2.2) ?_
  show NI g p l e s m args below meth c A 2 44 2 ad Rr (ph σ.2.2) (r, σ') ta σ [(0, .ref (ad 4)), (1, .int p0)] 0 []
  unfold f_Reader_takeSign at h
  refine nw_aload_n C dX6_takeSign_0 rfl 0 rfl ?_
  refine nc_callVV (q0 := 4) (As := []) (rest := []) C h (fun _ _ e => c_Reader_skipBlanks e hφ2) tw_1086 kv_X6_skipBlanks cl_Reader rfl ⟨Nat.le_of_ble_eq_true rfl, Nat.le_of_ble_eq_true rfl⟩ rfl dX6_takeSign_1 rfl (Nat.le_of_ble_eq_true rfl) hφ hφ2 (fun r1 σ1 ta h hφ hφ2 => ?_)
  refine nw_aload_n C dX6_takeSign_4 rfl 0 rfl ?_
  refine nw_get (v := .ref (ad 11)) C in_X6 4 cl_Reader rfl 0 (by decide) tw_249 rfl rfl dX6_takeSign_5 ?_
  refine nw_aload_n C dX6_takeSign_8 rfl 0 rfl ?_
  refine nw_get (v := .int (σ1.1 56)) C in_X6 4 cl_Reader rfl 4 (by decide) tw_253 rfl rfl dX6_takeSign_9 ?_
  refine nw_iconst (v := 0) C dX6_takeSign_12 (by decide) ?_
  refine nc_callVI (q0 := 11) (As := [.int (σ1.1 56), .int 0]) (rest := []) C h (fun _ _ e => c_Table_get 0 (by decide) e hφ2) tw_1090 kv_X9_get (cl_T 0 (by decide)) rfl ⟨Nat.le_of_ble_eq_true rfl, Nat.le_of_ble_eq_true rfl⟩ rfl dX6_takeSign_13 rfl (Nat.le_of_ble_eq_true rfl) hφ hφ2 (fun r13 σ13 ta h hφ hφ2 => ?_)
  refine nw_iload_n C dX6_takeSign_16 rfl 1 rfl ?_
  refine nw_icmp_ne (tgt := 31) C dX6_takeSign_17 (by decide) h (fun _ h => ?_) (fun _ h => ?_)
  · refine nw_aload_n C dX6_takeSign_20 rfl 0 rfl ?_
    refine nc_callVI (q0 := 4) (As := []) (rest := []) C h (fun _ _ e => c_Reader_goPast e hφ2) tw_1193 kv_X6_goPast cl_Reader rfl ⟨Nat.le_of_ble_eq_true rfl, Nat.le_of_ble_eq_true rfl⟩ rfl dX6_takeSign_21 rfl (Nat.le_of_ble_eq_true rfl) hφ hφ2 (fun r21 σ21 ta h hφ hφ2 => ?_)
    refine nw_if_eq (tgt := 31) C dX6_takeSign_24 (by decide) h (fun _ h => ?_) (fun _ h => ?_)
    · refine nw_iconst (v := 0) C dX6_takeSign_31 (by decide) ?_
      exact nc_zret C hr (Or.inl rfl) dX6_takeSign_32 hφ hφ2 h
    · refine nw_iconst (v := 1) C dX6_takeSign_27 (by decide) ?_
      refine nw_goto (tgt := 32) C dX6_takeSign_28 (by decide) ?_
      exact nc_zret C hr (Or.inr rfl) dX6_takeSign_32 hφ hφ2 h
  · refine nw_iconst (v := 0) C dX6_takeSign_31 (by decide) ?_
    exact nc_zret C hr (Or.inl rfl) dX6_takeSign_32 hφ hφ2 h
theorem dX6_needSign_0 : decode cX6_needSign 0 = .ok (.aload_n 0, 1) := by decide +kernel
theorem dX6_needSign_1 : decode cX6_needSign 1 = .ok (.invokevirtual 43, 3) := by decide +kernel
theorem dX6_needSign_4 : decode cX6_needSign 4 = .ok (.aload_n 0, 1) := by decide +kernel
theorem dX6_needSign_5 : decode cX6_needSign 5 = .ok (.getfield 9, 3) := by decide +kernel
theorem dX6_needSign_8 : decode cX6_needSign 8 = .ok (.aload_n 0, 1) := by decide +kernel
theorem dX6_needSign_9 : decode cX6_needSign 9 = .ok (.getfield 31, 3) := by decide +kernel
theorem dX6_needSign_12 : decode cX6_needSign 12 = .ok (.iconst 0, 1) := by decide +kernel
theorem dX6_needSign_13 : decode cX6_needSign 13 = .ok (.invokevirtual 122, 3) := by decide +kernel
theorem dX6_needSign_16 : decode cX6_needSign 16 = .ok (.iload_n 1, 1) := by decide +kernel
theorem dX6_needSign_17 : decode cX6_needSign 17 = .ok (.if_icmp .ne 10, 3) := by decide +kernel
theorem dX6_needSign_20 : decode cX6_needSign 20 = .ok (.aload_n 0, 1) := by decide +kernel
theorem dX6_needSign_21 : decode cX6_needSign 21 = .ok (.invokevirtual 135, 3) := by decide +kernel
theorem dX6_needSign_24 : decode cX6_needSign 24 = .ok (.goto 12, 3) := by decide +kernel
theorem dX6_needSign_27 : decode cX6_needSign 27 = .ok (.aload_n 0, 1) := by decide +kernel
theorem dX6_needSign_28 : decode cX6_needSign 28 = .ok (.iconst 1, 1) := by decide +kernel
theorem dX6_needSign_29 : decode cX6_needSign 29 = .ok (.aload_n 0, 1) := by decide +kernel
theorem dX6_needSign_30 : decode cX6_needSign 30 = .ok (.getfield 31, 3) := by decide +kernel
theorem dX6_needSign_33 : decode cX6_needSign 33 = .ok (.invokevirtual 52, 3) := by decide +kernel
theorem dX6_needSign_36 : decode cX6_needSign 36 = .ok (.ireturn, 1) := by decide +kernel
def f_Reader_needSign (p0 : Int32) (σ : CS) : Option (Int32 × CS) := bnd (f_Reader_skipBlanks σ) (fun _ σ1 => bnd (f_Table_get 0 (σ1.1 56) 0 σ1) (fun r13 σ13 => if r13 = p0 then bnd (f_Reader_goPast σ13) (fun r21 σ21 => grd (r21 = 0 ∨ r21 = 1) (some (r21, σ21))) else bnd (f_Reader_fail 1 (σ13.1 56) σ13) (fun r33 σ33 => grd (r33 = 0 ∨ r33 = 1) (some (r33, σ33)))))
set_option maxHeartbeats 4000000 in
set_option maxRecDepth 100000 in
theorem c_Reader_needSign {l : Launch} {g : EG} {ad ta : Nat → Nat} {Rr : va_W} {σ σ' : CS} {r : Int32} {p0 : Int32}  (h : f_Reader_needSign p0 σ = some (r, σ')) (hφ2 : ph σ.2.2 ≤ BB) : CtI l g yX6_needSign (.code yX6_needSign cX6_needSign 2 (some .boolean)) 2 44 ad ta Rr σ [.ref (ad 4), .int p0] r σ' := by
  refine Ct.of rfl (by decide) (Nat.le_of_ble_eq_true rfl) ?_
  intro p e s m args below meth c A C hr
  have hφ : ph σ.2.2 ≤ ph σ.2.2 := Nat.le_refl _
  refine nw_zero (ph σ.2.2) ?_
  show NI g p l e s m args below meth c A 2 44 2 ad Rr (ph σ.2.2) (r, σ') ta σ [(0, .ref (ad 4)), (1, .int p0)] 0 []
  unfold f_Reader_needSign at h
  refine nw_aload_n C dX6_needSign_0 rfl 0 rfl ?_
  refine nc_callVV (q0 := 4) (As := []) (rest := []) C h (fun _ _ e => c_Reader_skipBlanks e hφ2) tw_1086 kv_X6_skipBlanks cl_Reader rfl ⟨Nat.le_of_ble_eq_true rfl, Nat.le_of_ble_eq_true rfl⟩ rfl dX6_needSign_1 rfl (Nat.le_of_ble_eq_true rfl) hφ hφ2 (fun r1 σ1 ta h hφ hφ2 => ?_)
  refine nw_aload_n C dX6_needSign_4 rfl 0 rfl ?_
  refine nw_get (v := .ref (ad 11)) C in_X6 4 cl_Reader rfl 0 (by decide) tw_249 rfl rfl dX6_needSign_5 ?_
  refine nw_aload_n C dX6_needSign_8 rfl 0 rfl ?_
  refine nw_get (v := .int (σ1.1 56)) C in_X6 4 cl_Reader rfl 4 (by decide) tw_253 rfl rfl dX6_needSign_9 ?_
  refine nw_iconst (v := 0) C dX6_needSign_12 (by decide) ?_
  refine nc_callVI (q0 := 11) (As := [.int (σ1.1 56), .int 0]) (rest := []) C h (fun _ _ e => c_Table_get 0 (by decide) e hφ2) tw_1090 kv_X9_get (cl_T 0 (by decide)) rfl ⟨Nat.le_of_ble_eq_true rfl, Nat.le_of_ble_eq_true rfl⟩ rfl dX6_needSign_13 rfl (Nat.le_of_ble_eq_true rfl) hφ hφ2 (fun r13 σ13 ta h hφ hφ2 => ?_)
  refine nw_iload_n C dX6_needSign_16 rfl 1 rfl ?_
  refine nw_icmp_ne (tgt := 27) C dX6_needSign_17 (by decide) h (fun _ h => ?_) (fun _ h => ?_)
  · refine nw_aload_n C dX6_needSign_20 rfl 0 rfl ?_
    refine nc_callVI (q0 := 4) (As := []) (rest := []) C h (fun _ _ e => c_Reader_goPast e hφ2) tw_1193 kv_X6_goPast cl_Reader rfl ⟨Nat.le_of_ble_eq_true rfl, Nat.le_of_ble_eq_true rfl⟩ rfl dX6_needSign_21 rfl (Nat.le_of_ble_eq_true rfl) hφ hφ2 (fun r21 σ21 ta h hφ hφ2 => ?_)
    refine nw_goto (tgt := 36) C dX6_needSign_24 (by decide) ?_
    exact nc_zretg C hr dX6_needSign_36 hφ hφ2 h
  · refine nw_aload_n C dX6_needSign_27 rfl 0 rfl ?_
    refine nw_iconst (v := 1) C dX6_needSign_28 (by decide) ?_
    refine nw_aload_n C dX6_needSign_29 rfl 0 rfl ?_
    refine nw_get (v := .int (σ13.1 56)) C in_X6 4 cl_Reader rfl 4 (by decide) tw_253 rfl rfl dX6_needSign_30 ?_
    refine nc_callVI (q0 := 4) (As := [.int 1, .int (σ13.1 56)]) (rest := []) C h (fun _ _ e => c_Reader_fail e hφ2) tw_1156 kv_X6_fail cl_Reader rfl ⟨Nat.le_of_ble_eq_true rfl, Nat.le_of_ble_eq_true rfl⟩ rfl dX6_needSign_33 rfl (Nat.le_of_ble_eq_true rfl) hφ hφ2 (fun r33 σ33 ta h hφ hφ2 => ?_)
    exact nc_zretg C hr dX6_needSign_36 hφ hφ2 h
theorem dX6_isDigit_0 : decode cX6_isDigit 0 = .ok (.iload_n 0, 1) := by decide +kernel
theorem dX6_isDigit_1 : decode cX6_isDigit 1 = .ok (.bipush 48, 2) := by decide +kernel
theorem dX6_isDigit_3 : decode cX6_isDigit 3 = .ok (.bipush 57, 2) := by decide +kernel
theorem dX6_isDigit_5 : decode cX6_isDigit 5 = .ok (.invokestatic 144, 3) := by decide +kernel
theorem dX6_isDigit_8 : decode cX6_isDigit 8 = .ok (.ireturn, 1) := by decide +kernel
def f_Reader_isDigit (p0 : Int32) (σ : CS) : Option (Int32 × CS) := bnd (f_FC_within p0 48 57 σ) (fun r5 σ5 => grd (r5 = 0 ∨ r5 = 1) (some (r5, σ5)))
set_option maxHeartbeats 4000000 in
set_option maxRecDepth 100000 in
theorem c_Reader_isDigit {l : Launch} {g : EG} {ad ta : Nat → Nat} {Rr : va_W} {σ σ' : CS} {r : Int32} {p0 : Int32}  (h : f_Reader_isDigit p0 σ = some (r, σ')) (hφ2 : ph σ.2.2 ≤ BB) : CtI l g yX6_isDigit (.code yX6_isDigit cX6_isDigit 1 (some .boolean)) 1 22 ad ta Rr σ [.int p0] r σ' := by
  refine Ct.of rfl (by decide) (Nat.le_of_ble_eq_true rfl) ?_
  intro p e s m args below meth c A C hr
  have hφ : ph σ.2.2 ≤ ph σ.2.2 := Nat.le_refl _
  refine nw_zero (ph σ.2.2) ?_
  show NI g p l e s m args below meth c A 1 22 1 ad Rr (ph σ.2.2) (r, σ') ta σ [(0, .int p0)] 0 []
  unfold f_Reader_isDigit at h
  refine nw_iload_n C dX6_isDigit_0 rfl 0 rfl ?_
  refine nw_bipush (v := 48) C dX6_isDigit_1 (by decide) ?_
  refine nw_bipush (v := 57) C dX6_isDigit_3 (by decide) ?_
  refine nc_callSNI  (As := [.int p0, .int 48, .int 57]) (rest := []) C h (fun _ _ e => c_FC_within e hφ2) tw_1103 ks_X11_within ⟨Nat.le_of_ble_eq_true rfl, Nat.le_of_ble_eq_true rfl⟩ rfl dX6_isDigit_5 rfl (Nat.le_of_ble_eq_true rfl) hφ hφ2 (fun r5 σ5 ta h hφ hφ2 => ?_)
  exact nc_zretg C hr dX6_isDigit_8 hφ hφ2 h
theorem dX6_takeNumber_0 : decode cX6_takeNumber 0 = .ok (.aload_n 0, 1) := by decide +kernel
theorem dX6_takeNumber_1 : decode cX6_takeNumber 1 = .ok (.invokevirtual 43, 3) := by decide +kernel
theorem dX6_takeNumber_4 : decode cX6_takeNumber 4 = .ok (.aload_n 0, 1) := by decide +kernel
theorem dX6_takeNumber_5 : decode cX6_takeNumber 5 = .ok (.getfield 31, 3) := by decide +kernel
theorem dX6_takeNumber_8 : decode cX6_takeNumber 8 = .ok (.istore_n 3, 1) := by decide +kernel
theorem dX6_takeNumber_9 : decode cX6_takeNumber 9 = .ok (.iconst 0, 1) := by decide +kernel
theorem dX6_takeNumber_10 : decode cX6_takeNumber 10 = .ok (.istore 4, 2) := by decide +kernel
theorem dX6_takeNumber_12 : decode cX6_takeNumber 12 = .ok (.iload_n 3, 1) := by decide +kernel
theorem dX6_takeNumber_13 : decode cX6_takeNumber 13 = .ok (.istore 5, 2) := by decide +kernel
theorem dX6_takeNumber_15 : decode cX6_takeNumber 15 = .ok (.iload 5, 2) := by decide +kernel
theorem dX6_takeNumber_17 : decode cX6_takeNumber 17 = .ok (.aload_n 0, 1) := by decide +kernel
theorem dX6_takeNumber_18 : decode cX6_takeNumber 18 = .ok (.getfield 27, 3) := by decide +kernel
theorem dX6_takeNumber_21 : decode cX6_takeNumber 21 = .ok (.if_icmp .ge 60, 3) := by decide +kernel
theorem dX6_takeNumber_24 : decode cX6_takeNumber 24 = .ok (.aload_n 0, 1) := by decide +kernel
theorem dX6_takeNumber_25 : decode cX6_takeNumber 25 = .ok (.getfield 9, 3) := by decide +kernel
theorem dX6_takeNumber_28 : decode cX6_takeNumber 28 = .ok (.iload 5, 2) := by decide +kernel
theorem dX6_takeNumber_30 : decode cX6_takeNumber 30 = .ok (.iconst 0, 1) := by decide +kernel
theorem dX6_takeNumber_31 : decode cX6_takeNumber 31 = .ok (.invokevirtual 122, 3) := by decide +kernel
theorem dX6_takeNumber_34 : decode cX6_takeNumber 34 = .ok (.invokestatic 125, 3) := by decide +kernel
theorem dX6_takeNumber_37 : decode cX6_takeNumber 37 = .ok (.ifCond .eq 44, 3) := by decide +kernel
theorem dX6_takeNumber_40 : decode cX6_takeNumber 40 = .ok (.iload 4, 2) := by decide +kernel
theorem dX6_takeNumber_42 : decode cX6_takeNumber 42 = .ok (.bipush 10, 2) := by decide +kernel
theorem dX6_takeNumber_44 : decode cX6_takeNumber 44 = .ok (.imul, 1) := by decide +kernel
theorem dX6_takeNumber_45 : decode cX6_takeNumber 45 = .ok (.aload_n 0, 1) := by decide +kernel
theorem dX6_takeNumber_46 : decode cX6_takeNumber 46 = .ok (.getfield 9, 3) := by decide +kernel
theorem dX6_takeNumber_49 : decode cX6_takeNumber 49 = .ok (.iload 5, 2) := by decide +kernel
theorem dX6_takeNumber_51 : decode cX6_takeNumber 51 = .ok (.iconst 0, 1) := by decide +kernel
theorem dX6_takeNumber_52 : decode cX6_takeNumber 52 = .ok (.invokevirtual 122, 3) := by decide +kernel
theorem dX6_takeNumber_55 : decode cX6_takeNumber 55 = .ok (.iadd, 1) := by decide +kernel
theorem dX6_takeNumber_56 : decode cX6_takeNumber 56 = .ok (.bipush 48, 2) := by decide +kernel
theorem dX6_takeNumber_58 : decode cX6_takeNumber 58 = .ok (.isub, 1) := by decide +kernel
theorem dX6_takeNumber_59 : decode cX6_takeNumber 59 = .ok (.sipush 10000, 3) := by decide +kernel
theorem dX6_takeNumber_62 : decode cX6_takeNumber 62 = .ok (.invokestatic 139, 3) := by decide +kernel
theorem dX6_takeNumber_65 : decode cX6_takeNumber 65 = .ok (.istore 4, 2) := by decide +kernel
theorem dX6_takeNumber_67 : decode cX6_takeNumber 67 = .ok (.aload_n 0, 1) := by decide +kernel
theorem dX6_takeNumber_68 : decode cX6_takeNumber 68 = .ok (.iload 5, 2) := by decide +kernel
theorem dX6_takeNumber_70 : decode cX6_takeNumber 70 = .ok (.iconst 1, 1) := by decide +kernel
theorem dX6_takeNumber_71 : decode cX6_takeNumber 71 = .ok (.iadd, 1) := by decide +kernel
theorem dX6_takeNumber_72 : decode cX6_takeNumber 72 = .ok (.putfield 31, 3) := by decide +kernel
theorem dX6_takeNumber_75 : decode cX6_takeNumber 75 = .ok (.iinc 5 1, 3) := by decide +kernel
theorem dX6_takeNumber_78 : decode cX6_takeNumber 78 = .ok (.goto (-63), 3) := by decide +kernel
theorem dX6_takeNumber_81 : decode cX6_takeNumber 81 = .ok (.aload_n 0, 1) := by decide +kernel
theorem dX6_takeNumber_82 : decode cX6_takeNumber 82 = .ok (.getfield 31, 3) := by decide +kernel
theorem dX6_takeNumber_85 : decode cX6_takeNumber 85 = .ok (.iload_n 3, 1) := by decide +kernel
theorem dX6_takeNumber_86 : decode cX6_takeNumber 86 = .ok (.if_icmp .ne 12, 3) := by decide +kernel
theorem dX6_takeNumber_89 : decode cX6_takeNumber 89 = .ok (.aload_n 0, 1) := by decide +kernel
theorem dX6_takeNumber_90 : decode cX6_takeNumber 90 = .ok (.iconst 1, 1) := by decide +kernel
theorem dX6_takeNumber_91 : decode cX6_takeNumber 91 = .ok (.iload_n 3, 1) := by decide +kernel
theorem dX6_takeNumber_92 : decode cX6_takeNumber 92 = .ok (.invokevirtual 52, 3) := by decide +kernel
theorem dX6_takeNumber_95 : decode cX6_takeNumber 95 = .ok (.pop, 1) := by decide +kernel
theorem dX6_takeNumber_96 : decode cX6_takeNumber 96 = .ok (.iconst (-1), 1) := by decide +kernel
theorem dX6_takeNumber_97 : decode cX6_takeNumber 97 = .ok (.ireturn, 1) := by decide +kernel
theorem dX6_takeNumber_98 : decode cX6_takeNumber 98 = .ok (.iload 4, 2) := by decide +kernel
theorem dX6_takeNumber_100 : decode cX6_takeNumber 100 = .ok (.iload_n 1, 1) := by decide +kernel
theorem dX6_takeNumber_101 : decode cX6_takeNumber 101 = .ok (.iload_n 2, 1) := by decide +kernel
theorem dX6_takeNumber_102 : decode cX6_takeNumber 102 = .ok (.invokestatic 144, 3) := by decide +kernel
theorem dX6_takeNumber_105 : decode cX6_takeNumber 105 = .ok (.ifCond .ne 12, 3) := by decide +kernel
theorem dX6_takeNumber_108 : decode cX6_takeNumber 108 = .ok (.aload_n 0, 1) := by decide +kernel
theorem dX6_takeNumber_109 : decode cX6_takeNumber 109 = .ok (.iconst 2, 1) := by decide +kernel
theorem dX6_takeNumber_110 : decode cX6_takeNumber 110 = .ok (.iload_n 3, 1) := by decide +kernel
theorem dX6_takeNumber_111 : decode cX6_takeNumber 111 = .ok (.invokevirtual 52, 3) := by decide +kernel
theorem dX6_takeNumber_114 : decode cX6_takeNumber 114 = .ok (.pop, 1) := by decide +kernel
theorem dX6_takeNumber_115 : decode cX6_takeNumber 115 = .ok (.iconst (-1), 1) := by decide +kernel
theorem dX6_takeNumber_116 : decode cX6_takeNumber 116 = .ok (.ireturn, 1) := by decide +kernel
theorem dX6_takeNumber_117 : decode cX6_takeNumber 117 = .ok (.iload 4, 2) := by decide +kernel
theorem dX6_takeNumber_119 : decode cX6_takeNumber 119 = .ok (.ireturn, 1) := by decide +kernel
def L_Reader_takeNumber_15 (k81 : Int32 → Int32 → Int32 → Int32 → CS → Option (Int32 × CS)) (x1 : Int32) (x2 : Int32) (x3 : Int32) : Nat → Int32 → Int32 → CS → Option (Int32 × CS)
  | 0, _, _, _ => none
  | n + 1, x4, x5, σ => if (σ.1 55) ≤ x5 then k81 x1 x2 x3 x4 σ else bnd (f_Table_get 0 x5 0 σ) (fun r31 σ31 => bnd (f_Reader_isDigit r31 σ31) (fun r34 σ34 => if r34 = 0 then k81 x1 x2 x3 x4 σ34 else bnd (f_Table_get 0 x5 0 σ34) (fun r52 σ52 => (L_Reader_takeNumber_15 k81 x1 x2 x3 n) (if 10000 < (((x4 * 10) + r52) - 48) then 10000 else (((x4 * 10) + r52) - 48)) (x5 + 1) (sF σ52 56 (x5 + 1)))))
set_option maxHeartbeats 4000000 in
set_option maxRecDepth 100000 in
theorem w_Reader_takeNumber_15 (C : Cx g p s m args meth c A 6 cX6_takeNumber yX6_takeNumber.cls) (hr : meth.sig.returnType = (some .int))  {res : Int32 × CS}  (x1 : Int32) (x2 : Int32) (x3 : Int32) {k81 : Int32 → Int32 → Int32 → Int32 → CS → Option (Int32 × CS)} (hk81 : ∀ (x1 : Int32) (x2 : Int32) (x3 : Int32) (x4 : Int32) (σ : CS) (ta : Nat → Nat), φ0 ≤ ph σ.2.2 → ph σ.2.2 ≤ BB → k81 x1 x2 x3 x4 σ = some res → NI g p l e s m args below meth c A 2 44 6 ad Rr φ0 res ta σ [(0, .ref (ad 4)), (1, .int x1), (2, .int x2), (3, .int x3), (4, .int x4)] 81 []) : ∀ (n : Nat) (x4 : Int32) (x5 : Int32) (σ : CS) (ta : Nat → Nat), φ0 ≤ ph σ.2.2 → ph σ.2.2 ≤ BB → L_Reader_takeNumber_15 k81 x1 x2 x3 n x4 x5 σ = some res → NI g p l e s m args below meth c A 2 44 6 ad Rr φ0 res ta σ [(0, .ref (ad 4)), (1, .int x1), (2, .int x2), (3, .int x3), (4, .int x4), (5, .int x5)] 15 [] := by
  intro n
  induction n with
  | zero =>
    intro x4 x5 σ ta hφ hφ2 h
    exact absurd (show (none : Option (Int32 × CS)) = some res from h) (by intro h9; cases h9)
  | succ n ih =>
    intro x4 x5 σ ta hφ hφ2 h
    rw [L_Reader_takeNumber_15] at h
    refine nw_iload C dX6_takeNumber_15 5 rfl ?_
    refine nw_aload_n C dX6_takeNumber_17 rfl 0 rfl ?_
    refine nw_get (v := .int (σ.1 55)) C in_X6 4 cl_Reader rfl 3 (by decide) tw_252 rfl rfl dX6_takeNumber_18 ?_
    refine nw_icmp_ge (tgt := 81) C dX6_takeNumber_21 (by decide) h (fun _ h => ?_) (fun _ h => ?_)
    · exact nw_lv (lv' := [(0, .ref (ad 4)), (1, .int x1), (2, .int x2), (3, .int x3), (4, .int x4)]) [0, 1, 2, 3, 4] rfl (hk81 x1 x2 x3 x4 _ _ hφ hφ2 h)
    · refine nw_aload_n C dX6_takeNumber_24 rfl 0 rfl ?_
      refine nw_get (v := .ref (ad 11)) C in_X6 4 cl_Reader rfl 0 (by decide) tw_249 rfl rfl dX6_takeNumber_25 ?_
      refine nw_iload C dX6_takeNumber_28 5 rfl ?_
      refine nw_iconst (v := 0) C dX6_takeNumber_30 (by decide) ?_
      refine nc_callVI (q0 := 11) (As := [.int x5, .int 0]) (rest := []) C h (fun _ _ e => c_Table_get 0 (by decide) e hφ2) tw_1090 kv_X9_get (cl_T 0 (by decide)) rfl ⟨Nat.le_of_ble_eq_true rfl, Nat.le_of_ble_eq_true rfl⟩ rfl dX6_takeNumber_31 rfl (Nat.le_of_ble_eq_true rfl) hφ hφ2 (fun r31 σ31 ta h hφ hφ2 => ?_)
      refine nc_callSI  (As := [.int r31]) (rest := []) C h (fun _ _ e => c_Reader_isDigit e hφ2) tw_1213 ks_X6_isDigit ⟨Nat.le_of_ble_eq_true rfl, Nat.le_of_ble_eq_true rfl⟩ rfl dX6_takeNumber_34 rfl (Nat.le_of_ble_eq_true rfl) hφ hφ2 (fun r34 σ34 ta h hφ hφ2 => ?_)
      refine nw_if_eq (tgt := 81) C dX6_takeNumber_37 (by decide) h (fun _ h => ?_) (fun _ h => ?_)
      · exact nw_lv (lv' := [(0, .ref (ad 4)), (1, .int x1), (2, .int x2), (3, .int x3), (4, .int x4)]) [0, 1, 2, 3, 4] rfl (hk81 x1 x2 x3 x4 _ _ hφ hφ2 h)
      · refine nw_iload C dX6_takeNumber_40 4 rfl ?_
        refine nw_bipush (v := 10) C dX6_takeNumber_42 (by decide) ?_
        refine nw_imul C dX6_takeNumber_44 ?_
        refine nw_aload_n C dX6_takeNumber_45 rfl 0 rfl ?_
        refine nw_get (v := .ref (ad 11)) C in_X6 4 cl_Reader rfl 0 (by decide) tw_249 rfl rfl dX6_takeNumber_46 ?_
        refine nw_iload C dX6_takeNumber_49 5 rfl ?_
        refine nw_iconst (v := 0) C dX6_takeNumber_51 (by decide) ?_
        refine nc_callVI (q0 := 11) (As := [.int x5, .int 0]) (rest := [.int (x4 * 10)]) C h (fun _ _ e => c_Table_get 0 (by decide) e hφ2) tw_1090 kv_X9_get (cl_T 0 (by decide)) rfl ⟨Nat.le_of_ble_eq_true rfl, Nat.le_of_ble_eq_true rfl⟩ rfl dX6_takeNumber_52 rfl (Nat.le_of_ble_eq_true rfl) hφ hφ2 (fun r52 σ52 ta h hφ hφ2 => ?_)
        refine nw_iadd C dX6_takeNumber_55 ?_
        refine nw_bipush (v := 48) C dX6_takeNumber_56 (by decide) ?_
        refine nw_isub C dX6_takeNumber_58 ?_
        refine nw_sipush (v := 10000) C dX6_takeNumber_59 (by decide) ?_
        refine nw_mmin C tw_1220 tw_367 tw_125 tm_min (Nat.le_of_ble_eq_true rfl) (Nat.le_of_ble_eq_true rfl) (Nat.sub_le_sub_right hφ2 _) (Nat.mul_le_mul_left 2 (Nat.sub_le_sub_right hφ2 _)) dX6_takeNumber_62 ?_
        refine nw_istore (lv' := [(4, .int (if 10000 < (((x4 * 10) + r52) - 48) then 10000 else (((x4 * 10) + r52) - 48))), (0, .ref (ad 4)), (1, .int x1), (2, .int x2), (3, .int x3), (5, .int x5)]) C dX6_takeNumber_65 (by decide) rfl ?_
        refine nw_aload_n C dX6_takeNumber_67 rfl 1 rfl ?_
        refine nw_iload C dX6_takeNumber_68 5 rfl ?_
        refine nw_iconst (v := 1) C dX6_takeNumber_70 (by decide) ?_
        refine nw_iadd C dX6_takeNumber_71 ?_
        refine nw_put (ty := .int) C in_X6 4 cl_Reader rfl 4 (by decide) tyX6 tyX6_ok nmX6 tw_253 rfl rfl (by decide +kernel) rfl rfl (Nat.le_of_ble_eq_true rfl) dX6_takeNumber_72 cs_Reader_at ?_
        refine nw_iinc (lv' := [(5, .int (x5 + 1)), (4, .int (if 10000 < (((x4 * 10) + r52) - 48) then 10000 else (((x4 * 10) + r52) - 48))), (0, .ref (ad 4)), (1, .int x1), (2, .int x2), (3, .int x3)]) C (x5 + 1) dX6_takeNumber_75 5 rfl rfl (by decide) rfl ?_
        refine nw_goto (tgt := 15) C dX6_takeNumber_78 (by decide) ?_
        exact nw_lv (lv' := [(0, .ref (ad 4)), (1, .int x1), (2, .int x2), (3, .int x3), (4, .int (if 10000 < (((x4 * 10) + r52) - 48) then 10000 else (((x4 * 10) + r52) - 48))), (5, .int (x5 + 1))]) [2, 3, 4, 5, 1, 0] rfl (ih (if 10000 < (((x4 * 10) + r52) - 48) then 10000 else (((x4 * 10) + r52) - 48)) (x5 + 1) _ _ hφ hφ2 h)
def B_Reader_takeNumber_81   (x1 : Int32) (x2 : Int32) (x3 : Int32) (x4 : Int32) (σ : CS) : Option (Int32 × CS) := if (σ.1 56) = x3 then bnd (f_Reader_fail 1 x3 σ) (fun r92 σ92 => some ((-1), σ92)) else bnd (f_FC_within x4 x1 x2 σ) (fun r102 σ102 => if r102 = 0 then bnd (f_Reader_fail 2 x3 σ102) (fun r111 σ111 => some ((-1), σ111)) else some (x4, σ102))
set_option maxHeartbeats 4000000 in
set_option maxRecDepth 100000 in
theorem w_Reader_takeNumber_81 (C : Cx g p s m args meth c A 6 cX6_takeNumber yX6_takeNumber.cls) (hr : meth.sig.returnType = (some .int))  {res : Int32 × CS}   (x1 : Int32) (x2 : Int32) (x3 : Int32) (x4 : Int32)  (σ : CS) (ta : Nat → Nat) (hφ : φ0 ≤ ph σ.2.2) (hφ2 : ph σ.2.2 ≤ BB) (h : B_Reader_takeNumber_81 x1 x2 x3 x4 σ = some res) : NI g p l e s m args below meth c A 2 44 6 ad Rr φ0 res ta σ [(0, .ref (ad 4)), (1, .int x1), (2, .int x2), (3, .int x3), (4, .int x4)] 81 [] := by
  unfold B_Reader_takeNumber_81 at h
  refine nw_aload_n C dX6_takeNumber_81 rfl 0 rfl ?_
  refine nw_get (v := .int (σ.1 56)) C in_X6 4 cl_Reader rfl 4 (by decide) tw_253 rfl rfl dX6_takeNumber_82 ?_
  refine nw_iload_n C dX6_takeNumber_85 rfl 3 rfl ?_
  refine nw_icmp_ne (tgt := 98) C dX6_takeNumber_86 (by decide) h (fun _ h => ?_) (fun _ h => ?_)
  · refine nw_aload_n C dX6_takeNumber_89 rfl 0 rfl ?_
    refine nw_iconst (v := 1) C dX6_takeNumber_90 (by decide) ?_
    refine nw_iload_n C dX6_takeNumber_91 rfl 3 rfl ?_
    refine nc_callVI (q0 := 4) (As := [.int 1, .int x3]) (rest := []) C h (fun _ _ e => c_Reader_fail e hφ2) tw_1156 kv_X6_fail cl_Reader rfl ⟨Nat.le_of_ble_eq_true rfl, Nat.le_of_ble_eq_true rfl⟩ rfl dX6_takeNumber_92 rfl (Nat.le_of_ble_eq_true rfl) hφ hφ2 (fun r92 σ92 ta h hφ hφ2 => ?_)
    refine nw_pop C dX6_takeNumber_95 rfl ?_
    refine nw_iconst (v := (-1)) C dX6_takeNumber_96 (by decide) ?_
    exact nc_iret C hr dX6_takeNumber_97 hφ hφ2 h
  · refine nw_iload C dX6_takeNumber_98 4 rfl ?_
    refine nw_iload_n C dX6_takeNumber_100 rfl 1 rfl ?_
    refine nw_iload_n C dX6_takeNumber_101 rfl 2 rfl ?_
    refine nc_callSNI  (As := [.int x4, .int x1, .int x2]) (rest := []) C h (fun _ _ e => c_FC_within e hφ2) tw_1103 ks_X11_within ⟨Nat.le_of_ble_eq_true rfl, Nat.le_of_ble_eq_true rfl⟩ rfl dX6_takeNumber_102 rfl (Nat.le_of_ble_eq_true rfl) hφ hφ2 (fun r102 σ102 ta h hφ hφ2 => ?_)
    refine nw_if_ne (tgt := 117) C dX6_takeNumber_105 (by decide) h (fun _ h => ?_) (fun _ h => ?_)
    · refine nw_aload_n C dX6_takeNumber_108 rfl 0 rfl ?_
      refine nw_iconst (v := 2) C dX6_takeNumber_109 (by decide) ?_
      refine nw_iload_n C dX6_takeNumber_110 rfl 3 rfl ?_
      refine nc_callVI (q0 := 4) (As := [.int 2, .int x3]) (rest := []) C h (fun _ _ e => c_Reader_fail e hφ2) tw_1156 kv_X6_fail cl_Reader rfl ⟨Nat.le_of_ble_eq_true rfl, Nat.le_of_ble_eq_true rfl⟩ rfl dX6_takeNumber_111 rfl (Nat.le_of_ble_eq_true rfl) hφ hφ2 (fun r111 σ111 ta h hφ hφ2 => ?_)
      refine nw_pop C dX6_takeNumber_114 rfl ?_
      refine nw_iconst (v := (-1)) C dX6_takeNumber_115 (by decide) ?_
      exact nc_iret C hr dX6_takeNumber_116 hφ hφ2 h
    · refine nw_iload C dX6_takeNumber_117 4 rfl ?_
      exact nc_iret C hr dX6_takeNumber_119 hφ hφ2 h
def f_Reader_takeNumber (p0 : Int32) (p1 : Int32) (σ : CS) : Option (Int32 × CS) := bnd (f_Reader_skipBlanks σ) (fun _ σ1 => L_Reader_takeNumber_15 (B_Reader_takeNumber_81) p0 p1 (σ1.1 56) FU 0 (σ1.1 56) σ1)
set_option maxHeartbeats 4000000 in
set_option maxRecDepth 100000 in
theorem c_Reader_takeNumber {l : Launch} {g : EG} {ad ta : Nat → Nat} {Rr : va_W} {σ σ' : CS} {r : Int32} {p0 : Int32} {p1 : Int32}  (h : f_Reader_takeNumber p0 p1 σ = some (r, σ')) (hφ2 : ph σ.2.2 ≤ BB) : CtI l g yX6_takeNumber (.code yX6_takeNumber cX6_takeNumber 6 (some .int)) 2 44 ad ta Rr σ [.ref (ad 4), .int p0, .int p1] r σ' := by
  refine Ct.of rfl (by decide) (Nat.le_of_ble_eq_true rfl) ?_
  intro p e s m args below meth c A C hr
  have hφ : ph σ.2.2 ≤ ph σ.2.2 := Nat.le_refl _
  refine nw_zero (ph σ.2.2) ?_
  show NI g p l e s m args below meth c A 2 44 6 ad Rr (ph σ.2.2) (r, σ') ta σ [(0, .ref (ad 4)), (1, .int p0), (2, .int p1)] 0 []
  unfold f_Reader_takeNumber at h
  refine nw_aload_n C dX6_takeNumber_0 rfl 0 rfl ?_
  refine nc_callVV (q0 := 4) (As := []) (rest := []) C h (fun _ _ e => c_Reader_skipBlanks e hφ2) tw_1086 kv_X6_skipBlanks cl_Reader rfl ⟨Nat.le_of_ble_eq_true rfl, Nat.le_of_ble_eq_true rfl⟩ rfl dX6_takeNumber_1 rfl (Nat.le_of_ble_eq_true rfl) hφ hφ2 (fun r1 σ1 ta h hφ hφ2 => ?_)
  refine nw_aload_n C dX6_takeNumber_4 rfl 0 rfl ?_
  refine nw_get (v := .int (σ1.1 56)) C in_X6 4 cl_Reader rfl 4 (by decide) tw_253 rfl rfl dX6_takeNumber_5 ?_
  refine nw_istore_n (lv' := [(3, .int (σ1.1 56)), (0, .ref (ad 4)), (1, .int p0), (2, .int p1)]) C dX6_takeNumber_8 rfl (by decide) rfl ?_
  refine nw_iconst (v := 0) C dX6_takeNumber_9 (by decide) ?_
  refine nw_istore (lv' := [(4, .int 0), (3, .int (σ1.1 56)), (0, .ref (ad 4)), (1, .int p0), (2, .int p1)]) C dX6_takeNumber_10 (by decide) rfl ?_
  refine nw_iload_n C dX6_takeNumber_12 rfl 1 rfl ?_
  refine nw_istore (lv' := [(5, .int (σ1.1 56)), (4, .int 0), (3, .int (σ1.1 56)), (0, .ref (ad 4)), (1, .int p0), (2, .int p1)]) C dX6_takeNumber_13 (by decide) rfl ?_
  exact nw_lv (lv' := [(0, .ref (ad 4)), (1, .int p0), (2, .int p1), (3, .int (σ1.1 56)), (4, .int 0), (5, .int (σ1.1 56))]) [3, 4, 5, 2, 1, 0] rfl (w_Reader_takeNumber_15 C hr p0 p1 (σ1.1 56) (fun x1_ x2_ x3_ x4_ σ_ ta_ hφ_ hφ2_ h_ => w_Reader_takeNumber_81 C hr x1_ x2_ x3_ x4_ σ_ ta_ hφ_ hφ2_ h_) FU 0 (σ1.1 56) _ _ hφ hφ2 h)
theorem dX6_readPick_0 : decode cX6_readPick 0 = .ok (.aload_n 0, 1) := by decide +kernel
theorem dX6_readPick_1 : decode cX6_readPick 1 = .ok (.invokevirtual 43, 3) := by decide +kernel
theorem dX6_readPick_4 : decode cX6_readPick 4 = .ok (.aload_n 0, 1) := by decide +kernel
theorem dX6_readPick_5 : decode cX6_readPick 5 = .ok (.getfield 31, 3) := by decide +kernel
theorem dX6_readPick_8 : decode cX6_readPick 8 = .ok (.istore_n 3, 1) := by decide +kernel
theorem dX6_readPick_9 : decode cX6_readPick 9 = .ok (.aload_n 0, 1) := by decide +kernel
theorem dX6_readPick_10 : decode cX6_readPick 10 = .ok (.bipush 40, 2) := by decide +kernel
theorem dX6_readPick_12 : decode cX6_readPick 12 = .ok (.invokevirtual 74, 3) := by decide +kernel
theorem dX6_readPick_15 : decode cX6_readPick 15 = .ok (.ifCond .eq 66, 3) := by decide +kernel
theorem dX6_readPick_18 : decode cX6_readPick 18 = .ok (.aload_n 0, 1) := by decide +kernel
theorem dX6_readPick_19 : decode cX6_readPick 19 = .ok (.iload_n 1, 1) := by decide +kernel
theorem dX6_readPick_20 : decode cX6_readPick 20 = .ok (.iload_n 3, 1) := by decide +kernel
theorem dX6_readPick_21 : decode cX6_readPick 21 = .ok (.invokevirtual 110, 3) := by decide +kernel
theorem dX6_readPick_24 : decode cX6_readPick 24 = .ok (.ifCond .eq 57, 3) := by decide +kernel
theorem dX6_readPick_27 : decode cX6_readPick 27 = .ok (.aload_n 0, 1) := by decide +kernel
theorem dX6_readPick_28 : decode cX6_readPick 28 = .ok (.iload_n 1, 1) := by decide +kernel
theorem dX6_readPick_29 : decode cX6_readPick 29 = .ok (.iconst 1, 1) := by decide +kernel
theorem dX6_readPick_30 : decode cX6_readPick 30 = .ok (.iadd, 1) := by decide +kernel
theorem dX6_readPick_31 : decode cX6_readPick 31 = .ok (.invokevirtual 77, 3) := by decide +kernel
theorem dX6_readPick_34 : decode cX6_readPick 34 = .ok (.ifCond .eq 47, 3) := by decide +kernel
theorem dX6_readPick_37 : decode cX6_readPick 37 = .ok (.aload_n 0, 1) := by decide +kernel
theorem dX6_readPick_38 : decode cX6_readPick 38 = .ok (.bipush 44, 2) := by decide +kernel
theorem dX6_readPick_40 : decode cX6_readPick 40 = .ok (.invokevirtual 74, 3) := by decide +kernel
theorem dX6_readPick_43 : decode cX6_readPick 43 = .ok (.ifCond .eq 38, 3) := by decide +kernel
theorem dX6_readPick_46 : decode cX6_readPick 46 = .ok (.aload_n 0, 1) := by decide +kernel
theorem dX6_readPick_47 : decode cX6_readPick 47 = .ok (.iload_n 1, 1) := by decide +kernel
theorem dX6_readPick_48 : decode cX6_readPick 48 = .ok (.iconst 1, 1) := by decide +kernel
theorem dX6_readPick_49 : decode cX6_readPick 49 = .ok (.iadd, 1) := by decide +kernel
theorem dX6_readPick_50 : decode cX6_readPick 50 = .ok (.invokevirtual 77, 3) := by decide +kernel
theorem dX6_readPick_53 : decode cX6_readPick 53 = .ok (.ifCond .eq 28, 3) := by decide +kernel
theorem dX6_readPick_56 : decode cX6_readPick 56 = .ok (.aload_n 0, 1) := by decide +kernel
theorem dX6_readPick_57 : decode cX6_readPick 57 = .ok (.bipush 41, 2) := by decide +kernel
theorem dX6_readPick_59 : decode cX6_readPick 59 = .ok (.invokevirtual 74, 3) := by decide +kernel
theorem dX6_readPick_62 : decode cX6_readPick 62 = .ok (.ifCond .eq 19, 3) := by decide +kernel
theorem dX6_readPick_65 : decode cX6_readPick 65 = .ok (.aload_n 0, 1) := by decide +kernel
theorem dX6_readPick_66 : decode cX6_readPick 66 = .ok (.sipush 10020, 3) := by decide +kernel
theorem dX6_readPick_69 : decode cX6_readPick 69 = .ok (.iload_n 2, 1) := by decide +kernel
theorem dX6_readPick_70 : decode cX6_readPick 70 = .ok (.iadd, 1) := by decide +kernel
theorem dX6_readPick_71 : decode cX6_readPick 71 = .ok (.invokevirtual 100, 3) := by decide +kernel
theorem dX6_readPick_74 : decode cX6_readPick 74 = .ok (.ifCond .eq 7, 3) := by decide +kernel
theorem dX6_readPick_77 : decode cX6_readPick 77 = .ok (.iconst 1, 1) := by decide +kernel
theorem dX6_readPick_78 : decode cX6_readPick 78 = .ok (.goto 4, 3) := by decide +kernel
theorem dX6_readPick_81 : decode cX6_readPick 81 = .ok (.iconst 0, 1) := by decide +kernel
theorem dX6_readPick_82 : decode cX6_readPick 82 = .ok (.ireturn, 1) := by decide +kernel
def f_Reader_readPick (rc : Nat → Int32 → Int32 → CS → Option (Int32 × CS)) (p0 : Int32) (p1 : Int32) (σ : CS) : Option (Int32 × CS) := bnd (f_Reader_skipBlanks σ) (fun _ σ1 => bnd (f_Reader_needSign 40 σ1) (fun r12 σ12 => if r12 = 0 then some (0, σ12) else bnd (f_Reader_mayOpen p0 (σ1.1 56) σ12) (fun r21 σ21 => if r21 = 0 then some (0, σ21) else bnd (rc 3 (p0 + 1) 0 σ21) (fun r31 σ31 => if r31 = 0 then some (0, σ31) else bnd (f_Reader_needSign 44 σ31) (fun r40 σ40 => if r40 = 0 then some (0, σ40) else bnd (rc 3 (p0 + 1) 0 σ40) (fun r50 σ50 => if r50 = 0 then some (0, σ50) else bnd (f_Reader_needSign 41 σ50) (fun r59 σ59 => if r59 = 0 then some (0, σ59) else bnd (f_Reader_emit (10020 + p1) σ59) (fun r71 σ71 => if r71 = 0 then some (0, σ71) else some (1, σ71)))))))))
set_option maxHeartbeats 4000000 in
set_option maxRecDepth 100000 in
theorem c_Reader_readPick {l : Launch} {g : EG} {ad ta : Nat → Nat} {Rr : va_W} {σ σ' : CS} {r : Int32} {p0 : Int32} {p1 : Int32} {d : Nat} {rc : Nat → Int32 → Int32 → CS → Option (Int32 × CS)} (hrc0 : ∀ {l : Launch} {g : EG} {ad ta : Nat → Nat} {Rr : va_W} {σ σ' : CS} {r : Int32} {a0 : Int32}, rc 0 a0 0 σ = some (r, σ') → ph σ.2.2 ≤ BB → CtI l g yX6_readEither (.code yX6_readEither cX6_readEither 4 (some .boolean)) (10 * d) (400 * d) ad ta Rr σ [.ref (ad 4), .int a0] r σ') (hrc1 : ∀ {l : Launch} {g : EG} {ad ta : Nat → Nat} {Rr : va_W} {σ σ' : CS} {r : Int32} {a0 : Int32}, rc 1 a0 0 σ = some (r, σ') → ph σ.2.2 ≤ BB → CtI l g yX6_readBoth (.code yX6_readBoth cX6_readBoth 4 (some .boolean)) (10 * d) (400 * d) ad ta Rr σ [.ref (ad 4), .int a0] r σ') (hrc2 : ∀ {l : Launch} {g : EG} {ad ta : Nat → Nat} {Rr : va_W} {σ σ' : CS} {r : Int32} {a0 : Int32}, rc 2 a0 0 σ = some (r, σ') → ph σ.2.2 ≤ BB → CtI l g yX6_readTest (.code yX6_readTest cX6_readTest 3 (some .boolean)) (10 * d) (400 * d) ad ta Rr σ [.ref (ad 4), .int a0] r σ') (hrc3 : ∀ {l : Launch} {g : EG} {ad ta : Nat → Nat} {Rr : va_W} {σ σ' : CS} {r : Int32} {a0 : Int32}, rc 3 a0 0 σ = some (r, σ') → ph σ.2.2 ≤ BB → CtI l g yX6_readSum (.code yX6_readSum cX6_readSum 4 (some .boolean)) (10 * d) (400 * d) ad ta Rr σ [.ref (ad 4), .int a0] r σ') (hrc4 : ∀ {l : Launch} {g : EG} {ad ta : Nat → Nat} {Rr : va_W} {σ σ' : CS} {r : Int32} {a0 : Int32}, rc 4 a0 0 σ = some (r, σ') → ph σ.2.2 ≤ BB → CtI l g yX6_readProduct (.code yX6_readProduct cX6_readProduct 4 (some .boolean)) (10 * d) (400 * d) ad ta Rr σ [.ref (ad 4), .int a0] r σ') (hrc5 : ∀ {l : Launch} {g : EG} {ad ta : Nat → Nat} {Rr : va_W} {σ σ' : CS} {r : Int32} {a0 : Int32}, rc 5 a0 0 σ = some (r, σ') → ph σ.2.2 ≤ BB → CtI l g yX6_readValue (.code yX6_readValue cX6_readValue 5 (some .boolean)) (10 * d) (400 * d) ad ta Rr σ [.ref (ad 4), .int a0] r σ') (hrc6 : ∀ {l : Launch} {g : EG} {ad ta : Nat → Nat} {Rr : va_W} {σ σ' : CS} {r : Int32} {a0 a1 : Int32}, rc 6 a0 a1 σ = some (r, σ') → ph σ.2.2 ≤ BB → CtI l g yX6_readPick (.code yX6_readPick cX6_readPick 4 (some .boolean)) (10 * d) (400 * d) ad ta Rr σ [.ref (ad 4), .int a0, .int a1] r σ')  (h : f_Reader_readPick rc p0 p1 σ = some (r, σ')) (hφ2 : ph σ.2.2 ≤ BB) : CtI l g yX6_readPick (.code yX6_readPick cX6_readPick 4 (some .boolean)) (10 * d + 10) (400 * d + 400) ad ta Rr σ [.ref (ad 4), .int p0, .int p1] r σ' := by
  refine Ct.of rfl (by decide) (Nat.le_of_ble_eq_true rfl) ?_
  intro p e s m args below meth c A C hr
  have hφ : ph σ.2.2 ≤ ph σ.2.2 := Nat.le_refl _
  refine nw_zero (ph σ.2.2) ?_
  show NI g p l e s m args below meth c A (10 * d + 10) (400 * d + 400) 4 ad Rr (ph σ.2.2) (r, σ') ta σ [(0, .ref (ad 4)), (1, .int p0), (2, .int p1)] 0 []
  unfold f_Reader_readPick at h
  refine nw_aload_n C dX6_readPick_0 rfl 0 rfl ?_
  refine nc_callVV (q0 := 4) (As := []) (rest := []) C h (fun _ _ e => c_Reader_skipBlanks e hφ2) tw_1086 kv_X6_skipBlanks cl_Reader rfl ⟨by omega, by omega⟩ rfl dX6_readPick_1 rfl (Nat.le_of_ble_eq_true rfl) hφ hφ2 (fun r1 σ1 ta h hφ hφ2 => ?_)
  refine nw_aload_n C dX6_readPick_4 rfl 0 rfl ?_
  refine nw_get (v := .int (σ1.1 56)) C in_X6 4 cl_Reader rfl 4 (by decide) tw_253 rfl rfl dX6_readPick_5 ?_
  refine nw_istore_n (lv' := [(3, .int (σ1.1 56)), (0, .ref (ad 4)), (1, .int p0), (2, .int p1)]) C dX6_readPick_8 rfl (by decide) rfl ?_
  refine nw_aload_n C dX6_readPick_9 rfl 1 rfl ?_
  refine nw_bipush (v := 40) C dX6_readPick_10 (by decide) ?_
  refine nc_callVI (q0 := 4) (As := [.int 40]) (rest := []) C h (fun _ _ e => c_Reader_needSign e hφ2) tw_1197 kv_X6_needSign cl_Reader rfl ⟨by omega, by omega⟩ rfl dX6_readPick_12 rfl (Nat.le_of_ble_eq_true rfl) hφ hφ2 (fun r12 σ12 ta h hφ hφ2 => ?_)
  refine nw_if_eq (tgt := 81) C dX6_readPick_15 (by decide) h (fun _ h => ?_) (fun _ h => ?_)
  · refine nw_iconst (v := 0) C dX6_readPick_81 (by decide) ?_
    exact nc_zret C hr (Or.inl rfl) dX6_readPick_82 hφ hφ2 h
  · refine nw_aload_n C dX6_readPick_18 rfl 1 rfl ?_
    refine nw_iload_n C dX6_readPick_19 rfl 2 rfl ?_
    refine nw_iload_n C dX6_readPick_20 rfl 0 rfl ?_
    refine nc_callVI (q0 := 4) (As := [.int p0, .int (σ1.1 56)]) (rest := []) C h (fun _ _ e => c_Reader_mayOpen e hφ2) tw_1181 kv_X6_mayOpen cl_Reader rfl ⟨by omega, by omega⟩ rfl dX6_readPick_21 rfl (Nat.le_of_ble_eq_true rfl) hφ hφ2 (fun r21 σ21 ta h hφ hφ2 => ?_)
    refine nw_if_eq (tgt := 81) C dX6_readPick_24 (by decide) h (fun _ h => ?_) (fun _ h => ?_)
    · refine nw_iconst (v := 0) C dX6_readPick_81 (by decide) ?_
      exact nc_zret C hr (Or.inl rfl) dX6_readPick_82 hφ hφ2 h
    · refine nw_aload_n C dX6_readPick_27 rfl 1 rfl ?_
      refine nw_iload_n C dX6_readPick_28 rfl 2 rfl ?_
      refine nw_iconst (v := 1) C dX6_readPick_29 (by decide) ?_
      refine nw_iadd C dX6_readPick_30 ?_
      refine nc_callVI (q0 := 4) (As := [.int (p0 + 1)]) (rest := []) C h (fun _ _ e => hrc3 e hφ2) tw_1201 kv_X6_readSum cl_Reader rfl ⟨by omega, by omega⟩ rfl dX6_readPick_31 rfl (Nat.le_of_ble_eq_true rfl) hφ hφ2 (fun r31 σ31 ta h hφ hφ2 => ?_)
      refine nw_if_eq (tgt := 81) C dX6_readPick_34 (by decide) h (fun _ h => ?_) (fun _ h => ?_)
      · refine nw_iconst (v := 0) C dX6_readPick_81 (by decide) ?_
        exact nc_zret C hr (Or.inl rfl) dX6_readPick_82 hφ hφ2 h
      · refine nw_aload_n C dX6_readPick_37 rfl 1 rfl ?_
        refine nw_bipush (v := 44) C dX6_readPick_38 (by decide) ?_
        refine nc_callVI (q0 := 4) (As := [.int 44]) (rest := []) C h (fun _ _ e => c_Reader_needSign e hφ2) tw_1197 kv_X6_needSign cl_Reader rfl ⟨by omega, by omega⟩ rfl dX6_readPick_40 rfl (Nat.le_of_ble_eq_true rfl) hφ hφ2 (fun r40 σ40 ta h hφ hφ2 => ?_)
        refine nw_if_eq (tgt := 81) C dX6_readPick_43 (by decide) h (fun _ h => ?_) (fun _ h => ?_)
        · refine nw_iconst (v := 0) C dX6_readPick_81 (by decide) ?_
          exact nc_zret C hr (Or.inl rfl) dX6_readPick_82 hφ hφ2 h
        · refine nw_aload_n C dX6_readPick_46 rfl 1 rfl ?_
          refine nw_iload_n C dX6_readPick_47 rfl 2 rfl ?_
          refine nw_iconst (v := 1) C dX6_readPick_48 (by decide) ?_
          refine nw_iadd C dX6_readPick_49 ?_
          refine nc_callVI (q0 := 4) (As := [.int (p0 + 1)]) (rest := []) C h (fun _ _ e => hrc3 e hφ2) tw_1201 kv_X6_readSum cl_Reader rfl ⟨by omega, by omega⟩ rfl dX6_readPick_50 rfl (Nat.le_of_ble_eq_true rfl) hφ hφ2 (fun r50 σ50 ta h hφ hφ2 => ?_)
          refine nw_if_eq (tgt := 81) C dX6_readPick_53 (by decide) h (fun _ h => ?_) (fun _ h => ?_)
          · refine nw_iconst (v := 0) C dX6_readPick_81 (by decide) ?_
            exact nc_zret C hr (Or.inl rfl) dX6_readPick_82 hφ hφ2 h
          · refine nw_aload_n C dX6_readPick_56 rfl 1 rfl ?_
            refine nw_bipush (v := 41) C dX6_readPick_57 (by decide) ?_
            refine nc_callVI (q0 := 4) (As := [.int 41]) (rest := []) C h (fun _ _ e => c_Reader_needSign e hφ2) tw_1197 kv_X6_needSign cl_Reader rfl ⟨by omega, by omega⟩ rfl dX6_readPick_59 rfl (Nat.le_of_ble_eq_true rfl) hφ hφ2 (fun r59 σ59 ta h hφ hφ2 => ?_)
            refine nw_if_eq (tgt := 81) C dX6_readPick_62 (by decide) h (fun _ h => ?_) (fun _ h => ?_)
            · refine nw_iconst (v := 0) C dX6_readPick_81 (by decide) ?_
              exact nc_zret C hr (Or.inl rfl) dX6_readPick_82 hφ hφ2 h
            · refine nw_aload_n C dX6_readPick_65 rfl 1 rfl ?_
              refine nw_sipush (v := 10020) C dX6_readPick_66 (by decide) ?_
              refine nw_iload_n C dX6_readPick_69 rfl 3 rfl ?_
              refine nw_iadd C dX6_readPick_70 ?_
              refine nc_callVI (q0 := 4) (As := [.int (10020 + p1)]) (rest := []) C h (fun _ _ e => c_Reader_emit e hφ2) tw_1185 kv_X6_emit cl_Reader rfl ⟨by omega, by omega⟩ rfl dX6_readPick_71 rfl (Nat.le_of_ble_eq_true rfl) hφ hφ2 (fun r71 σ71 ta h hφ hφ2 => ?_)
              refine nw_if_eq (tgt := 81) C dX6_readPick_74 (by decide) h (fun _ h => ?_) (fun _ h => ?_)
              · refine nw_iconst (v := 0) C dX6_readPick_81 (by decide) ?_
                exact nc_zret C hr (Or.inl rfl) dX6_readPick_82 hφ hφ2 h
              · refine nw_iconst (v := 1) C dX6_readPick_77 (by decide) ?_
                refine nw_goto (tgt := 82) C dX6_readPick_78 (by decide) ?_
                exact nc_zret C hr (Or.inr rfl) dX6_readPick_82 hφ hφ2 h
theorem dX6_readValue_0 : decode cX6_readValue 0 = .ok (.aload_n 0, 1) := by decide +kernel
theorem dX6_readValue_1 : decode cX6_readValue 1 = .ok (.invokevirtual 43, 3) := by decide +kernel
theorem dX6_readValue_4 : decode cX6_readValue 4 = .ok (.aload_n 0, 1) := by decide +kernel
theorem dX6_readValue_5 : decode cX6_readValue 5 = .ok (.getfield 31, 3) := by decide +kernel
theorem dX6_readValue_8 : decode cX6_readValue 8 = .ok (.istore_n 2, 1) := by decide +kernel
theorem dX6_readValue_9 : decode cX6_readValue 9 = .ok (.aload_n 0, 1) := by decide +kernel
theorem dX6_readValue_10 : decode cX6_readValue 10 = .ok (.getfield 9, 3) := by decide +kernel
theorem dX6_readValue_13 : decode cX6_readValue 13 = .ok (.aload_n 0, 1) := by decide +kernel
theorem dX6_readValue_14 : decode cX6_readValue 14 = .ok (.getfield 31, 3) := by decide +kernel
theorem dX6_readValue_17 : decode cX6_readValue 17 = .ok (.iconst 0, 1) := by decide +kernel
theorem dX6_readValue_18 : decode cX6_readValue 18 = .ok (.invokevirtual 122, 3) := by decide +kernel
theorem dX6_readValue_21 : decode cX6_readValue 21 = .ok (.invokestatic 125, 3) := by decide +kernel
theorem dX6_readValue_24 : decode cX6_readValue 24 = .ok (.ifCond .eq 31, 3) := by decide +kernel
theorem dX6_readValue_27 : decode cX6_readValue 27 = .ok (.aload_n 0, 1) := by decide +kernel
theorem dX6_readValue_28 : decode cX6_readValue 28 = .ok (.iconst 0, 1) := by decide +kernel
theorem dX6_readValue_29 : decode cX6_readValue 29 = .ok (.sipush 9999, 3) := by decide +kernel
theorem dX6_readValue_32 : decode cX6_readValue 32 = .ok (.invokevirtual 91, 3) := by decide +kernel
theorem dX6_readValue_35 : decode cX6_readValue 35 = .ok (.istore_n 3, 1) := by decide +kernel
theorem dX6_readValue_36 : decode cX6_readValue 36 = .ok (.iload_n 3, 1) := by decide +kernel
theorem dX6_readValue_37 : decode cX6_readValue 37 = .ok (.iconst (-1), 1) := by decide +kernel
theorem dX6_readValue_38 : decode cX6_readValue 38 = .ok (.if_icmp .eq 15, 3) := by decide +kernel
theorem dX6_readValue_41 : decode cX6_readValue 41 = .ok (.aload_n 0, 1) := by decide +kernel
theorem dX6_readValue_42 : decode cX6_readValue 42 = .ok (.iload_n 3, 1) := by decide +kernel
theorem dX6_readValue_43 : decode cX6_readValue 43 = .ok (.invokevirtual 100, 3) := by decide +kernel
theorem dX6_readValue_46 : decode cX6_readValue 46 = .ok (.ifCond .eq 7, 3) := by decide +kernel
theorem dX6_readValue_49 : decode cX6_readValue 49 = .ok (.iconst 1, 1) := by decide +kernel
theorem dX6_readValue_50 : decode cX6_readValue 50 = .ok (.goto 4, 3) := by decide +kernel
theorem dX6_readValue_53 : decode cX6_readValue 53 = .ok (.iconst 0, 1) := by decide +kernel
theorem dX6_readValue_54 : decode cX6_readValue 54 = .ok (.ireturn, 1) := by decide +kernel
theorem dX6_readValue_55 : decode cX6_readValue 55 = .ok (.aload_n 0, 1) := by decide +kernel
theorem dX6_readValue_56 : decode cX6_readValue 56 = .ok (.bipush 40, 2) := by decide +kernel
theorem dX6_readValue_58 : decode cX6_readValue 58 = .ok (.invokevirtual 113, 3) := by decide +kernel
theorem dX6_readValue_61 : decode cX6_readValue 61 = .ok (.ifCond .eq 37, 3) := by decide +kernel
theorem dX6_readValue_64 : decode cX6_readValue 64 = .ok (.aload_n 0, 1) := by decide +kernel
theorem dX6_readValue_65 : decode cX6_readValue 65 = .ok (.iload_n 1, 1) := by decide +kernel
theorem dX6_readValue_66 : decode cX6_readValue 66 = .ok (.iload_n 2, 1) := by decide +kernel
theorem dX6_readValue_67 : decode cX6_readValue 67 = .ok (.invokevirtual 110, 3) := by decide +kernel
theorem dX6_readValue_70 : decode cX6_readValue 70 = .ok (.ifCond .eq 26, 3) := by decide +kernel
theorem dX6_readValue_73 : decode cX6_readValue 73 = .ok (.aload_n 0, 1) := by decide +kernel
theorem dX6_readValue_74 : decode cX6_readValue 74 = .ok (.iload_n 1, 1) := by decide +kernel
theorem dX6_readValue_75 : decode cX6_readValue 75 = .ok (.iconst 1, 1) := by decide +kernel
theorem dX6_readValue_76 : decode cX6_readValue 76 = .ok (.iadd, 1) := by decide +kernel
theorem dX6_readValue_77 : decode cX6_readValue 77 = .ok (.invokevirtual 77, 3) := by decide +kernel
theorem dX6_readValue_80 : decode cX6_readValue 80 = .ok (.ifCond .eq 16, 3) := by decide +kernel
theorem dX6_readValue_83 : decode cX6_readValue 83 = .ok (.aload_n 0, 1) := by decide +kernel
theorem dX6_readValue_84 : decode cX6_readValue 84 = .ok (.bipush 41, 2) := by decide +kernel
theorem dX6_readValue_86 : decode cX6_readValue 86 = .ok (.invokevirtual 74, 3) := by decide +kernel
theorem dX6_readValue_89 : decode cX6_readValue 89 = .ok (.ifCond .eq 7, 3) := by decide +kernel
theorem dX6_readValue_92 : decode cX6_readValue 92 = .ok (.iconst 1, 1) := by decide +kernel
theorem dX6_readValue_93 : decode cX6_readValue 93 = .ok (.goto 4, 3) := by decide +kernel
theorem dX6_readValue_96 : decode cX6_readValue 96 = .ok (.iconst 0, 1) := by decide +kernel
theorem dX6_readValue_97 : decode cX6_readValue 97 = .ok (.ireturn, 1) := by decide +kernel
theorem dX6_readValue_98 : decode cX6_readValue 98 = .ok (.aload_n 0, 1) := by decide +kernel
theorem dX6_readValue_99 : decode cX6_readValue 99 = .ok (.ldc 128, 2) := by decide +kernel
theorem dX6_readValue_101 : decode cX6_readValue 101 = .ok (.invokevirtual 48, 3) := by decide +kernel
theorem dX6_readValue_104 : decode cX6_readValue 104 = .ok (.istore_n 3, 1) := by decide +kernel
theorem dX6_readValue_105 : decode cX6_readValue 105 = .ok (.iload_n 3, 1) := by decide +kernel
theorem dX6_readValue_106 : decode cX6_readValue 106 = .ok (.iconst (-1), 1) := by decide +kernel
theorem dX6_readValue_107 : decode cX6_readValue 107 = .ok (.if_icmp .eq 13, 3) := by decide +kernel
theorem dX6_readValue_110 : decode cX6_readValue 110 = .ok (.aload_n 0, 1) := by decide +kernel
theorem dX6_readValue_111 : decode cX6_readValue 111 = .ok (.sipush 10000, 3) := by decide +kernel
theorem dX6_readValue_114 : decode cX6_readValue 114 = .ok (.iload_n 3, 1) := by decide +kernel
theorem dX6_readValue_115 : decode cX6_readValue 115 = .ok (.iadd, 1) := by decide +kernel
theorem dX6_readValue_116 : decode cX6_readValue 116 = .ok (.invokevirtual 100, 3) := by decide +kernel
theorem dX6_readValue_119 : decode cX6_readValue 119 = .ok (.ireturn, 1) := by decide +kernel
theorem dX6_readValue_120 : decode cX6_readValue 120 = .ok (.aload_n 0, 1) := by decide +kernel
theorem dX6_readValue_121 : decode cX6_readValue 121 = .ok (.ldc 130, 2) := by decide +kernel
theorem dX6_readValue_123 : decode cX6_readValue 123 = .ok (.invokevirtual 48, 3) := by decide +kernel
theorem dX6_readValue_126 : decode cX6_readValue 126 = .ok (.istore 4, 2) := by decide +kernel
theorem dX6_readValue_128 : decode cX6_readValue 128 = .ok (.iload 4, 2) := by decide +kernel
theorem dX6_readValue_130 : decode cX6_readValue 130 = .ok (.iconst (-1), 1) := by decide +kernel
theorem dX6_readValue_131 : decode cX6_readValue 131 = .ok (.if_icmp .eq 13, 3) := by decide +kernel
theorem dX6_readValue_134 : decode cX6_readValue 134 = .ok (.aload_n 0, 1) := by decide +kernel
theorem dX6_readValue_135 : decode cX6_readValue 135 = .ok (.iload_n 1, 1) := by decide +kernel
theorem dX6_readValue_136 : decode cX6_readValue 136 = .ok (.iload 4, 2) := by decide +kernel
theorem dX6_readValue_138 : decode cX6_readValue 138 = .ok (.invokevirtual 132, 3) := by decide +kernel
theorem dX6_readValue_141 : decode cX6_readValue 141 = .ok (.goto 12, 3) := by decide +kernel
theorem dX6_readValue_144 : decode cX6_readValue 144 = .ok (.aload_n 0, 1) := by decide +kernel
theorem dX6_readValue_145 : decode cX6_readValue 145 = .ok (.iconst 1, 1) := by decide +kernel
theorem dX6_readValue_146 : decode cX6_readValue 146 = .ok (.aload_n 0, 1) := by decide +kernel
theorem dX6_readValue_147 : decode cX6_readValue 147 = .ok (.getfield 31, 3) := by decide +kernel
theorem dX6_readValue_150 : decode cX6_readValue 150 = .ok (.invokevirtual 52, 3) := by decide +kernel
theorem dX6_readValue_153 : decode cX6_readValue 153 = .ok (.ireturn, 1) := by decide +kernel
def f_Reader_readValue (rc : Nat → Int32 → Int32 → CS → Option (Int32 × CS)) (p0 : Int32) (σ : CS) : Option (Int32 × CS) := bnd (f_Reader_skipBlanks σ) (fun _ σ1 => bnd (f_Table_get 0 (σ1.1 56) 0 σ1) (fun r18 σ18 => bnd (f_Reader_isDigit r18 σ18) (fun r21 σ21 => if r21 = 0 then bnd (f_Reader_takeSign 40 σ21) (fun r58 σ58 => if r58 = 0 then bnd (f_Reader_takeWord 7 σ58) (fun r101 σ101 => if r101 = (-1) then bnd (f_Reader_takeWord 8 σ101) (fun r123 σ123 => if r123 = (-1) then bnd (f_Reader_fail 1 (σ123.1 56) σ123) (fun r150 σ150 => grd (r150 = 0 ∨ r150 = 1) (some (r150, σ150))) else bnd (rc 6 p0 r123 σ123) (fun r138 σ138 => grd (r138 = 0 ∨ r138 = 1) (some (r138, σ138)))) else bnd (f_Reader_emit (10000 + r101) σ101) (fun r116 σ116 => grd (r116 = 0 ∨ r116 = 1) (some (r116, σ116)))) else bnd (f_Reader_mayOpen p0 (σ1.1 56) σ58) (fun r67 σ67 => if r67 = 0 then some (0, σ67) else bnd (rc 3 (p0 + 1) 0 σ67) (fun r77 σ77 => if r77 = 0 then some (0, σ77) else bnd (f_Reader_needSign 41 σ77) (fun r86 σ86 => if r86 = 0 then some (0, σ86) else some (1, σ86))))) else bnd (f_Reader_takeNumber 0 9999 σ21) (fun r32 σ32 => if r32 = (-1) then some (0, σ32) else bnd (f_Reader_emit r32 σ32) (fun r43 σ43 => if r43 = 0 then some (0, σ43) else some (1, σ43))))))
set_option maxHeartbeats 4000000 in
set_option maxRecDepth 100000 in
theorem c_Reader_readValue {l : Launch} {g : EG} {ad ta : Nat → Nat} {Rr : va_W} {σ σ' : CS} {r : Int32} {p0 : Int32} {d : Nat} {rc : Nat → Int32 → Int32 → CS → Option (Int32 × CS)} (hrc0 : ∀ {l : Launch} {g : EG} {ad ta : Nat → Nat} {Rr : va_W} {σ σ' : CS} {r : Int32} {a0 : Int32}, rc 0 a0 0 σ = some (r, σ') → ph σ.2.2 ≤ BB → CtI l g yX6_readEither (.code yX6_readEither cX6_readEither 4 (some .boolean)) (10 * d) (400 * d) ad ta Rr σ [.ref (ad 4), .int a0] r σ') (hrc1 : ∀ {l : Launch} {g : EG} {ad ta : Nat → Nat} {Rr : va_W} {σ σ' : CS} {r : Int32} {a0 : Int32}, rc 1 a0 0 σ = some (r, σ') → ph σ.2.2 ≤ BB → CtI l g yX6_readBoth (.code yX6_readBoth cX6_readBoth 4 (some .boolean)) (10 * d) (400 * d) ad ta Rr σ [.ref (ad 4), .int a0] r σ') (hrc2 : ∀ {l : Launch} {g : EG} {ad ta : Nat → Nat} {Rr : va_W} {σ σ' : CS} {r : Int32} {a0 : Int32}, rc 2 a0 0 σ = some (r, σ') → ph σ.2.2 ≤ BB → CtI l g yX6_readTest (.code yX6_readTest cX6_readTest 3 (some .boolean)) (10 * d) (400 * d) ad ta Rr σ [.ref (ad 4), .int a0] r σ') (hrc3 : ∀ {l : Launch} {g : EG} {ad ta : Nat → Nat} {Rr : va_W} {σ σ' : CS} {r : Int32} {a0 : Int32}, rc 3 a0 0 σ = some (r, σ') → ph σ.2.2 ≤ BB → CtI l g yX6_readSum (.code yX6_readSum cX6_readSum 4 (some .boolean)) (10 * d) (400 * d) ad ta Rr σ [.ref (ad 4), .int a0] r σ') (hrc4 : ∀ {l : Launch} {g : EG} {ad ta : Nat → Nat} {Rr : va_W} {σ σ' : CS} {r : Int32} {a0 : Int32}, rc 4 a0 0 σ = some (r, σ') → ph σ.2.2 ≤ BB → CtI l g yX6_readProduct (.code yX6_readProduct cX6_readProduct 4 (some .boolean)) (10 * d) (400 * d) ad ta Rr σ [.ref (ad 4), .int a0] r σ') (hrc5 : ∀ {l : Launch} {g : EG} {ad ta : Nat → Nat} {Rr : va_W} {σ σ' : CS} {r : Int32} {a0 : Int32}, rc 5 a0 0 σ = some (r, σ') → ph σ.2.2 ≤ BB → CtI l g yX6_readValue (.code yX6_readValue cX6_readValue 5 (some .boolean)) (10 * d) (400 * d) ad ta Rr σ [.ref (ad 4), .int a0] r σ') (hrc6 : ∀ {l : Launch} {g : EG} {ad ta : Nat → Nat} {Rr : va_W} {σ σ' : CS} {r : Int32} {a0 a1 : Int32}, rc 6 a0 a1 σ = some (r, σ') → ph σ.2.2 ≤ BB → CtI l g yX6_readPick (.code yX6_readPick cX6_readPick 4 (some .boolean)) (10 * d) (400 * d) ad ta Rr σ [.ref (ad 4), .int a0, .int a1] r σ')  (h : f_Reader_readValue rc p0 σ = some (r, σ')) (hφ2 : ph σ.2.2 ≤ BB) : CtI l g yX6_readValue (.code yX6_readValue cX6_readValue 5 (some .boolean)) (10 * d + 10) (400 * d + 400) ad ta Rr σ [.ref (ad 4), .int p0] r σ' := by
  refine Ct.of rfl (by decide) (Nat.le_of_ble_eq_true rfl) ?_
  intro p e s m args below meth c A C hr
  have hφ : ph σ.2.2 ≤ ph σ.2.2 := Nat.le_refl _
  refine nw_zero (ph σ.2.2) ?_
  show NI g p l e s m args below meth c A (10 * d + 10) (400 * d + 400) 5 ad Rr (ph σ.2.2) (r, σ') ta σ [(0, .ref (ad 4)), (1, .int p0)] 0 []
  unfold f_Reader_readValue at h
  refine nw_aload_n C dX6_readValue_0 rfl 0 rfl ?_
  refine nc_callVV (q0 := 4) (As := []) (rest := []) C h (fun _ _ e => c_Reader_skipBlanks e hφ2) tw_1086 kv_X6_skipBlanks cl_Reader rfl ⟨by omega, by omega⟩ rfl dX6_readValue_1 rfl (Nat.le_of_ble_eq_true rfl) hφ hφ2 (fun r1 σ1 ta h hφ hφ2 => ?_)
  refine nw_aload_n C dX6_readValue_4 rfl 0 rfl ?_
  refine nw_get (v := .int (σ1.1 56)) C in_X6 4 cl_Reader rfl 4 (by decide) tw_253 rfl rfl dX6_readValue_5 ?_
  refine nw_istore_n (lv' := [(2, .int (σ1.1 56)), (0, .ref (ad 4)), (1, .int p0)]) C dX6_readValue_8 rfl (by decide) rfl ?_
  refine nw_aload_n C dX6_readValue_9 rfl 1 rfl ?_
  refine nw_get (v := .ref (ad 11)) C in_X6 4 cl_Reader rfl 0 (by decide) tw_249 rfl rfl dX6_readValue_10 ?_
  refine nw_aload_n C dX6_readValue_13 rfl 1 rfl ?_
  refine nw_get (v := .int (σ1.1 56)) C in_X6 4 cl_Reader rfl 4 (by decide) tw_253 rfl rfl dX6_readValue_14 ?_
  refine nw_iconst (v := 0) C dX6_readValue_17 (by decide) ?_
  refine nc_callVI (q0 := 11) (As := [.int (σ1.1 56), .int 0]) (rest := []) C h (fun _ _ e => c_Table_get 0 (by decide) e hφ2) tw_1090 kv_X9_get (cl_T 0 (by decide)) rfl ⟨by omega, by omega⟩ rfl dX6_readValue_18 rfl (Nat.le_of_ble_eq_true rfl) hφ hφ2 (fun r18 σ18 ta h hφ hφ2 => ?_)
  refine nc_callSI  (As := [.int r18]) (rest := []) C h (fun _ _ e => c_Reader_isDigit e hφ2) tw_1213 ks_X6_isDigit ⟨by omega, by omega⟩ rfl dX6_readValue_21 rfl (Nat.le_of_ble_eq_true rfl) hφ hφ2 (fun r21 σ21 ta h hφ hφ2 => ?_)
  refine nw_if_eq (tgt := 55) C dX6_readValue_24 (by decide) h (fun _ h => ?_) (fun _ h => ?_)
  · refine nw_aload_n C dX6_readValue_55 rfl 1 rfl ?_
    refine nw_bipush (v := 40) C dX6_readValue_56 (by decide) ?_
    refine nc_callVI (q0 := 4) (As := [.int 40]) (rest := []) C h (fun _ _ e => c_Reader_takeSign e hφ2) tw_1189 kv_X6_takeSign cl_Reader rfl ⟨by omega, by omega⟩ rfl dX6_readValue_58 rfl (Nat.le_of_ble_eq_true rfl) hφ hφ2 (fun r58 σ58 ta h hφ hφ2 => ?_)
    refine nw_if_eq (tgt := 98) C dX6_readValue_61 (by decide) h (fun _ h => ?_) (fun _ h => ?_)
    · refine nw_aload_n C dX6_readValue_98 rfl 1 rfl ?_
      refine nw_lds (i := 7) C (by decide) rfl rfl dX6_readValue_99 ?_
      refine nc_callVI (q0 := 4) (As := [.ref (gK g 7)]) (rest := []) C h (fun _ _ e => c_Reader_takeWord 7 (by decide) e hφ2) tw_1096 kv_X6_takeWord cl_Reader rfl ⟨by omega, by omega⟩ rfl dX6_readValue_101 rfl (Nat.le_of_ble_eq_true rfl) hφ hφ2 (fun r101 σ101 ta h hφ hφ2 => ?_)
      refine nw_istore_n (lv' := [(3, .int r101), (2, .int (σ1.1 56)), (0, .ref (ad 4)), (1, .int p0)]) C dX6_readValue_104 rfl (by decide) rfl ?_
      refine nw_iload_n C dX6_readValue_105 rfl 0 rfl ?_
      refine nw_iconst (v := (-1)) C dX6_readValue_106 (by decide) ?_
      refine nw_icmp_eq (tgt := 120) C dX6_readValue_107 (by decide) h (fun _ h => ?_) (fun _ h => ?_)
      · refine nw_aload_n C dX6_readValue_120 rfl 2 rfl ?_
        refine nw_lds (i := 8) C (by decide) rfl rfl dX6_readValue_121 ?_
        refine nc_callVI (q0 := 4) (As := [.ref (gK g 8)]) (rest := []) C h (fun _ _ e => c_Reader_takeWord 8 (by decide) e hφ2) tw_1096 kv_X6_takeWord cl_Reader rfl ⟨by omega, by omega⟩ rfl dX6_readValue_123 rfl (Nat.le_of_ble_eq_true rfl) hφ hφ2 (fun r123 σ123 ta h hφ hφ2 => ?_)
        refine nw_istore (lv' := [(4, .int r123), (3, .int r101), (2, .int (σ1.1 56)), (0, .ref (ad 4)), (1, .int p0)]) C dX6_readValue_126 (by decide) rfl ?_
        refine nw_iload C dX6_readValue_128 0 rfl ?_
        refine nw_iconst (v := (-1)) C dX6_readValue_130 (by decide) ?_
        refine nw_icmp_eq (tgt := 144) C dX6_readValue_131 (by decide) h (fun _ h => ?_) (fun _ h => ?_)
        · refine nw_aload_n C dX6_readValue_144 rfl 3 rfl ?_
          refine nw_iconst (v := 1) C dX6_readValue_145 (by decide) ?_
          refine nw_aload_n C dX6_readValue_146 rfl 3 rfl ?_
          refine nw_get (v := .int (σ123.1 56)) C in_X6 4 cl_Reader rfl 4 (by decide) tw_253 rfl rfl dX6_readValue_147 ?_
          refine nc_callVI (q0 := 4) (As := [.int 1, .int (σ123.1 56)]) (rest := []) C h (fun _ _ e => c_Reader_fail e hφ2) tw_1156 kv_X6_fail cl_Reader rfl ⟨by omega, by omega⟩ rfl dX6_readValue_150 rfl (Nat.le_of_ble_eq_true rfl) hφ hφ2 (fun r150 σ150 ta h hφ hφ2 => ?_)
          exact nc_zretg C hr dX6_readValue_153 hφ hφ2 h
        · refine nw_aload_n C dX6_readValue_134 rfl 3 rfl ?_
          refine nw_iload_n C dX6_readValue_135 rfl 4 rfl ?_
          refine nw_iload C dX6_readValue_136 0 rfl ?_
          refine nc_callVI (q0 := 4) (As := [.int p0, .int r123]) (rest := []) C h (fun _ _ e => hrc6 e hφ2) tw_1223 kv_X6_readPick cl_Reader rfl ⟨by omega, by omega⟩ rfl dX6_readValue_138 rfl (Nat.le_of_ble_eq_true rfl) hφ hφ2 (fun r138 σ138 ta h hφ hφ2 => ?_)
          refine nw_goto (tgt := 153) C dX6_readValue_141 (by decide) ?_
          exact nc_zretg C hr dX6_readValue_153 hφ hφ2 h
      · refine nw_aload_n C dX6_readValue_110 rfl 2 rfl ?_
        refine nw_sipush (v := 10000) C dX6_readValue_111 (by decide) ?_
        refine nw_iload_n C dX6_readValue_114 rfl 0 rfl ?_
        refine nw_iadd C dX6_readValue_115 ?_
        refine nc_callVI (q0 := 4) (As := [.int (10000 + r101)]) (rest := []) C h (fun _ _ e => c_Reader_emit e hφ2) tw_1185 kv_X6_emit cl_Reader rfl ⟨by omega, by omega⟩ rfl dX6_readValue_116 rfl (Nat.le_of_ble_eq_true rfl) hφ hφ2 (fun r116 σ116 ta h hφ hφ2 => ?_)
        exact nc_zretg C hr dX6_readValue_119 hφ hφ2 h
    · refine nw_aload_n C dX6_readValue_64 rfl 1 rfl ?_
      refine nw_iload_n C dX6_readValue_65 rfl 2 rfl ?_
      refine nw_iload_n C dX6_readValue_66 rfl 0 rfl ?_
      refine nc_callVI (q0 := 4) (As := [.int p0, .int (σ1.1 56)]) (rest := []) C h (fun _ _ e => c_Reader_mayOpen e hφ2) tw_1181 kv_X6_mayOpen cl_Reader rfl ⟨by omega, by omega⟩ rfl dX6_readValue_67 rfl (Nat.le_of_ble_eq_true rfl) hφ hφ2 (fun r67 σ67 ta h hφ hφ2 => ?_)
      refine nw_if_eq (tgt := 96) C dX6_readValue_70 (by decide) h (fun _ h => ?_) (fun _ h => ?_)
      · refine nw_iconst (v := 0) C dX6_readValue_96 (by decide) ?_
        exact nc_zret C hr (Or.inl rfl) dX6_readValue_97 hφ hφ2 h
      · refine nw_aload_n C dX6_readValue_73 rfl 1 rfl ?_
        refine nw_iload_n C dX6_readValue_74 rfl 2 rfl ?_
        refine nw_iconst (v := 1) C dX6_readValue_75 (by decide) ?_
        refine nw_iadd C dX6_readValue_76 ?_
        refine nc_callVI (q0 := 4) (As := [.int (p0 + 1)]) (rest := []) C h (fun _ _ e => hrc3 e hφ2) tw_1201 kv_X6_readSum cl_Reader rfl ⟨by omega, by omega⟩ rfl dX6_readValue_77 rfl (Nat.le_of_ble_eq_true rfl) hφ hφ2 (fun r77 σ77 ta h hφ hφ2 => ?_)
        refine nw_if_eq (tgt := 96) C dX6_readValue_80 (by decide) h (fun _ h => ?_) (fun _ h => ?_)
        · refine nw_iconst (v := 0) C dX6_readValue_96 (by decide) ?_
          exact nc_zret C hr (Or.inl rfl) dX6_readValue_97 hφ hφ2 h
        · refine nw_aload_n C dX6_readValue_83 rfl 1 rfl ?_
          refine nw_bipush (v := 41) C dX6_readValue_84 (by decide) ?_
          refine nc_callVI (q0 := 4) (As := [.int 41]) (rest := []) C h (fun _ _ e => c_Reader_needSign e hφ2) tw_1197 kv_X6_needSign cl_Reader rfl ⟨by omega, by omega⟩ rfl dX6_readValue_86 rfl (Nat.le_of_ble_eq_true rfl) hφ hφ2 (fun r86 σ86 ta h hφ hφ2 => ?_)
          refine nw_if_eq (tgt := 96) C dX6_readValue_89 (by decide) h (fun _ h => ?_) (fun _ h => ?_)
          · refine nw_iconst (v := 0) C dX6_readValue_96 (by decide) ?_
            exact nc_zret C hr (Or.inl rfl) dX6_readValue_97 hφ hφ2 h
          · refine nw_iconst (v := 1) C dX6_readValue_92 (by decide) ?_
            refine nw_goto (tgt := 97) C dX6_readValue_93 (by decide) ?_
            exact nc_zret C hr (Or.inr rfl) dX6_readValue_97 hφ hφ2 h
  · refine nw_aload_n C dX6_readValue_27 rfl 1 rfl ?_
    refine nw_iconst (v := 0) C dX6_readValue_28 (by decide) ?_
    refine nw_sipush (v := 9999) C dX6_readValue_29 (by decide) ?_
    refine nc_callVI (q0 := 4) (As := [.int 0, .int 9999]) (rest := []) C h (fun _ _ e => c_Reader_takeNumber e hφ2) tw_1216 kv_X6_takeNumber cl_Reader rfl ⟨by omega, by omega⟩ rfl dX6_readValue_32 rfl (Nat.le_of_ble_eq_true rfl) hφ hφ2 (fun r32 σ32 ta h hφ hφ2 => ?_)
    refine nw_istore_n (lv' := [(3, .int r32), (2, .int (σ1.1 56)), (0, .ref (ad 4)), (1, .int p0)]) C dX6_readValue_35 rfl (by decide) rfl ?_
    refine nw_iload_n C dX6_readValue_36 rfl 0 rfl ?_
    refine nw_iconst (v := (-1)) C dX6_readValue_37 (by decide) ?_
    refine nw_icmp_eq (tgt := 53) C dX6_readValue_38 (by decide) h (fun _ h => ?_) (fun _ h => ?_)
    · refine nw_iconst (v := 0) C dX6_readValue_53 (by decide) ?_
      exact nc_zret C hr (Or.inl rfl) dX6_readValue_54 hφ hφ2 h
    · refine nw_aload_n C dX6_readValue_41 rfl 2 rfl ?_
      refine nw_iload_n C dX6_readValue_42 rfl 0 rfl ?_
      refine nc_callVI (q0 := 4) (As := [.int r32]) (rest := []) C h (fun _ _ e => c_Reader_emit e hφ2) tw_1185 kv_X6_emit cl_Reader rfl ⟨by omega, by omega⟩ rfl dX6_readValue_43 rfl (Nat.le_of_ble_eq_true rfl) hφ hφ2 (fun r43 σ43 ta h hφ hφ2 => ?_)
      refine nw_if_eq (tgt := 53) C dX6_readValue_46 (by decide) h (fun _ h => ?_) (fun _ h => ?_)
      · refine nw_iconst (v := 0) C dX6_readValue_53 (by decide) ?_
        exact nc_zret C hr (Or.inl rfl) dX6_readValue_54 hφ hφ2 h
      · refine nw_iconst (v := 1) C dX6_readValue_49 (by decide) ?_
        refine nw_goto (tgt := 54) C dX6_readValue_50 (by decide) ?_
        exact nc_zret C hr (Or.inr rfl) dX6_readValue_54 hφ hφ2 h
theorem dX6_readProduct_0 : decode cX6_readProduct 0 = .ok (.aload_n 0, 1) := by decide +kernel
theorem dX6_readProduct_1 : decode cX6_readProduct 1 = .ok (.iload_n 1, 1) := by decide +kernel
theorem dX6_readProduct_2 : decode cX6_readProduct 2 = .ok (.invokevirtual 119, 3) := by decide +kernel
theorem dX6_readProduct_5 : decode cX6_readProduct 5 = .ok (.istore_n 2, 1) := by decide +kernel
theorem dX6_readProduct_6 : decode cX6_readProduct 6 = .ok (.iconst 0, 1) := by decide +kernel
theorem dX6_readProduct_7 : decode cX6_readProduct 7 = .ok (.istore_n 3, 1) := by decide +kernel
theorem dX6_readProduct_8 : decode cX6_readProduct 8 = .ok (.iload_n 3, 1) := by decide +kernel
theorem dX6_readProduct_9 : decode cX6_readProduct 9 = .ok (.sipush 400, 3) := by decide +kernel
theorem dX6_readProduct_12 : decode cX6_readProduct 12 = .ok (.if_icmp .ge 82, 3) := by decide +kernel
theorem dX6_readProduct_15 : decode cX6_readProduct 15 = .ok (.iload_n 2, 1) := by decide +kernel
theorem dX6_readProduct_16 : decode cX6_readProduct 16 = .ok (.ifCond .eq 78, 3) := by decide +kernel
theorem dX6_readProduct_19 : decode cX6_readProduct 19 = .ok (.aload_n 0, 1) := by decide +kernel
theorem dX6_readProduct_20 : decode cX6_readProduct 20 = .ok (.bipush 42, 2) := by decide +kernel
theorem dX6_readProduct_22 : decode cX6_readProduct 22 = .ok (.invokevirtual 113, 3) := by decide +kernel
theorem dX6_readProduct_25 : decode cX6_readProduct 25 = .ok (.ifCond .eq 30, 3) := by decide +kernel
theorem dX6_readProduct_28 : decode cX6_readProduct 28 = .ok (.aload_n 0, 1) := by decide +kernel
theorem dX6_readProduct_29 : decode cX6_readProduct 29 = .ok (.iload_n 1, 1) := by decide +kernel
theorem dX6_readProduct_30 : decode cX6_readProduct 30 = .ok (.invokevirtual 119, 3) := by decide +kernel
theorem dX6_readProduct_33 : decode cX6_readProduct 33 = .ok (.ifCond .eq 17, 3) := by decide +kernel
theorem dX6_readProduct_36 : decode cX6_readProduct 36 = .ok (.aload_n 0, 1) := by decide +kernel
theorem dX6_readProduct_37 : decode cX6_readProduct 37 = .ok (.sipush 10018, 3) := by decide +kernel
theorem dX6_readProduct_40 : decode cX6_readProduct 40 = .ok (.invokevirtual 100, 3) := by decide +kernel
theorem dX6_readProduct_43 : decode cX6_readProduct 43 = .ok (.ifCond .eq 7, 3) := by decide +kernel
theorem dX6_readProduct_46 : decode cX6_readProduct 46 = .ok (.iconst 1, 1) := by decide +kernel
theorem dX6_readProduct_47 : decode cX6_readProduct 47 = .ok (.goto 4, 3) := by decide +kernel
theorem dX6_readProduct_50 : decode cX6_readProduct 50 = .ok (.iconst 0, 1) := by decide +kernel
theorem dX6_readProduct_51 : decode cX6_readProduct 51 = .ok (.istore_n 2, 1) := by decide +kernel
theorem dX6_readProduct_52 : decode cX6_readProduct 52 = .ok (.goto 36, 3) := by decide +kernel
theorem dX6_readProduct_55 : decode cX6_readProduct 55 = .ok (.aload_n 0, 1) := by decide +kernel
theorem dX6_readProduct_56 : decode cX6_readProduct 56 = .ok (.bipush 47, 2) := by decide +kernel
theorem dX6_readProduct_58 : decode cX6_readProduct 58 = .ok (.invokevirtual 113, 3) := by decide +kernel
theorem dX6_readProduct_61 : decode cX6_readProduct 61 = .ok (.ifCond .eq 33, 3) := by decide +kernel
theorem dX6_readProduct_64 : decode cX6_readProduct 64 = .ok (.aload_n 0, 1) := by decide +kernel
theorem dX6_readProduct_65 : decode cX6_readProduct 65 = .ok (.iload_n 1, 1) := by decide +kernel
theorem dX6_readProduct_66 : decode cX6_readProduct 66 = .ok (.invokevirtual 119, 3) := by decide +kernel
theorem dX6_readProduct_69 : decode cX6_readProduct 69 = .ok (.ifCond .eq 17, 3) := by decide +kernel
theorem dX6_readProduct_72 : decode cX6_readProduct 72 = .ok (.aload_n 0, 1) := by decide +kernel
theorem dX6_readProduct_73 : decode cX6_readProduct 73 = .ok (.sipush 10019, 3) := by decide +kernel
theorem dX6_readProduct_76 : decode cX6_readProduct 76 = .ok (.invokevirtual 100, 3) := by decide +kernel
theorem dX6_readProduct_79 : decode cX6_readProduct 79 = .ok (.ifCond .eq 7, 3) := by decide +kernel
theorem dX6_readProduct_82 : decode cX6_readProduct 82 = .ok (.iconst 1, 1) := by decide +kernel
theorem dX6_readProduct_83 : decode cX6_readProduct 83 = .ok (.goto 4, 3) := by decide +kernel
theorem dX6_readProduct_86 : decode cX6_readProduct 86 = .ok (.iconst 0, 1) := by decide +kernel
theorem dX6_readProduct_87 : decode cX6_readProduct 87 = .ok (.istore_n 2, 1) := by decide +kernel
theorem dX6_readProduct_88 : decode cX6_readProduct 88 = .ok (.iinc 3 1, 3) := by decide +kernel
theorem dX6_readProduct_91 : decode cX6_readProduct 91 = .ok (.goto (-83), 3) := by decide +kernel
theorem dX6_readProduct_94 : decode cX6_readProduct 94 = .ok (.iload_n 2, 1) := by decide +kernel
theorem dX6_readProduct_95 : decode cX6_readProduct 95 = .ok (.ireturn, 1) := by decide +kernel
def B_Reader_readProduct_86 (rc : Nat → Int32 → Int32 → CS → Option (Int32 × CS)) (k8 : Int32 → Int32 → CS → Option (Int32 × CS)) (x1 : Int32) (x3 : Int32) (σ : CS) : Option (Int32 × CS) := k8 0 (x3 + 1) σ
set_option maxHeartbeats 4000000 in
set_option maxRecDepth 100000 in
theorem w_Reader_readProduct_86 (C : Cx g p s m args meth c A 4 cX6_readProduct yX6_readProduct.cls) (hr : meth.sig.returnType = (some .boolean)) {d : Nat} {rc : Nat → Int32 → Int32 → CS → Option (Int32 × CS)} (hrc0 : ∀ {l : Launch} {g : EG} {ad ta : Nat → Nat} {Rr : va_W} {σ σ' : CS} {r : Int32} {a0 : Int32}, rc 0 a0 0 σ = some (r, σ') → ph σ.2.2 ≤ BB → CtI l g yX6_readEither (.code yX6_readEither cX6_readEither 4 (some .boolean)) (10 * d) (400 * d) ad ta Rr σ [.ref (ad 4), .int a0] r σ') (hrc1 : ∀ {l : Launch} {g : EG} {ad ta : Nat → Nat} {Rr : va_W} {σ σ' : CS} {r : Int32} {a0 : Int32}, rc 1 a0 0 σ = some (r, σ') → ph σ.2.2 ≤ BB → CtI l g yX6_readBoth (.code yX6_readBoth cX6_readBoth 4 (some .boolean)) (10 * d) (400 * d) ad ta Rr σ [.ref (ad 4), .int a0] r σ') (hrc2 : ∀ {l : Launch} {g : EG} {ad ta : Nat → Nat} {Rr : va_W} {σ σ' : CS} {r : Int32} {a0 : Int32}, rc 2 a0 0 σ = some (r, σ') → ph σ.2.2 ≤ BB → CtI l g yX6_readTest (.code yX6_readTest cX6_readTest 3 (some .boolean)) (10 * d) (400 * d) ad ta Rr σ [.ref (ad 4), .int a0] r σ') (hrc3 : ∀ {l : Launch} {g : EG} {ad ta : Nat → Nat} {Rr : va_W} {σ σ' : CS} {r : Int32} {a0 : Int32}, rc 3 a0 0 σ = some (r, σ') → ph σ.2.2 ≤ BB → CtI l g yX6_readSum (.code yX6_readSum cX6_readSum 4 (some .boolean)) (10 * d) (400 * d) ad ta Rr σ [.ref (ad 4), .int a0] r σ') (hrc4 : ∀ {l : Launch} {g : EG} {ad ta : Nat → Nat} {Rr : va_W} {σ σ' : CS} {r : Int32} {a0 : Int32}, rc 4 a0 0 σ = some (r, σ') → ph σ.2.2 ≤ BB → CtI l g yX6_readProduct (.code yX6_readProduct cX6_readProduct 4 (some .boolean)) (10 * d) (400 * d) ad ta Rr σ [.ref (ad 4), .int a0] r σ') (hrc5 : ∀ {l : Launch} {g : EG} {ad ta : Nat → Nat} {Rr : va_W} {σ σ' : CS} {r : Int32} {a0 : Int32}, rc 5 a0 0 σ = some (r, σ') → ph σ.2.2 ≤ BB → CtI l g yX6_readValue (.code yX6_readValue cX6_readValue 5 (some .boolean)) (10 * d) (400 * d) ad ta Rr σ [.ref (ad 4), .int a0] r σ') (hrc6 : ∀ {l : Launch} {g : EG} {ad ta : Nat → Nat} {Rr : va_W} {σ σ' : CS} {r : Int32} {a0 a1 : Int32}, rc 6 a0 a1 σ = some (r, σ') → ph σ.2.2 ≤ BB → CtI l g yX6_readPick (.code yX6_readPick cX6_readPick 4 (some .boolean)) (10 * d) (400 * d) ad ta Rr σ [.ref (ad 4), .int a0, .int a1] r σ')  {res : Int32 × CS}  (x1 : Int32) (x3 : Int32) {k8 : Int32 → Int32 → CS → Option (Int32 × CS)} (hk8 : ∀ (x2 : Int32) (x3 : Int32) (σ : CS) (ta : Nat → Nat), φ0 ≤ ph σ.2.2 → ph σ.2.2 ≤ BB → k8 x2 x3 σ = some res → NI g p l e s m args below meth c A (10 * d + 10) (400 * d + 400) 4 ad Rr φ0 res ta σ [(0, .ref (ad 4)), (1, .int x1), (2, .int x2), (3, .int x3)] 8 []) (σ : CS) (ta : Nat → Nat) (hφ : φ0 ≤ ph σ.2.2) (hφ2 : ph σ.2.2 ≤ BB) (h : B_Reader_readProduct_86 rc k8 x1 x3 σ = some res) : NI g p l e s m args below meth c A (10 * d + 10) (400 * d + 400) 4 ad Rr φ0 res ta σ [(0, .ref (ad 4)), (1, .int x1), (3, .int x3)] 86 [] := by
  unfold B_Reader_readProduct_86 at h
  refine nw_iconst (v := 0) C dX6_readProduct_86 (by decide) ?_
  refine nw_istore_n (lv' := [(2, .int 0), (0, .ref (ad 4)), (1, .int x1), (3, .int x3)]) C dX6_readProduct_87 rfl (by decide) rfl ?_
  refine nw_iinc (lv' := [(3, .int (x3 + 1)), (2, .int 0), (0, .ref (ad 4)), (1, .int x1)]) C (x3 + 1) dX6_readProduct_88 3 rfl rfl (by decide) rfl ?_
  refine nw_goto (tgt := 8) C dX6_readProduct_91 (by decide) ?_
  exact nw_lv (lv' := [(0, .ref (ad 4)), (1, .int x1), (2, .int 0), (3, .int (x3 + 1))]) [2, 3, 1, 0] rfl (hk8 0 (x3 + 1) _ _ hφ hφ2 h)
def L_Reader_readProduct_8 (rc : Nat → Int32 → Int32 → CS → Option (Int32 × CS))  (x1 : Int32) : Nat → Int32 → Int32 → CS → Option (Int32 × CS)
  | 0, _, _, _ => none
  | n + 1, x2, x3, σ => if 400 ≤ x3 then grd (x2 = 0 ∨ x2 = 1) (some (x2, σ)) else if x2 = 0 then grd (x2 = 0 ∨ x2 = 1) (some (x2, σ)) else bnd (f_Reader_takeSign 42 σ) (fun r22 σ22 => if r22 = 0 then bnd (f_Reader_takeSign 47 σ22) (fun r58 σ58 => if r58 = 0 then grd (x2 = 0 ∨ x2 = 1) (some (x2, σ58)) else bnd (rc 5 x1 0 σ58) (fun r66 σ66 => if r66 = 0 then B_Reader_readProduct_86 rc (L_Reader_readProduct_8 rc x1 n) x1 x3 σ66 else bnd (f_Reader_emit 10019 σ66) (fun r76 σ76 => if r76 = 0 then B_Reader_readProduct_86 rc (L_Reader_readProduct_8 rc x1 n) x1 x3 σ76 else (L_Reader_readProduct_8 rc x1 n) 1 (x3 + 1) σ76))) else bnd (rc 5 x1 0 σ22) (fun r30 σ30 => if r30 = 0 then (L_Reader_readProduct_8 rc x1 n) 0 (x3 + 1) σ30 else bnd (f_Reader_emit 10018 σ30) (fun r40 σ40 => if r40 = 0 then (L_Reader_readProduct_8 rc x1 n) 0 (x3 + 1) σ40 else (L_Reader_readProduct_8 rc x1 n) 1 (x3 + 1) σ40)))
set_option maxHeartbeats 4000000 in
set_option maxRecDepth 100000 in
theorem w_Reader_readProduct_8 (C : Cx g p s m args meth c A 4 cX6_readProduct yX6_readProduct.cls) (hr : meth.sig.returnType = (some .boolean)) {d : Nat} {rc : Nat → Int32 → Int32 → CS → Option (Int32 × CS)} (hrc0 : ∀ {l : Launch} {g : EG} {ad ta : Nat → Nat} {Rr : va_W} {σ σ' : CS} {r : Int32} {a0 : Int32}, rc 0 a0 0 σ = some (r, σ') → ph σ.2.2 ≤ BB → CtI l g yX6_readEither (.code yX6_readEither cX6_readEither 4 (some .boolean)) (10 * d) (400 * d) ad ta Rr σ [.ref (ad 4), .int a0] r σ') (hrc1 : ∀ {l : Launch} {g : EG} {ad ta : Nat → Nat} {Rr : va_W} {σ σ' : CS} {r : Int32} {a0 : Int32}, rc 1 a0 0 σ = some (r, σ') → ph σ.2.2 ≤ BB → CtI l g yX6_readBoth (.code yX6_readBoth cX6_readBoth 4 (some .boolean)) (10 * d) (400 * d) ad ta Rr σ [.ref (ad 4), .int a0] r σ') (hrc2 : ∀ {l : Launch} {g : EG} {ad ta : Nat → Nat} {Rr : va_W} {σ σ' : CS} {r : Int32} {a0 : Int32}, rc 2 a0 0 σ = some (r, σ') → ph σ.2.2 ≤ BB → CtI l g yX6_readTest (.code yX6_readTest cX6_readTest 3 (some .boolean)) (10 * d) (400 * d) ad ta Rr σ [.ref (ad 4), .int a0] r σ') (hrc3 : ∀ {l : Launch} {g : EG} {ad ta : Nat → Nat} {Rr : va_W} {σ σ' : CS} {r : Int32} {a0 : Int32}, rc 3 a0 0 σ = some (r, σ') → ph σ.2.2 ≤ BB → CtI l g yX6_readSum (.code yX6_readSum cX6_readSum 4 (some .boolean)) (10 * d) (400 * d) ad ta Rr σ [.ref (ad 4), .int a0] r σ') (hrc4 : ∀ {l : Launch} {g : EG} {ad ta : Nat → Nat} {Rr : va_W} {σ σ' : CS} {r : Int32} {a0 : Int32}, rc 4 a0 0 σ = some (r, σ') → ph σ.2.2 ≤ BB → CtI l g yX6_readProduct (.code yX6_readProduct cX6_readProduct 4 (some .boolean)) (10 * d) (400 * d) ad ta Rr σ [.ref (ad 4), .int a0] r σ') (hrc5 : ∀ {l : Launch} {g : EG} {ad ta : Nat → Nat} {Rr : va_W} {σ σ' : CS} {r : Int32} {a0 : Int32}, rc 5 a0 0 σ = some (r, σ') → ph σ.2.2 ≤ BB → CtI l g yX6_readValue (.code yX6_readValue cX6_readValue 5 (some .boolean)) (10 * d) (400 * d) ad ta Rr σ [.ref (ad 4), .int a0] r σ') (hrc6 : ∀ {l : Launch} {g : EG} {ad ta : Nat → Nat} {Rr : va_W} {σ σ' : CS} {r : Int32} {a0 a1 : Int32}, rc 6 a0 a1 σ = some (r, σ') → ph σ.2.2 ≤ BB → CtI l g yX6_readPick (.code yX6_readPick cX6_readPick 4 (some .boolean)) (10 * d) (400 * d) ad ta Rr σ [.ref (ad 4), .int a0, .int a1] r σ')  {res : Int32 × CS}  (x1 : Int32)  : ∀ (n : Nat) (x2 : Int32) (x3 : Int32) (σ : CS) (ta : Nat → Nat), φ0 ≤ ph σ.2.2 → ph σ.2.2 ≤ BB → L_Reader_readProduct_8 rc x1 n x2 x3 σ = some res → NI g p l e s m args below meth c A (10 * d + 10) (400 * d + 400) 4 ad Rr φ0 res ta σ [(0, .ref (ad 4)), (1, .int x1), (2, .int x2), (3, .int x3)] 8 [] := by
  intro n
  induction n with
  | zero =>
    intro x2 x3 σ ta hφ hφ2 h
    exact absurd (show (none : Option (Int32 × CS)) = some res from h) (by intro h9; cases h9)
  | succ n ih =>
    intro x2 x3 σ ta hφ hφ2 h
    rw [L_Reader_readProduct_8] at h
    refine nw_iload_n C dX6_readProduct_8 rfl 3 rfl ?_
    refine nw_sipush (v := 400) C dX6_readProduct_9 (by decide) ?_
    refine nw_icmp_ge (tgt := 94) C dX6_readProduct_12 (by decide) h (fun _ h => ?_) (fun _ h => ?_)
    · refine nw_iload_n C dX6_readProduct_94 rfl 2 rfl ?_
      exact nc_zretg C hr dX6_readProduct_95 hφ hφ2 h
    · refine nw_iload_n C dX6_readProduct_15 rfl 2 rfl ?_
      refine nw_if_eq (tgt := 94) C dX6_readProduct_16 (by decide) h (fun _ h => ?_) (fun _ h => ?_)
      · refine nw_iload_n C dX6_readProduct_94 rfl 2 rfl ?_
        exact nc_zretg C hr dX6_readProduct_95 hφ hφ2 h
      · refine nw_aload_n C dX6_readProduct_19 rfl 0 rfl ?_
        refine nw_bipush (v := 42) C dX6_readProduct_20 (by decide) ?_
        refine nc_callVI (q0 := 4) (As := [.int 42]) (rest := []) C h (fun _ _ e => c_Reader_takeSign e hφ2) tw_1189 kv_X6_takeSign cl_Reader rfl ⟨by omega, by omega⟩ rfl dX6_readProduct_22 rfl (Nat.le_of_ble_eq_true rfl) hφ hφ2 (fun r22 σ22 ta h hφ hφ2 => ?_)
        refine nw_if_eq (tgt := 55) C dX6_readProduct_25 (by decide) h (fun _ h => ?_) (fun _ h => ?_)
        · refine nw_aload_n C dX6_readProduct_55 rfl 0 rfl ?_
          refine nw_bipush (v := 47) C dX6_readProduct_56 (by decide) ?_
          refine nc_callVI (q0 := 4) (As := [.int 47]) (rest := []) C h (fun _ _ e => c_Reader_takeSign e hφ2) tw_1189 kv_X6_takeSign cl_Reader rfl ⟨by omega, by omega⟩ rfl dX6_readProduct_58 rfl (Nat.le_of_ble_eq_true rfl) hφ hφ2 (fun r58 σ58 ta h hφ hφ2 => ?_)
          refine nw_if_eq (tgt := 94) C dX6_readProduct_61 (by decide) h (fun _ h => ?_) (fun _ h => ?_)
          · refine nw_iload_n C dX6_readProduct_94 rfl 2 rfl ?_
            exact nc_zretg C hr dX6_readProduct_95 hφ hφ2 h
          · refine nw_aload_n C dX6_readProduct_64 rfl 0 rfl ?_
            refine nw_iload_n C dX6_readProduct_65 rfl 1 rfl ?_
            refine nc_callVI (q0 := 4) (As := [.int x1]) (rest := []) C h (fun _ _ e => hrc5 e hφ2) tw_1209 kv_X6_readValue cl_Reader rfl ⟨by omega, by omega⟩ rfl dX6_readProduct_66 rfl (Nat.le_of_ble_eq_true rfl) hφ hφ2 (fun r66 σ66 ta h hφ hφ2 => ?_)
            refine nw_if_eq (tgt := 86) C dX6_readProduct_69 (by decide) h (fun _ h => ?_) (fun _ h => ?_)
            · exact nw_lv (lv' := [(0, .ref (ad 4)), (1, .int x1), (3, .int x3)]) [0, 1, 3] rfl (w_Reader_readProduct_86 C hr hrc0 hrc1 hrc2 hrc3 hrc4 hrc5 hrc6 x1 x3 ih _ _ hφ hφ2 h)
            · refine nw_aload_n C dX6_readProduct_72 rfl 0 rfl ?_
              refine nw_sipush (v := 10019) C dX6_readProduct_73 (by decide) ?_
              refine nc_callVI (q0 := 4) (As := [.int 10019]) (rest := []) C h (fun _ _ e => c_Reader_emit e hφ2) tw_1185 kv_X6_emit cl_Reader rfl ⟨by omega, by omega⟩ rfl dX6_readProduct_76 rfl (Nat.le_of_ble_eq_true rfl) hφ hφ2 (fun r76 σ76 ta h hφ hφ2 => ?_)
              refine nw_if_eq (tgt := 86) C dX6_readProduct_79 (by decide) h (fun _ h => ?_) (fun _ h => ?_)
              · exact nw_lv (lv' := [(0, .ref (ad 4)), (1, .int x1), (3, .int x3)]) [0, 1, 3] rfl (w_Reader_readProduct_86 C hr hrc0 hrc1 hrc2 hrc3 hrc4 hrc5 hrc6 x1 x3 ih _ _ hφ hφ2 h)
              · refine nw_iconst (v := 1) C dX6_readProduct_82 (by decide) ?_
                refine nw_goto (tgt := 87) C dX6_readProduct_83 (by decide) ?_
                refine nw_istore_n (lv' := [(2, .int 1), (0, .ref (ad 4)), (1, .int x1), (3, .int x3)]) C dX6_readProduct_87 rfl (by decide) rfl ?_
                refine nw_iinc (lv' := [(3, .int (x3 + 1)), (2, .int 1), (0, .ref (ad 4)), (1, .int x1)]) C (x3 + 1) dX6_readProduct_88 3 rfl rfl (by decide) rfl ?_
                refine nw_goto (tgt := 8) C dX6_readProduct_91 (by decide) ?_
                exact nw_lv (lv' := [(0, .ref (ad 4)), (1, .int x1), (2, .int 1), (3, .int (x3 + 1))]) [2, 3, 1, 0] rfl (ih 1 (x3 + 1) _ _ hφ hφ2 h)
        · refine nw_aload_n C dX6_readProduct_28 rfl 0 rfl ?_
          refine nw_iload_n C dX6_readProduct_29 rfl 1 rfl ?_
          refine nc_callVI (q0 := 4) (As := [.int x1]) (rest := []) C h (fun _ _ e => hrc5 e hφ2) tw_1209 kv_X6_readValue cl_Reader rfl ⟨by omega, by omega⟩ rfl dX6_readProduct_30 rfl (Nat.le_of_ble_eq_true rfl) hφ hφ2 (fun r30 σ30 ta h hφ hφ2 => ?_)
          refine nw_if_eq (tgt := 50) C dX6_readProduct_33 (by decide) h (fun _ h => ?_) (fun _ h => ?_)
          · refine nw_iconst (v := 0) C dX6_readProduct_50 (by decide) ?_
            refine nw_istore_n (lv' := [(2, .int 0), (0, .ref (ad 4)), (1, .int x1), (3, .int x3)]) C dX6_readProduct_51 rfl (by decide) rfl ?_
            refine nw_goto (tgt := 88) C dX6_readProduct_52 (by decide) ?_
            refine nw_iinc (lv' := [(3, .int (x3 + 1)), (2, .int 0), (0, .ref (ad 4)), (1, .int x1)]) C (x3 + 1) dX6_readProduct_88 3 rfl rfl (by decide) rfl ?_
            refine nw_goto (tgt := 8) C dX6_readProduct_91 (by decide) ?_
            exact nw_lv (lv' := [(0, .ref (ad 4)), (1, .int x1), (2, .int 0), (3, .int (x3 + 1))]) [2, 3, 1, 0] rfl (ih 0 (x3 + 1) _ _ hφ hφ2 h)
          · refine nw_aload_n C dX6_readProduct_36 rfl 0 rfl ?_
            refine nw_sipush (v := 10018) C dX6_readProduct_37 (by decide) ?_
            refine nc_callVI (q0 := 4) (As := [.int 10018]) (rest := []) C h (fun _ _ e => c_Reader_emit e hφ2) tw_1185 kv_X6_emit cl_Reader rfl ⟨by omega, by omega⟩ rfl dX6_readProduct_40 rfl (Nat.le_of_ble_eq_true rfl) hφ hφ2 (fun r40 σ40 ta h hφ hφ2 => ?_)
            refine nw_if_eq (tgt := 50) C dX6_readProduct_43 (by decide) h (fun _ h => ?_) (fun _ h => ?_)
            · refine nw_iconst (v := 0) C dX6_readProduct_50 (by decide) ?_
              refine nw_istore_n (lv' := [(2, .int 0), (0, .ref (ad 4)), (1, .int x1), (3, .int x3)]) C dX6_readProduct_51 rfl (by decide) rfl ?_
              refine nw_goto (tgt := 88) C dX6_readProduct_52 (by decide) ?_
              refine nw_iinc (lv' := [(3, .int (x3 + 1)), (2, .int 0), (0, .ref (ad 4)), (1, .int x1)]) C (x3 + 1) dX6_readProduct_88 3 rfl rfl (by decide) rfl ?_
              refine nw_goto (tgt := 8) C dX6_readProduct_91 (by decide) ?_
              exact nw_lv (lv' := [(0, .ref (ad 4)), (1, .int x1), (2, .int 0), (3, .int (x3 + 1))]) [2, 3, 1, 0] rfl (ih 0 (x3 + 1) _ _ hφ hφ2 h)
            · refine nw_iconst (v := 1) C dX6_readProduct_46 (by decide) ?_
              refine nw_goto (tgt := 51) C dX6_readProduct_47 (by decide) ?_
              refine nw_istore_n (lv' := [(2, .int 1), (0, .ref (ad 4)), (1, .int x1), (3, .int x3)]) C dX6_readProduct_51 rfl (by decide) rfl ?_
              refine nw_goto (tgt := 88) C dX6_readProduct_52 (by decide) ?_
              refine nw_iinc (lv' := [(3, .int (x3 + 1)), (2, .int 1), (0, .ref (ad 4)), (1, .int x1)]) C (x3 + 1) dX6_readProduct_88 3 rfl rfl (by decide) rfl ?_
              refine nw_goto (tgt := 8) C dX6_readProduct_91 (by decide) ?_
              exact nw_lv (lv' := [(0, .ref (ad 4)), (1, .int x1), (2, .int 1), (3, .int (x3 + 1))]) [2, 3, 1, 0] rfl (ih 1 (x3 + 1) _ _ hφ hφ2 h)
def f_Reader_readProduct (rc : Nat → Int32 → Int32 → CS → Option (Int32 × CS)) (p0 : Int32) (σ : CS) : Option (Int32 × CS) := bnd (rc 5 p0 0 σ) (fun r2 σ2 => L_Reader_readProduct_8 rc p0 FU r2 0 σ2)
set_option maxHeartbeats 4000000 in
set_option maxRecDepth 100000 in
theorem c_Reader_readProduct {l : Launch} {g : EG} {ad ta : Nat → Nat} {Rr : va_W} {σ σ' : CS} {r : Int32} {p0 : Int32} {d : Nat} {rc : Nat → Int32 → Int32 → CS → Option (Int32 × CS)} (hrc0 : ∀ {l : Launch} {g : EG} {ad ta : Nat → Nat} {Rr : va_W} {σ σ' : CS} {r : Int32} {a0 : Int32}, rc 0 a0 0 σ = some (r, σ') → ph σ.2.2 ≤ BB → CtI l g yX6_readEither (.code yX6_readEither cX6_readEither 4 (some .boolean)) (10 * d) (400 * d) ad ta Rr σ [.ref (ad 4), .int a0] r σ') (hrc1 : ∀ {l : Launch} {g : EG} {ad ta : Nat → Nat} {Rr : va_W} {σ σ' : CS} {r : Int32} {a0 : Int32}, rc 1 a0 0 σ = some (r, σ') → ph σ.2.2 ≤ BB → CtI l g yX6_readBoth (.code yX6_readBoth cX6_readBoth 4 (some .boolean)) (10 * d) (400 * d) ad ta Rr σ [.ref (ad 4), .int a0] r σ') (hrc2 : ∀ {l : Launch} {g : EG} {ad ta : Nat → Nat} {Rr : va_W} {σ σ' : CS} {r : Int32} {a0 : Int32}, rc 2 a0 0 σ = some (r, σ') → ph σ.2.2 ≤ BB → CtI l g yX6_readTest (.code yX6_readTest cX6_readTest 3 (some .boolean)) (10 * d) (400 * d) ad ta Rr σ [.ref (ad 4), .int a0] r σ') (hrc3 : ∀ {l : Launch} {g : EG} {ad ta : Nat → Nat} {Rr : va_W} {σ σ' : CS} {r : Int32} {a0 : Int32}, rc 3 a0 0 σ = some (r, σ') → ph σ.2.2 ≤ BB → CtI l g yX6_readSum (.code yX6_readSum cX6_readSum 4 (some .boolean)) (10 * d) (400 * d) ad ta Rr σ [.ref (ad 4), .int a0] r σ') (hrc4 : ∀ {l : Launch} {g : EG} {ad ta : Nat → Nat} {Rr : va_W} {σ σ' : CS} {r : Int32} {a0 : Int32}, rc 4 a0 0 σ = some (r, σ') → ph σ.2.2 ≤ BB → CtI l g yX6_readProduct (.code yX6_readProduct cX6_readProduct 4 (some .boolean)) (10 * d) (400 * d) ad ta Rr σ [.ref (ad 4), .int a0] r σ') (hrc5 : ∀ {l : Launch} {g : EG} {ad ta : Nat → Nat} {Rr : va_W} {σ σ' : CS} {r : Int32} {a0 : Int32}, rc 5 a0 0 σ = some (r, σ') → ph σ.2.2 ≤ BB → CtI l g yX6_readValue (.code yX6_readValue cX6_readValue 5 (some .boolean)) (10 * d) (400 * d) ad ta Rr σ [.ref (ad 4), .int a0] r σ') (hrc6 : ∀ {l : Launch} {g : EG} {ad ta : Nat → Nat} {Rr : va_W} {σ σ' : CS} {r : Int32} {a0 a1 : Int32}, rc 6 a0 a1 σ = some (r, σ') → ph σ.2.2 ≤ BB → CtI l g yX6_readPick (.code yX6_readPick cX6_readPick 4 (some .boolean)) (10 * d) (400 * d) ad ta Rr σ [.ref (ad 4), .int a0, .int a1] r σ')  (h : f_Reader_readProduct rc p0 σ = some (r, σ')) (hφ2 : ph σ.2.2 ≤ BB) : CtI l g yX6_readProduct (.code yX6_readProduct cX6_readProduct 4 (some .boolean)) (10 * d + 10) (400 * d + 400) ad ta Rr σ [.ref (ad 4), .int p0] r σ' := by
  refine Ct.of rfl (by decide) (Nat.le_of_ble_eq_true rfl) ?_
  intro p e s m args below meth c A C hr
  have hφ : ph σ.2.2 ≤ ph σ.2.2 := Nat.le_refl _
  refine nw_zero (ph σ.2.2) ?_
  show NI g p l e s m args below meth c A (10 * d + 10) (400 * d + 400) 4 ad Rr (ph σ.2.2) (r, σ') ta σ [(0, .ref (ad 4)), (1, .int p0)] 0 []
  unfold f_Reader_readProduct at h
  refine nw_aload_n C dX6_readProduct_0 rfl 0 rfl ?_
  refine nw_iload_n C dX6_readProduct_1 rfl 1 rfl ?_
  refine nc_callVI (q0 := 4) (As := [.int p0]) (rest := []) C h (fun _ _ e => hrc5 e hφ2) tw_1209 kv_X6_readValue cl_Reader rfl ⟨by omega, by omega⟩ rfl dX6_readProduct_2 rfl (Nat.le_of_ble_eq_true rfl) hφ hφ2 (fun r2 σ2 ta h hφ hφ2 => ?_)
  refine nw_istore_n (lv' := [(2, .int r2), (0, .ref (ad 4)), (1, .int p0)]) C dX6_readProduct_5 rfl (by decide) rfl ?_
  refine nw_iconst (v := 0) C dX6_readProduct_6 (by decide) ?_
  refine nw_istore_n (lv' := [(3, .int 0), (2, .int r2), (0, .ref (ad 4)), (1, .int p0)]) C dX6_readProduct_7 rfl (by decide) rfl ?_
  exact nw_lv (lv' := [(0, .ref (ad 4)), (1, .int p0), (2, .int r2), (3, .int 0)]) [2, 3, 1, 0] rfl (w_Reader_readProduct_8 C hr hrc0 hrc1 hrc2 hrc3 hrc4 hrc5 hrc6 p0 FU r2 0 _ _ hφ hφ2 h)
theorem dX6_readSum_0 : decode cX6_readSum 0 = .ok (.aload_n 0, 1) := by decide +kernel
theorem dX6_readSum_1 : decode cX6_readSum 1 = .ok (.iload_n 1, 1) := by decide +kernel
theorem dX6_readSum_2 : decode cX6_readSum 2 = .ok (.invokevirtual 116, 3) := by decide +kernel
theorem dX6_readSum_5 : decode cX6_readSum 5 = .ok (.istore_n 2, 1) := by decide +kernel
theorem dX6_readSum_6 : decode cX6_readSum 6 = .ok (.iconst 0, 1) := by decide +kernel
theorem dX6_readSum_7 : decode cX6_readSum 7 = .ok (.istore_n 3, 1) := by decide +kernel
theorem dX6_readSum_8 : decode cX6_readSum 8 = .ok (.iload_n 3, 1) := by decide +kernel
theorem dX6_readSum_9 : decode cX6_readSum 9 = .ok (.sipush 400, 3) := by decide +kernel
theorem dX6_readSum_12 : decode cX6_readSum 12 = .ok (.if_icmp .ge 82, 3) := by decide +kernel
theorem dX6_readSum_15 : decode cX6_readSum 15 = .ok (.iload_n 2, 1) := by decide +kernel
theorem dX6_readSum_16 : decode cX6_readSum 16 = .ok (.ifCond .eq 78, 3) := by decide +kernel
theorem dX6_readSum_19 : decode cX6_readSum 19 = .ok (.aload_n 0, 1) := by decide +kernel
theorem dX6_readSum_20 : decode cX6_readSum 20 = .ok (.bipush 43, 2) := by decide +kernel
theorem dX6_readSum_22 : decode cX6_readSum 22 = .ok (.invokevirtual 113, 3) := by decide +kernel
theorem dX6_readSum_25 : decode cX6_readSum 25 = .ok (.ifCond .eq 30, 3) := by decide +kernel
theorem dX6_readSum_28 : decode cX6_readSum 28 = .ok (.aload_n 0, 1) := by decide +kernel
theorem dX6_readSum_29 : decode cX6_readSum 29 = .ok (.iload_n 1, 1) := by decide +kernel
theorem dX6_readSum_30 : decode cX6_readSum 30 = .ok (.invokevirtual 116, 3) := by decide +kernel
theorem dX6_readSum_33 : decode cX6_readSum 33 = .ok (.ifCond .eq 17, 3) := by decide +kernel
theorem dX6_readSum_36 : decode cX6_readSum 36 = .ok (.aload_n 0, 1) := by decide +kernel
theorem dX6_readSum_37 : decode cX6_readSum 37 = .ok (.sipush 10016, 3) := by decide +kernel
theorem dX6_readSum_40 : decode cX6_readSum 40 = .ok (.invokevirtual 100, 3) := by decide +kernel
theorem dX6_readSum_43 : decode cX6_readSum 43 = .ok (.ifCond .eq 7, 3) := by decide +kernel
theorem dX6_readSum_46 : decode cX6_readSum 46 = .ok (.iconst 1, 1) := by decide +kernel
theorem dX6_readSum_47 : decode cX6_readSum 47 = .ok (.goto 4, 3) := by decide +kernel
theorem dX6_readSum_50 : decode cX6_readSum 50 = .ok (.iconst 0, 1) := by decide +kernel
theorem dX6_readSum_51 : decode cX6_readSum 51 = .ok (.istore_n 2, 1) := by decide +kernel
theorem dX6_readSum_52 : decode cX6_readSum 52 = .ok (.goto 36, 3) := by decide +kernel
theorem dX6_readSum_55 : decode cX6_readSum 55 = .ok (.aload_n 0, 1) := by decide +kernel
theorem dX6_readSum_56 : decode cX6_readSum 56 = .ok (.bipush 45, 2) := by decide +kernel
theorem dX6_readSum_58 : decode cX6_readSum 58 = .ok (.invokevirtual 113, 3) := by decide +kernel
theorem dX6_readSum_61 : decode cX6_readSum 61 = .ok (.ifCond .eq 33, 3) := by decide +kernel
theorem dX6_readSum_64 : decode cX6_readSum 64 = .ok (.aload_n 0, 1) := by decide +kernel
theorem dX6_readSum_65 : decode cX6_readSum 65 = .ok (.iload_n 1, 1) := by decide +kernel
theorem dX6_readSum_66 : decode cX6_readSum 66 = .ok (.invokevirtual 116, 3) := by decide +kernel
theorem dX6_readSum_69 : decode cX6_readSum 69 = .ok (.ifCond .eq 17, 3) := by decide +kernel
theorem dX6_readSum_72 : decode cX6_readSum 72 = .ok (.aload_n 0, 1) := by decide +kernel
theorem dX6_readSum_73 : decode cX6_readSum 73 = .ok (.sipush 10017, 3) := by decide +kernel
theorem dX6_readSum_76 : decode cX6_readSum 76 = .ok (.invokevirtual 100, 3) := by decide +kernel
theorem dX6_readSum_79 : decode cX6_readSum 79 = .ok (.ifCond .eq 7, 3) := by decide +kernel
theorem dX6_readSum_82 : decode cX6_readSum 82 = .ok (.iconst 1, 1) := by decide +kernel
theorem dX6_readSum_83 : decode cX6_readSum 83 = .ok (.goto 4, 3) := by decide +kernel
theorem dX6_readSum_86 : decode cX6_readSum 86 = .ok (.iconst 0, 1) := by decide +kernel
theorem dX6_readSum_87 : decode cX6_readSum 87 = .ok (.istore_n 2, 1) := by decide +kernel
theorem dX6_readSum_88 : decode cX6_readSum 88 = .ok (.iinc 3 1, 3) := by decide +kernel
theorem dX6_readSum_91 : decode cX6_readSum 91 = .ok (.goto (-83), 3) := by decide +kernel
theorem dX6_readSum_94 : decode cX6_readSum 94 = .ok (.iload_n 2, 1) := by decide +kernel
theorem dX6_readSum_95 : decode cX6_readSum 95 = .ok (.ireturn, 1) := by decide +kernel
def B_Reader_readSum_86 (rc : Nat → Int32 → Int32 → CS → Option (Int32 × CS)) (k8 : Int32 → Int32 → CS → Option (Int32 × CS)) (x1 : Int32) (x3 : Int32) (σ : CS) : Option (Int32 × CS) := k8 0 (x3 + 1) σ
set_option maxHeartbeats 4000000 in
set_option maxRecDepth 100000 in
theorem w_Reader_readSum_86 (C : Cx g p s m args meth c A 4 cX6_readSum yX6_readSum.cls) (hr : meth.sig.returnType = (some .boolean)) {d : Nat} {rc : Nat → Int32 → Int32 → CS → Option (Int32 × CS)} (hrc0 : ∀ {l : Launch} {g : EG} {ad ta : Nat → Nat} {Rr : va_W} {σ σ' : CS} {r : Int32} {a0 : Int32}, rc 0 a0 0 σ = some (r, σ') → ph σ.2.2 ≤ BB → CtI l g yX6_readEither (.code yX6_readEither cX6_readEither 4 (some .boolean)) (10 * d) (400 * d) ad ta Rr σ [.ref (ad 4), .int a0] r σ') (hrc1 : ∀ {l : Launch} {g : EG} {ad ta : Nat → Nat} {Rr : va_W} {σ σ' : CS} {r : Int32} {a0 : Int32}, rc 1 a0 0 σ = some (r, σ') → ph σ.2.2 ≤ BB → CtI l g yX6_readBoth (.code yX6_readBoth cX6_readBoth 4 (some .boolean)) (10 * d) (400 * d) ad ta Rr σ [.ref (ad 4), .int a0] r σ') (hrc2 : ∀ {l : Launch} {g : EG} {ad ta : Nat → Nat} {Rr : va_W} {σ σ' : CS} {r : Int32} {a0 : Int32}, rc 2 a0 0 σ = some (r, σ') → ph σ.2.2 ≤ BB → CtI l g yX6_readTest (.code yX6_readTest cX6_readTest 3 (some .boolean)) (10 * d) (400 * d) ad ta Rr σ [.ref (ad 4), .int a0] r σ') (hrc3 : ∀ {l : Launch} {g : EG} {ad ta : Nat → Nat} {Rr : va_W} {σ σ' : CS} {r : Int32} {a0 : Int32}, rc 3 a0 0 σ = some (r, σ') → ph σ.2.2 ≤ BB → CtI l g yX6_readSum (.code yX6_readSum cX6_readSum 4 (some .boolean)) (10 * d) (400 * d) ad ta Rr σ [.ref (ad 4), .int a0] r σ') (hrc4 : ∀ {l : Launch} {g : EG} {ad ta : Nat → Nat} {Rr : va_W} {σ σ' : CS} {r : Int32} {a0 : Int32}, rc 4 a0 0 σ = some (r, σ') → ph σ.2.2 ≤ BB → CtI l g yX6_readProduct (.code yX6_readProduct cX6_readProduct 4 (some .boolean)) (10 * d) (400 * d) ad ta Rr σ [.ref (ad 4), .int a0] r σ') (hrc5 : ∀ {l : Launch} {g : EG} {ad ta : Nat → Nat} {Rr : va_W} {σ σ' : CS} {r : Int32} {a0 : Int32}, rc 5 a0 0 σ = some (r, σ') → ph σ.2.2 ≤ BB → CtI l g yX6_readValue (.code yX6_readValue cX6_readValue 5 (some .boolean)) (10 * d) (400 * d) ad ta Rr σ [.ref (ad 4), .int a0] r σ') (hrc6 : ∀ {l : Launch} {g : EG} {ad ta : Nat → Nat} {Rr : va_W} {σ σ' : CS} {r : Int32} {a0 a1 : Int32}, rc 6 a0 a1 σ = some (r, σ') → ph σ.2.2 ≤ BB → CtI l g yX6_readPick (.code yX6_readPick cX6_readPick 4 (some .boolean)) (10 * d) (400 * d) ad ta Rr σ [.ref (ad 4), .int a0, .int a1] r σ')  {res : Int32 × CS}  (x1 : Int32) (x3 : Int32) {k8 : Int32 → Int32 → CS → Option (Int32 × CS)} (hk8 : ∀ (x2 : Int32) (x3 : Int32) (σ : CS) (ta : Nat → Nat), φ0 ≤ ph σ.2.2 → ph σ.2.2 ≤ BB → k8 x2 x3 σ = some res → NI g p l e s m args below meth c A (10 * d + 10) (400 * d + 400) 4 ad Rr φ0 res ta σ [(0, .ref (ad 4)), (1, .int x1), (2, .int x2), (3, .int x3)] 8 []) (σ : CS) (ta : Nat → Nat) (hφ : φ0 ≤ ph σ.2.2) (hφ2 : ph σ.2.2 ≤ BB) (h : B_Reader_readSum_86 rc k8 x1 x3 σ = some res) : NI g p l e s m args below meth c A (10 * d + 10) (400 * d + 400) 4 ad Rr φ0 res ta σ [(0, .ref (ad 4)), (1, .int x1), (3, .int x3)] 86 [] := by
  unfold B_Reader_readSum_86 at h
  refine nw_iconst (v := 0) C dX6_readSum_86 (by decide) ?_
  refine nw_istore_n (lv' := [(2, .int 0), (0, .ref (ad 4)), (1, .int x1), (3, .int x3)]) C dX6_readSum_87 rfl (by decide) rfl ?_
  refine nw_iinc (lv' := [(3, .int (x3 + 1)), (2, .int 0), (0, .ref (ad 4)), (1, .int x1)]) C (x3 + 1) dX6_readSum_88 3 rfl rfl (by decide) rfl ?_
  refine nw_goto (tgt := 8) C dX6_readSum_91 (by decide) ?_
  exact nw_lv (lv' := [(0, .ref (ad 4)), (1, .int x1), (2, .int 0), (3, .int (x3 + 1))]) [2, 3, 1, 0] rfl (hk8 0 (x3 + 1) _ _ hφ hφ2 h)
def L_Reader_readSum_8 (rc : Nat → Int32 → Int32 → CS → Option (Int32 × CS))  (x1 : Int32) : Nat → Int32 → Int32 → CS → Option (Int32 × CS)
  | 0, _, _, _ => none
  | n + 1, x2, x3, σ => if 400 ≤ x3 then grd (x2 = 0 ∨ x2 = 1) (some (x2, σ)) else if x2 = 0 then grd (x2 = 0 ∨ x2 = 1) (some (x2, σ)) else bnd (f_Reader_takeSign 43 σ) (fun r22 σ22 => if r22 = 0 then bnd (f_Reader_takeSign 45 σ22) (fun r58 σ58 => if r58 = 0 then grd (x2 = 0 ∨ x2 = 1) (some (x2, σ58)) else bnd (rc 4 x1 0 σ58) (fun r66 σ66 => if r66 = 0 then B_Reader_readSum_86 rc (L_Reader_readSum_8 rc x1 n) x1 x3 σ66 else bnd (f_Reader_emit 10017 σ66) (fun r76 σ76 => if r76 = 0 then B_Reader_readSum_86 rc (L_Reader_readSum_8 rc x1 n) x1 x3 σ76 else (L_Reader_readSum_8 rc x1 n) 1 (x3 + 1) σ76))) else bnd (rc 4 x1 0 σ22) (fun r30 σ30 => if r30 = 0 then (L_Reader_readSum_8 rc x1 n) 0 (x3 + 1) σ30 else bnd (f_Reader_emit 10016 σ30) (fun r40 σ40 => if r40 = 0 then (L_Reader_readSum_8 rc x1 n) 0 (x3 + 1) σ40 else (L_Reader_readSum_8 rc x1 n) 1 (x3 + 1) σ40)))
set_option maxHeartbeats 4000000 in
set_option maxRecDepth 100000 in
theorem w_Reader_readSum_8 (C : Cx g p s m args meth c A 4 cX6_readSum yX6_readSum.cls) (hr : meth.sig.returnType = (some .boolean)) {d : Nat} {rc : Nat → Int32 → Int32 → CS → Option (Int32 × CS)} (hrc0 : ∀ {l : Launch} {g : EG} {ad ta : Nat → Nat} {Rr : va_W} {σ σ' : CS} {r : Int32} {a0 : Int32}, rc 0 a0 0 σ = some (r, σ') → ph σ.2.2 ≤ BB → CtI l g yX6_readEither (.code yX6_readEither cX6_readEither 4 (some .boolean)) (10 * d) (400 * d) ad ta Rr σ [.ref (ad 4), .int a0] r σ') (hrc1 : ∀ {l : Launch} {g : EG} {ad ta : Nat → Nat} {Rr : va_W} {σ σ' : CS} {r : Int32} {a0 : Int32}, rc 1 a0 0 σ = some (r, σ') → ph σ.2.2 ≤ BB → CtI l g yX6_readBoth (.code yX6_readBoth cX6_readBoth 4 (some .boolean)) (10 * d) (400 * d) ad ta Rr σ [.ref (ad 4), .int a0] r σ') (hrc2 : ∀ {l : Launch} {g : EG} {ad ta : Nat → Nat} {Rr : va_W} {σ σ' : CS} {r : Int32} {a0 : Int32}, rc 2 a0 0 σ = some (r, σ') → ph σ.2.2 ≤ BB → CtI l g yX6_readTest (.code yX6_readTest cX6_readTest 3 (some .boolean)) (10 * d) (400 * d) ad ta Rr σ [.ref (ad 4), .int a0] r σ') (hrc3 : ∀ {l : Launch} {g : EG} {ad ta : Nat → Nat} {Rr : va_W} {σ σ' : CS} {r : Int32} {a0 : Int32}, rc 3 a0 0 σ = some (r, σ') → ph σ.2.2 ≤ BB → CtI l g yX6_readSum (.code yX6_readSum cX6_readSum 4 (some .boolean)) (10 * d) (400 * d) ad ta Rr σ [.ref (ad 4), .int a0] r σ') (hrc4 : ∀ {l : Launch} {g : EG} {ad ta : Nat → Nat} {Rr : va_W} {σ σ' : CS} {r : Int32} {a0 : Int32}, rc 4 a0 0 σ = some (r, σ') → ph σ.2.2 ≤ BB → CtI l g yX6_readProduct (.code yX6_readProduct cX6_readProduct 4 (some .boolean)) (10 * d) (400 * d) ad ta Rr σ [.ref (ad 4), .int a0] r σ') (hrc5 : ∀ {l : Launch} {g : EG} {ad ta : Nat → Nat} {Rr : va_W} {σ σ' : CS} {r : Int32} {a0 : Int32}, rc 5 a0 0 σ = some (r, σ') → ph σ.2.2 ≤ BB → CtI l g yX6_readValue (.code yX6_readValue cX6_readValue 5 (some .boolean)) (10 * d) (400 * d) ad ta Rr σ [.ref (ad 4), .int a0] r σ') (hrc6 : ∀ {l : Launch} {g : EG} {ad ta : Nat → Nat} {Rr : va_W} {σ σ' : CS} {r : Int32} {a0 a1 : Int32}, rc 6 a0 a1 σ = some (r, σ') → ph σ.2.2 ≤ BB → CtI l g yX6_readPick (.code yX6_readPick cX6_readPick 4 (some .boolean)) (10 * d) (400 * d) ad ta Rr σ [.ref (ad 4), .int a0, .int a1] r σ')  {res : Int32 × CS}  (x1 : Int32)  : ∀ (n : Nat) (x2 : Int32) (x3 : Int32) (σ : CS) (ta : Nat → Nat), φ0 ≤ ph σ.2.2 → ph σ.2.2 ≤ BB → L_Reader_readSum_8 rc x1 n x2 x3 σ = some res → NI g p l e s m args below meth c A (10 * d + 10) (400 * d + 400) 4 ad Rr φ0 res ta σ [(0, .ref (ad 4)), (1, .int x1), (2, .int x2), (3, .int x3)] 8 [] := by
  intro n
  induction n with
  | zero =>
    intro x2 x3 σ ta hφ hφ2 h
    exact absurd (show (none : Option (Int32 × CS)) = some res from h) (by intro h9; cases h9)
  | succ n ih =>
    intro x2 x3 σ ta hφ hφ2 h
    rw [L_Reader_readSum_8] at h
    refine nw_iload_n C dX6_readSum_8 rfl 3 rfl ?_
    refine nw_sipush (v := 400) C dX6_readSum_9 (by decide) ?_
    refine nw_icmp_ge (tgt := 94) C dX6_readSum_12 (by decide) h (fun _ h => ?_) (fun _ h => ?_)
    · refine nw_iload_n C dX6_readSum_94 rfl 2 rfl ?_
      exact nc_zretg C hr dX6_readSum_95 hφ hφ2 h
    · refine nw_iload_n C dX6_readSum_15 rfl 2 rfl ?_
      refine nw_if_eq (tgt := 94) C dX6_readSum_16 (by decide) h (fun _ h => ?_) (fun _ h => ?_)
      · refine nw_iload_n C dX6_readSum_94 rfl 2 rfl ?_
        exact nc_zretg C hr dX6_readSum_95 hφ hφ2 h
      · refine nw_aload_n C dX6_readSum_19 rfl 0 rfl ?_
        refine nw_bipush (v := 43) C dX6_readSum_20 (by decide) ?_
        refine nc_callVI (q0 := 4) (As := [.int 43]) (rest := []) C h (fun _ _ e => c_Reader_takeSign e hφ2) tw_1189 kv_X6_takeSign cl_Reader rfl ⟨by omega, by omega⟩ rfl dX6_readSum_22 rfl (Nat.le_of_ble_eq_true rfl) hφ hφ2 (fun r22 σ22 ta h hφ hφ2 => ?_)
        refine nw_if_eq (tgt := 55) C dX6_readSum_25 (by decide) h (fun _ h => ?_) (fun _ h => ?_)
        · refine nw_aload_n C dX6_readSum_55 rfl 0 rfl ?_
          refine nw_bipush (v := 45) C dX6_readSum_56 (by decide) ?_
          refine nc_callVI (q0 := 4) (As := [.int 45]) (rest := []) C h (fun _ _ e => c_Reader_takeSign e hφ2) tw_1189 kv_X6_takeSign cl_Reader rfl ⟨by omega, by omega⟩ rfl dX6_readSum_58 rfl (Nat.le_of_ble_eq_true rfl) hφ hφ2 (fun r58 σ58 ta h hφ hφ2 => ?_)
          refine nw_if_eq (tgt := 94) C dX6_readSum_61 (by decide) h (fun _ h => ?_) (fun _ h => ?_)
          · refine nw_iload_n C dX6_readSum_94 rfl 2 rfl ?_
            exact nc_zretg C hr dX6_readSum_95 hφ hφ2 h
          · refine nw_aload_n C dX6_readSum_64 rfl 0 rfl ?_
            refine nw_iload_n C dX6_readSum_65 rfl 1 rfl ?_
            refine nc_callVI (q0 := 4) (As := [.int x1]) (rest := []) C h (fun _ _ e => hrc4 e hφ2) tw_1205 kv_X6_readProduct cl_Reader rfl ⟨by omega, by omega⟩ rfl dX6_readSum_66 rfl (Nat.le_of_ble_eq_true rfl) hφ hφ2 (fun r66 σ66 ta h hφ hφ2 => ?_)
            refine nw_if_eq (tgt := 86) C dX6_readSum_69 (by decide) h (fun _ h => ?_) (fun _ h => ?_)
            · exact nw_lv (lv' := [(0, .ref (ad 4)), (1, .int x1), (3, .int x3)]) [0, 1, 3] rfl (w_Reader_readSum_86 C hr hrc0 hrc1 hrc2 hrc3 hrc4 hrc5 hrc6 x1 x3 ih _ _ hφ hφ2 h)
            · refine nw_aload_n C dX6_readSum_72 rfl 0 rfl ?_
              refine nw_sipush (v := 10017) C dX6_readSum_73 (by decide) ?_
              refine nc_callVI (q0 := 4) (As := [.int 10017]) (rest := []) C h (fun _ _ e => c_Reader_emit e hφ2) tw_1185 kv_X6_emit cl_Reader rfl ⟨by omega, by omega⟩ rfl dX6_readSum_76 rfl (Nat.le_of_ble_eq_true rfl) hφ hφ2 (fun r76 σ76 ta h hφ hφ2 => ?_)
              refine nw_if_eq (tgt := 86) C dX6_readSum_79 (by decide) h (fun _ h => ?_) (fun _ h => ?_)
              · exact nw_lv (lv' := [(0, .ref (ad 4)), (1, .int x1), (3, .int x3)]) [0, 1, 3] rfl (w_Reader_readSum_86 C hr hrc0 hrc1 hrc2 hrc3 hrc4 hrc5 hrc6 x1 x3 ih _ _ hφ hφ2 h)
              · refine nw_iconst (v := 1) C dX6_readSum_82 (by decide) ?_
                refine nw_goto (tgt := 87) C dX6_readSum_83 (by decide) ?_
                refine nw_istore_n (lv' := [(2, .int 1), (0, .ref (ad 4)), (1, .int x1), (3, .int x3)]) C dX6_readSum_87 rfl (by decide) rfl ?_
                refine nw_iinc (lv' := [(3, .int (x3 + 1)), (2, .int 1), (0, .ref (ad 4)), (1, .int x1)]) C (x3 + 1) dX6_readSum_88 3 rfl rfl (by decide) rfl ?_
                refine nw_goto (tgt := 8) C dX6_readSum_91 (by decide) ?_
                exact nw_lv (lv' := [(0, .ref (ad 4)), (1, .int x1), (2, .int 1), (3, .int (x3 + 1))]) [2, 3, 1, 0] rfl (ih 1 (x3 + 1) _ _ hφ hφ2 h)
        · refine nw_aload_n C dX6_readSum_28 rfl 0 rfl ?_
          refine nw_iload_n C dX6_readSum_29 rfl 1 rfl ?_
          refine nc_callVI (q0 := 4) (As := [.int x1]) (rest := []) C h (fun _ _ e => hrc4 e hφ2) tw_1205 kv_X6_readProduct cl_Reader rfl ⟨by omega, by omega⟩ rfl dX6_readSum_30 rfl (Nat.le_of_ble_eq_true rfl) hφ hφ2 (fun r30 σ30 ta h hφ hφ2 => ?_)
          refine nw_if_eq (tgt := 50) C dX6_readSum_33 (by decide) h (fun _ h => ?_) (fun _ h => ?_)
          · refine nw_iconst (v := 0) C dX6_readSum_50 (by decide) ?_
            refine nw_istore_n (lv' := [(2, .int 0), (0, .ref (ad 4)), (1, .int x1), (3, .int x3)]) C dX6_readSum_51 rfl (by decide) rfl ?_
            refine nw_goto (tgt := 88) C dX6_readSum_52 (by decide) ?_
            refine nw_iinc (lv' := [(3, .int (x3 + 1)), (2, .int 0), (0, .ref (ad 4)), (1, .int x1)]) C (x3 + 1) dX6_readSum_88 3 rfl rfl (by decide) rfl ?_
            refine nw_goto (tgt := 8) C dX6_readSum_91 (by decide) ?_
            exact nw_lv (lv' := [(0, .ref (ad 4)), (1, .int x1), (2, .int 0), (3, .int (x3 + 1))]) [2, 3, 1, 0] rfl (ih 0 (x3 + 1) _ _ hφ hφ2 h)
          · refine nw_aload_n C dX6_readSum_36 rfl 0 rfl ?_
            refine nw_sipush (v := 10016) C dX6_readSum_37 (by decide) ?_
            refine nc_callVI (q0 := 4) (As := [.int 10016]) (rest := []) C h (fun _ _ e => c_Reader_emit e hφ2) tw_1185 kv_X6_emit cl_Reader rfl ⟨by omega, by omega⟩ rfl dX6_readSum_40 rfl (Nat.le_of_ble_eq_true rfl) hφ hφ2 (fun r40 σ40 ta h hφ hφ2 => ?_)
            refine nw_if_eq (tgt := 50) C dX6_readSum_43 (by decide) h (fun _ h => ?_) (fun _ h => ?_)
            · refine nw_iconst (v := 0) C dX6_readSum_50 (by decide) ?_
              refine nw_istore_n (lv' := [(2, .int 0), (0, .ref (ad 4)), (1, .int x1), (3, .int x3)]) C dX6_readSum_51 rfl (by decide) rfl ?_
              refine nw_goto (tgt := 88) C dX6_readSum_52 (by decide) ?_
              refine nw_iinc (lv' := [(3, .int (x3 + 1)), (2, .int 0), (0, .ref (ad 4)), (1, .int x1)]) C (x3 + 1) dX6_readSum_88 3 rfl rfl (by decide) rfl ?_
              refine nw_goto (tgt := 8) C dX6_readSum_91 (by decide) ?_
              exact nw_lv (lv' := [(0, .ref (ad 4)), (1, .int x1), (2, .int 0), (3, .int (x3 + 1))]) [2, 3, 1, 0] rfl (ih 0 (x3 + 1) _ _ hφ hφ2 h)
            · refine nw_iconst (v := 1) C dX6_readSum_46 (by decide) ?_
              refine nw_goto (tgt := 51) C dX6_readSum_47 (by decide) ?_
              refine nw_istore_n (lv' := [(2, .int 1), (0, .ref (ad 4)), (1, .int x1), (3, .int x3)]) C dX6_readSum_51 rfl (by decide) rfl ?_
              refine nw_goto (tgt := 88) C dX6_readSum_52 (by decide) ?_
              refine nw_iinc (lv' := [(3, .int (x3 + 1)), (2, .int 1), (0, .ref (ad 4)), (1, .int x1)]) C (x3 + 1) dX6_readSum_88 3 rfl rfl (by decide) rfl ?_
              refine nw_goto (tgt := 8) C dX6_readSum_91 (by decide) ?_
              exact nw_lv (lv' := [(0, .ref (ad 4)), (1, .int x1), (2, .int 1), (3, .int (x3 + 1))]) [2, 3, 1, 0] rfl (ih 1 (x3 + 1) _ _ hφ hφ2 h)
def f_Reader_readSum (rc : Nat → Int32 → Int32 → CS → Option (Int32 × CS)) (p0 : Int32) (σ : CS) : Option (Int32 × CS) := bnd (rc 4 p0 0 σ) (fun r2 σ2 => L_Reader_readSum_8 rc p0 FU r2 0 σ2)
set_option maxHeartbeats 4000000 in
set_option maxRecDepth 100000 in
theorem c_Reader_readSum {l : Launch} {g : EG} {ad ta : Nat → Nat} {Rr : va_W} {σ σ' : CS} {r : Int32} {p0 : Int32} {d : Nat} {rc : Nat → Int32 → Int32 → CS → Option (Int32 × CS)} (hrc0 : ∀ {l : Launch} {g : EG} {ad ta : Nat → Nat} {Rr : va_W} {σ σ' : CS} {r : Int32} {a0 : Int32}, rc 0 a0 0 σ = some (r, σ') → ph σ.2.2 ≤ BB → CtI l g yX6_readEither (.code yX6_readEither cX6_readEither 4 (some .boolean)) (10 * d) (400 * d) ad ta Rr σ [.ref (ad 4), .int a0] r σ') (hrc1 : ∀ {l : Launch} {g : EG} {ad ta : Nat → Nat} {Rr : va_W} {σ σ' : CS} {r : Int32} {a0 : Int32}, rc 1 a0 0 σ = some (r, σ') → ph σ.2.2 ≤ BB → CtI l g yX6_readBoth (.code yX6_readBoth cX6_readBoth 4 (some .boolean)) (10 * d) (400 * d) ad ta Rr σ [.ref (ad 4), .int a0] r σ') (hrc2 : ∀ {l : Launch} {g : EG} {ad ta : Nat → Nat} {Rr : va_W} {σ σ' : CS} {r : Int32} {a0 : Int32}, rc 2 a0 0 σ = some (r, σ') → ph σ.2.2 ≤ BB → CtI l g yX6_readTest (.code yX6_readTest cX6_readTest 3 (some .boolean)) (10 * d) (400 * d) ad ta Rr σ [.ref (ad 4), .int a0] r σ') (hrc3 : ∀ {l : Launch} {g : EG} {ad ta : Nat → Nat} {Rr : va_W} {σ σ' : CS} {r : Int32} {a0 : Int32}, rc 3 a0 0 σ = some (r, σ') → ph σ.2.2 ≤ BB → CtI l g yX6_readSum (.code yX6_readSum cX6_readSum 4 (some .boolean)) (10 * d) (400 * d) ad ta Rr σ [.ref (ad 4), .int a0] r σ') (hrc4 : ∀ {l : Launch} {g : EG} {ad ta : Nat → Nat} {Rr : va_W} {σ σ' : CS} {r : Int32} {a0 : Int32}, rc 4 a0 0 σ = some (r, σ') → ph σ.2.2 ≤ BB → CtI l g yX6_readProduct (.code yX6_readProduct cX6_readProduct 4 (some .boolean)) (10 * d) (400 * d) ad ta Rr σ [.ref (ad 4), .int a0] r σ') (hrc5 : ∀ {l : Launch} {g : EG} {ad ta : Nat → Nat} {Rr : va_W} {σ σ' : CS} {r : Int32} {a0 : Int32}, rc 5 a0 0 σ = some (r, σ') → ph σ.2.2 ≤ BB → CtI l g yX6_readValue (.code yX6_readValue cX6_readValue 5 (some .boolean)) (10 * d) (400 * d) ad ta Rr σ [.ref (ad 4), .int a0] r σ') (hrc6 : ∀ {l : Launch} {g : EG} {ad ta : Nat → Nat} {Rr : va_W} {σ σ' : CS} {r : Int32} {a0 a1 : Int32}, rc 6 a0 a1 σ = some (r, σ') → ph σ.2.2 ≤ BB → CtI l g yX6_readPick (.code yX6_readPick cX6_readPick 4 (some .boolean)) (10 * d) (400 * d) ad ta Rr σ [.ref (ad 4), .int a0, .int a1] r σ')  (h : f_Reader_readSum rc p0 σ = some (r, σ')) (hφ2 : ph σ.2.2 ≤ BB) : CtI l g yX6_readSum (.code yX6_readSum cX6_readSum 4 (some .boolean)) (10 * d + 10) (400 * d + 400) ad ta Rr σ [.ref (ad 4), .int p0] r σ' := by
  refine Ct.of rfl (by decide) (Nat.le_of_ble_eq_true rfl) ?_
  intro p e s m args below meth c A C hr
  have hφ : ph σ.2.2 ≤ ph σ.2.2 := Nat.le_refl _
  refine nw_zero (ph σ.2.2) ?_
  show NI g p l e s m args below meth c A (10 * d + 10) (400 * d + 400) 4 ad Rr (ph σ.2.2) (r, σ') ta σ [(0, .ref (ad 4)), (1, .int p0)] 0 []
  unfold f_Reader_readSum at h
  refine nw_aload_n C dX6_readSum_0 rfl 0 rfl ?_
  refine nw_iload_n C dX6_readSum_1 rfl 1 rfl ?_
  refine nc_callVI (q0 := 4) (As := [.int p0]) (rest := []) C h (fun _ _ e => hrc4 e hφ2) tw_1205 kv_X6_readProduct cl_Reader rfl ⟨by omega, by omega⟩ rfl dX6_readSum_2 rfl (Nat.le_of_ble_eq_true rfl) hφ hφ2 (fun r2 σ2 ta h hφ hφ2 => ?_)
  refine nw_istore_n (lv' := [(2, .int r2), (0, .ref (ad 4)), (1, .int p0)]) C dX6_readSum_5 rfl (by decide) rfl ?_
  refine nw_iconst (v := 0) C dX6_readSum_6 (by decide) ?_
  refine nw_istore_n (lv' := [(3, .int 0), (2, .int r2), (0, .ref (ad 4)), (1, .int p0)]) C dX6_readSum_7 rfl (by decide) rfl ?_
  exact nw_lv (lv' := [(0, .ref (ad 4)), (1, .int p0), (2, .int r2), (3, .int 0)]) [2, 3, 1, 0] rfl (w_Reader_readSum_8 C hr hrc0 hrc1 hrc2 hrc3 hrc4 hrc5 hrc6 p0 FU r2 0 _ _ hφ hφ2 h)
theorem dX6_readTest_0 : decode cX6_readTest 0 = .ok (.aload_n 0, 1) := by decide +kernel
theorem dX6_readTest_1 : decode cX6_readTest 1 = .ok (.invokevirtual 43, 3) := by decide +kernel
theorem dX6_readTest_4 : decode cX6_readTest 4 = .ok (.aload_n 0, 1) := by decide +kernel
theorem dX6_readTest_5 : decode cX6_readTest 5 = .ok (.getfield 31, 3) := by decide +kernel
theorem dX6_readTest_8 : decode cX6_readTest 8 = .ok (.istore_n 2, 1) := by decide +kernel
theorem dX6_readTest_9 : decode cX6_readTest 9 = .ok (.aload_n 0, 1) := by decide +kernel
theorem dX6_readTest_10 : decode cX6_readTest 10 = .ok (.ldc 108, 2) := by decide +kernel
theorem dX6_readTest_12 : decode cX6_readTest 12 = .ok (.invokevirtual 48, 3) := by decide +kernel
theorem dX6_readTest_15 : decode cX6_readTest 15 = .ok (.iconst (-1), 1) := by decide +kernel
theorem dX6_readTest_16 : decode cX6_readTest 16 = .ok (.if_icmp .eq 38, 3) := by decide +kernel
theorem dX6_readTest_19 : decode cX6_readTest 19 = .ok (.aload_n 0, 1) := by decide +kernel
theorem dX6_readTest_20 : decode cX6_readTest 20 = .ok (.iload_n 1, 1) := by decide +kernel
theorem dX6_readTest_21 : decode cX6_readTest 21 = .ok (.iload_n 2, 1) := by decide +kernel
theorem dX6_readTest_22 : decode cX6_readTest 22 = .ok (.invokevirtual 110, 3) := by decide +kernel
theorem dX6_readTest_25 : decode cX6_readTest 25 = .ok (.ifCond .eq 27, 3) := by decide +kernel
theorem dX6_readTest_28 : decode cX6_readTest 28 = .ok (.aload_n 0, 1) := by decide +kernel
theorem dX6_readTest_29 : decode cX6_readTest 29 = .ok (.iload_n 1, 1) := by decide +kernel
theorem dX6_readTest_30 : decode cX6_readTest 30 = .ok (.iconst 1, 1) := by decide +kernel
theorem dX6_readTest_31 : decode cX6_readTest 31 = .ok (.iadd, 1) := by decide +kernel
theorem dX6_readTest_32 : decode cX6_readTest 32 = .ok (.invokevirtual 103, 3) := by decide +kernel
theorem dX6_readTest_35 : decode cX6_readTest 35 = .ok (.ifCond .eq 17, 3) := by decide +kernel
theorem dX6_readTest_38 : decode cX6_readTest 38 = .ok (.aload_n 0, 1) := by decide +kernel
theorem dX6_readTest_39 : decode cX6_readTest 39 = .ok (.sipush 10010, 3) := by decide +kernel
theorem dX6_readTest_42 : decode cX6_readTest 42 = .ok (.invokevirtual 100, 3) := by decide +kernel
theorem dX6_readTest_45 : decode cX6_readTest 45 = .ok (.ifCond .eq 7, 3) := by decide +kernel
theorem dX6_readTest_48 : decode cX6_readTest 48 = .ok (.iconst 1, 1) := by decide +kernel
theorem dX6_readTest_49 : decode cX6_readTest 49 = .ok (.goto 4, 3) := by decide +kernel
theorem dX6_readTest_52 : decode cX6_readTest 52 = .ok (.iconst 0, 1) := by decide +kernel
theorem dX6_readTest_53 : decode cX6_readTest 53 = .ok (.ireturn, 1) := by decide +kernel
theorem dX6_readTest_54 : decode cX6_readTest 54 = .ok (.aload_n 0, 1) := by decide +kernel
theorem dX6_readTest_55 : decode cX6_readTest 55 = .ok (.bipush 91, 2) := by decide +kernel
theorem dX6_readTest_57 : decode cX6_readTest 57 = .ok (.invokevirtual 113, 3) := by decide +kernel
theorem dX6_readTest_60 : decode cX6_readTest 60 = .ok (.ifCond .eq 37, 3) := by decide +kernel
theorem dX6_readTest_63 : decode cX6_readTest 63 = .ok (.aload_n 0, 1) := by decide +kernel
theorem dX6_readTest_64 : decode cX6_readTest 64 = .ok (.iload_n 1, 1) := by decide +kernel
theorem dX6_readTest_65 : decode cX6_readTest 65 = .ok (.iload_n 2, 1) := by decide +kernel
theorem dX6_readTest_66 : decode cX6_readTest 66 = .ok (.invokevirtual 110, 3) := by decide +kernel
theorem dX6_readTest_69 : decode cX6_readTest 69 = .ok (.ifCond .eq 26, 3) := by decide +kernel
theorem dX6_readTest_72 : decode cX6_readTest 72 = .ok (.aload_n 0, 1) := by decide +kernel
theorem dX6_readTest_73 : decode cX6_readTest 73 = .ok (.iload_n 1, 1) := by decide +kernel
theorem dX6_readTest_74 : decode cX6_readTest 74 = .ok (.iconst 1, 1) := by decide +kernel
theorem dX6_readTest_75 : decode cX6_readTest 75 = .ok (.iadd, 1) := by decide +kernel
theorem dX6_readTest_76 : decode cX6_readTest 76 = .ok (.invokevirtual 71, 3) := by decide +kernel
theorem dX6_readTest_79 : decode cX6_readTest 79 = .ok (.ifCond .eq 16, 3) := by decide +kernel
theorem dX6_readTest_82 : decode cX6_readTest 82 = .ok (.aload_n 0, 1) := by decide +kernel
theorem dX6_readTest_83 : decode cX6_readTest 83 = .ok (.bipush 93, 2) := by decide +kernel
theorem dX6_readTest_85 : decode cX6_readTest 85 = .ok (.invokevirtual 74, 3) := by decide +kernel
theorem dX6_readTest_88 : decode cX6_readTest 88 = .ok (.ifCond .eq 7, 3) := by decide +kernel
theorem dX6_readTest_91 : decode cX6_readTest 91 = .ok (.iconst 1, 1) := by decide +kernel
theorem dX6_readTest_92 : decode cX6_readTest 92 = .ok (.goto 4, 3) := by decide +kernel
theorem dX6_readTest_95 : decode cX6_readTest 95 = .ok (.iconst 0, 1) := by decide +kernel
theorem dX6_readTest_96 : decode cX6_readTest 96 = .ok (.ireturn, 1) := by decide +kernel
theorem dX6_readTest_97 : decode cX6_readTest 97 = .ok (.aload_n 0, 1) := by decide +kernel
theorem dX6_readTest_98 : decode cX6_readTest 98 = .ok (.iload_n 1, 1) := by decide +kernel
theorem dX6_readTest_99 : decode cX6_readTest 99 = .ok (.invokevirtual 77, 3) := by decide +kernel
theorem dX6_readTest_102 : decode cX6_readTest 102 = .ok (.ifCond .ne 5, 3) := by decide +kernel
theorem dX6_readTest_105 : decode cX6_readTest 105 = .ok (.iconst 0, 1) := by decide +kernel
theorem dX6_readTest_106 : decode cX6_readTest 106 = .ok (.ireturn, 1) := by decide +kernel
theorem dX6_readTest_107 : decode cX6_readTest 107 = .ok (.aload_n 0, 1) := by decide +kernel
theorem dX6_readTest_108 : decode cX6_readTest 108 = .ok (.bipush 60, 2) := by decide +kernel
theorem dX6_readTest_110 : decode cX6_readTest 110 = .ok (.invokevirtual 113, 3) := by decide +kernel
theorem dX6_readTest_113 : decode cX6_readTest 113 = .ok (.ifCond .eq 27, 3) := by decide +kernel
theorem dX6_readTest_116 : decode cX6_readTest 116 = .ok (.aload_n 0, 1) := by decide +kernel
theorem dX6_readTest_117 : decode cX6_readTest 117 = .ok (.iload_n 1, 1) := by decide +kernel
theorem dX6_readTest_118 : decode cX6_readTest 118 = .ok (.invokevirtual 77, 3) := by decide +kernel
theorem dX6_readTest_121 : decode cX6_readTest 121 = .ok (.ifCond .eq 17, 3) := by decide +kernel
theorem dX6_readTest_124 : decode cX6_readTest 124 = .ok (.aload_n 0, 1) := by decide +kernel
theorem dX6_readTest_125 : decode cX6_readTest 125 = .ok (.sipush 10013, 3) := by decide +kernel
theorem dX6_readTest_128 : decode cX6_readTest 128 = .ok (.invokevirtual 100, 3) := by decide +kernel
theorem dX6_readTest_131 : decode cX6_readTest 131 = .ok (.ifCond .eq 7, 3) := by decide +kernel
theorem dX6_readTest_134 : decode cX6_readTest 134 = .ok (.iconst 1, 1) := by decide +kernel
theorem dX6_readTest_135 : decode cX6_readTest 135 = .ok (.goto 4, 3) := by decide +kernel
theorem dX6_readTest_138 : decode cX6_readTest 138 = .ok (.iconst 0, 1) := by decide +kernel
theorem dX6_readTest_139 : decode cX6_readTest 139 = .ok (.ireturn, 1) := by decide +kernel
theorem dX6_readTest_140 : decode cX6_readTest 140 = .ok (.aload_n 0, 1) := by decide +kernel
theorem dX6_readTest_141 : decode cX6_readTest 141 = .ok (.bipush 62, 2) := by decide +kernel
theorem dX6_readTest_143 : decode cX6_readTest 143 = .ok (.invokevirtual 113, 3) := by decide +kernel
theorem dX6_readTest_146 : decode cX6_readTest 146 = .ok (.ifCond .eq 27, 3) := by decide +kernel
theorem dX6_readTest_149 : decode cX6_readTest 149 = .ok (.aload_n 0, 1) := by decide +kernel
theorem dX6_readTest_150 : decode cX6_readTest 150 = .ok (.iload_n 1, 1) := by decide +kernel
theorem dX6_readTest_151 : decode cX6_readTest 151 = .ok (.invokevirtual 77, 3) := by decide +kernel
theorem dX6_readTest_154 : decode cX6_readTest 154 = .ok (.ifCond .eq 17, 3) := by decide +kernel
theorem dX6_readTest_157 : decode cX6_readTest 157 = .ok (.aload_n 0, 1) := by decide +kernel
theorem dX6_readTest_158 : decode cX6_readTest 158 = .ok (.sipush 10014, 3) := by decide +kernel
theorem dX6_readTest_161 : decode cX6_readTest 161 = .ok (.invokevirtual 100, 3) := by decide +kernel
theorem dX6_readTest_164 : decode cX6_readTest 164 = .ok (.ifCond .eq 7, 3) := by decide +kernel
theorem dX6_readTest_167 : decode cX6_readTest 167 = .ok (.iconst 1, 1) := by decide +kernel
theorem dX6_readTest_168 : decode cX6_readTest 168 = .ok (.goto 4, 3) := by decide +kernel
theorem dX6_readTest_171 : decode cX6_readTest 171 = .ok (.iconst 0, 1) := by decide +kernel
theorem dX6_readTest_172 : decode cX6_readTest 172 = .ok (.ireturn, 1) := by decide +kernel
theorem dX6_readTest_173 : decode cX6_readTest 173 = .ok (.aload_n 0, 1) := by decide +kernel
theorem dX6_readTest_174 : decode cX6_readTest 174 = .ok (.bipush 61, 2) := by decide +kernel
theorem dX6_readTest_176 : decode cX6_readTest 176 = .ok (.invokevirtual 74, 3) := by decide +kernel
theorem dX6_readTest_179 : decode cX6_readTest 179 = .ok (.ifCond .eq 25, 3) := by decide +kernel
theorem dX6_readTest_182 : decode cX6_readTest 182 = .ok (.aload_n 0, 1) := by decide +kernel
theorem dX6_readTest_183 : decode cX6_readTest 183 = .ok (.iload_n 1, 1) := by decide +kernel
theorem dX6_readTest_184 : decode cX6_readTest 184 = .ok (.invokevirtual 77, 3) := by decide +kernel
theorem dX6_readTest_187 : decode cX6_readTest 187 = .ok (.ifCond .eq 17, 3) := by decide +kernel
theorem dX6_readTest_190 : decode cX6_readTest 190 = .ok (.aload_n 0, 1) := by decide +kernel
theorem dX6_readTest_191 : decode cX6_readTest 191 = .ok (.sipush 10015, 3) := by decide +kernel
theorem dX6_readTest_194 : decode cX6_readTest 194 = .ok (.invokevirtual 100, 3) := by decide +kernel
theorem dX6_readTest_197 : decode cX6_readTest 197 = .ok (.ifCond .eq 7, 3) := by decide +kernel
theorem dX6_readTest_200 : decode cX6_readTest 200 = .ok (.iconst 1, 1) := by decide +kernel
theorem dX6_readTest_201 : decode cX6_readTest 201 = .ok (.goto 4, 3) := by decide +kernel
theorem dX6_readTest_204 : decode cX6_readTest 204 = .ok (.iconst 0, 1) := by decide +kernel
theorem dX6_readTest_205 : decode cX6_readTest 205 = .ok (.ireturn, 1) := by decide +kernel
def f_Reader_readTest (rc : Nat → Int32 → Int32 → CS → Option (Int32 × CS)) (p0 : Int32) (σ : CS) : Option (Int32 × CS) := bnd (f_Reader_skipBlanks σ) (fun _ σ1 => bnd (f_Reader_takeWord 6 σ1) (fun r12 σ12 => if r12 = (-1) then bnd (f_Reader_takeSign 91 σ12) (fun r57 σ57 => if r57 = 0 then bnd (rc 3 p0 0 σ57) (fun r99 σ99 => if r99 = 0 then some (0, σ99) else bnd (f_Reader_takeSign 60 σ99) (fun r110 σ110 => if r110 = 0 then bnd (f_Reader_takeSign 62 σ110) (fun r143 σ143 => if r143 = 0 then bnd (f_Reader_needSign 61 σ143) (fun r176 σ176 => if r176 = 0 then some (0, σ176) else bnd (rc 3 p0 0 σ176) (fun r184 σ184 => if r184 = 0 then some (0, σ184) else bnd (f_Reader_emit 10015 σ184) (fun r194 σ194 => if r194 = 0 then some (0, σ194) else some (1, σ194)))) else bnd (rc 3 p0 0 σ143) (fun r151 σ151 => if r151 = 0 then some (0, σ151) else bnd (f_Reader_emit 10014 σ151) (fun r161 σ161 => if r161 = 0 then some (0, σ161) else some (1, σ161)))) else bnd (rc 3 p0 0 σ110) (fun r118 σ118 => if r118 = 0 then some (0, σ118) else bnd (f_Reader_emit 10013 σ118) (fun r128 σ128 => if r128 = 0 then some (0, σ128) else some (1, σ128))))) else bnd (f_Reader_mayOpen p0 (σ1.1 56) σ57) (fun r66 σ66 => if r66 = 0 then some (0, σ66) else bnd (rc 0 (p0 + 1) 0 σ66) (fun r76 σ76 => if r76 = 0 then some (0, σ76) else bnd (f_Reader_needSign 93 σ76) (fun r85 σ85 => if r85 = 0 then some (0, σ85) else some (1, σ85))))) else bnd (f_Reader_mayOpen p0 (σ1.1 56) σ12) (fun r22 σ22 => if r22 = 0 then some (0, σ22) else bnd (rc 2 (p0 + 1) 0 σ22) (fun r32 σ32 => if r32 = 0 then some (0, σ32) else bnd (f_Reader_emit 10010 σ32) (fun r42 σ42 => if r42 = 0 then some (0, σ42) else some (1, σ42))))))
set_option maxHeartbeats 4000000 in
set_option maxRecDepth 100000 in
theorem c_Reader_readTest {l : Launch} {g : EG} {ad ta : Nat → Nat} {Rr : va_W} {σ σ' : CS} {r : Int32} {p0 : Int32} {d : Nat} {rc : Nat → Int32 → Int32 → CS → Option (Int32 × CS)} (hrc0 : ∀ {l : Launch} {g : EG} {ad ta : Nat → Nat} {Rr : va_W} {σ σ' : CS} {r : Int32} {a0 : Int32}, rc 0 a0 0 σ = some (r, σ') → ph σ.2.2 ≤ BB → CtI l g yX6_readEither (.code yX6_readEither cX6_readEither 4 (some .boolean)) (10 * d) (400 * d) ad ta Rr σ [.ref (ad 4), .int a0] r σ') (hrc1 : ∀ {l : Launch} {g : EG} {ad ta : Nat → Nat} {Rr : va_W} {σ σ' : CS} {r : Int32} {a0 : Int32}, rc 1 a0 0 σ = some (r, σ') → ph σ.2.2 ≤ BB → CtI l g yX6_readBoth (.code yX6_readBoth cX6_readBoth 4 (some .boolean)) (10 * d) (400 * d) ad ta Rr σ [.ref (ad 4), .int a0] r σ') (hrc2 : ∀ {l : Launch} {g : EG} {ad ta : Nat → Nat} {Rr : va_W} {σ σ' : CS} {r : Int32} {a0 : Int32}, rc 2 a0 0 σ = some (r, σ') → ph σ.2.2 ≤ BB → CtI l g yX6_readTest (.code yX6_readTest cX6_readTest 3 (some .boolean)) (10 * d) (400 * d) ad ta Rr σ [.ref (ad 4), .int a0] r σ') (hrc3 : ∀ {l : Launch} {g : EG} {ad ta : Nat → Nat} {Rr : va_W} {σ σ' : CS} {r : Int32} {a0 : Int32}, rc 3 a0 0 σ = some (r, σ') → ph σ.2.2 ≤ BB → CtI l g yX6_readSum (.code yX6_readSum cX6_readSum 4 (some .boolean)) (10 * d) (400 * d) ad ta Rr σ [.ref (ad 4), .int a0] r σ') (hrc4 : ∀ {l : Launch} {g : EG} {ad ta : Nat → Nat} {Rr : va_W} {σ σ' : CS} {r : Int32} {a0 : Int32}, rc 4 a0 0 σ = some (r, σ') → ph σ.2.2 ≤ BB → CtI l g yX6_readProduct (.code yX6_readProduct cX6_readProduct 4 (some .boolean)) (10 * d) (400 * d) ad ta Rr σ [.ref (ad 4), .int a0] r σ') (hrc5 : ∀ {l : Launch} {g : EG} {ad ta : Nat → Nat} {Rr : va_W} {σ σ' : CS} {r : Int32} {a0 : Int32}, rc 5 a0 0 σ = some (r, σ') → ph σ.2.2 ≤ BB → CtI l g yX6_readValue (.code yX6_readValue cX6_readValue 5 (some .boolean)) (10 * d) (400 * d) ad ta Rr σ [.ref (ad 4), .int a0] r σ') (hrc6 : ∀ {l : Launch} {g : EG} {ad ta : Nat → Nat} {Rr : va_W} {σ σ' : CS} {r : Int32} {a0 a1 : Int32}, rc 6 a0 a1 σ = some (r, σ') → ph σ.2.2 ≤ BB → CtI l g yX6_readPick (.code yX6_readPick cX6_readPick 4 (some .boolean)) (10 * d) (400 * d) ad ta Rr σ [.ref (ad 4), .int a0, .int a1] r σ')  (h : f_Reader_readTest rc p0 σ = some (r, σ')) (hφ2 : ph σ.2.2 ≤ BB) : CtI l g yX6_readTest (.code yX6_readTest cX6_readTest 3 (some .boolean)) (10 * d + 10) (400 * d + 400) ad ta Rr σ [.ref (ad 4), .int p0] r σ' := by
  refine Ct.of rfl (by decide) (Nat.le_of_ble_eq_true rfl) ?_
  intro p e s m args below meth c A C hr
  have hφ : ph σ.2.2 ≤ ph σ.2.2 := Nat.le_refl _
  refine nw_zero (ph σ.2.2) ?_
  show NI g p l e s m args below meth c A (10 * d + 10) (400 * d + 400) 3 ad Rr (ph σ.2.2) (r, σ') ta σ [(0, .ref (ad 4)), (1, .int p0)] 0 []
  unfold f_Reader_readTest at h
  refine nw_aload_n C dX6_readTest_0 rfl 0 rfl ?_
  refine nc_callVV (q0 := 4) (As := []) (rest := []) C h (fun _ _ e => c_Reader_skipBlanks e hφ2) tw_1086 kv_X6_skipBlanks cl_Reader rfl ⟨by omega, by omega⟩ rfl dX6_readTest_1 rfl (Nat.le_of_ble_eq_true rfl) hφ hφ2 (fun r1 σ1 ta h hφ hφ2 => ?_)
  refine nw_aload_n C dX6_readTest_4 rfl 0 rfl ?_
  refine nw_get (v := .int (σ1.1 56)) C in_X6 4 cl_Reader rfl 4 (by decide) tw_253 rfl rfl dX6_readTest_5 ?_
  refine nw_istore_n (lv' := [(2, .int (σ1.1 56)), (0, .ref (ad 4)), (1, .int p0)]) C dX6_readTest_8 rfl (by decide) rfl ?_
  refine nw_aload_n C dX6_readTest_9 rfl 1 rfl ?_
  refine nw_lds (i := 6) C (by decide) rfl rfl dX6_readTest_10 ?_
  refine nc_callVI (q0 := 4) (As := [.ref (gK g 6)]) (rest := []) C h (fun _ _ e => c_Reader_takeWord 6 (by decide) e hφ2) tw_1096 kv_X6_takeWord cl_Reader rfl ⟨by omega, by omega⟩ rfl dX6_readTest_12 rfl (Nat.le_of_ble_eq_true rfl) hφ hφ2 (fun r12 σ12 ta h hφ hφ2 => ?_)
  refine nw_iconst (v := (-1)) C dX6_readTest_15 (by decide) ?_
  refine nw_icmp_eq (tgt := 54) C dX6_readTest_16 (by decide) h (fun _ h => ?_) (fun _ h => ?_)
  · refine nw_aload_n C dX6_readTest_54 rfl 1 rfl ?_
    refine nw_bipush (v := 91) C dX6_readTest_55 (by decide) ?_
    refine nc_callVI (q0 := 4) (As := [.int 91]) (rest := []) C h (fun _ _ e => c_Reader_takeSign e hφ2) tw_1189 kv_X6_takeSign cl_Reader rfl ⟨by omega, by omega⟩ rfl dX6_readTest_57 rfl (Nat.le_of_ble_eq_true rfl) hφ hφ2 (fun r57 σ57 ta h hφ hφ2 => ?_)
    refine nw_if_eq (tgt := 97) C dX6_readTest_60 (by decide) h (fun _ h => ?_) (fun _ h => ?_)
    · refine nw_aload_n C dX6_readTest_97 rfl 1 rfl ?_
      refine nw_iload_n C dX6_readTest_98 rfl 2 rfl ?_
      refine nc_callVI (q0 := 4) (As := [.int p0]) (rest := []) C h (fun _ _ e => hrc3 e hφ2) tw_1201 kv_X6_readSum cl_Reader rfl ⟨by omega, by omega⟩ rfl dX6_readTest_99 rfl (Nat.le_of_ble_eq_true rfl) hφ hφ2 (fun r99 σ99 ta h hφ hφ2 => ?_)
      refine nw_if_ne (tgt := 107) C dX6_readTest_102 (by decide) h (fun _ h => ?_) (fun _ h => ?_)
      · refine nw_iconst (v := 0) C dX6_readTest_105 (by decide) ?_
        exact nc_zret C hr (Or.inl rfl) dX6_readTest_106 hφ hφ2 h
      · refine nw_aload_n C dX6_readTest_107 rfl 1 rfl ?_
        refine nw_bipush (v := 60) C dX6_readTest_108 (by decide) ?_
        refine nc_callVI (q0 := 4) (As := [.int 60]) (rest := []) C h (fun _ _ e => c_Reader_takeSign e hφ2) tw_1189 kv_X6_takeSign cl_Reader rfl ⟨by omega, by omega⟩ rfl dX6_readTest_110 rfl (Nat.le_of_ble_eq_true rfl) hφ hφ2 (fun r110 σ110 ta h hφ hφ2 => ?_)
        refine nw_if_eq (tgt := 140) C dX6_readTest_113 (by decide) h (fun _ h => ?_) (fun _ h => ?_)
        · refine nw_aload_n C dX6_readTest_140 rfl 1 rfl ?_
          refine nw_bipush (v := 62) C dX6_readTest_141 (by decide) ?_
          refine nc_callVI (q0 := 4) (As := [.int 62]) (rest := []) C h (fun _ _ e => c_Reader_takeSign e hφ2) tw_1189 kv_X6_takeSign cl_Reader rfl ⟨by omega, by omega⟩ rfl dX6_readTest_143 rfl (Nat.le_of_ble_eq_true rfl) hφ hφ2 (fun r143 σ143 ta h hφ hφ2 => ?_)
          refine nw_if_eq (tgt := 173) C dX6_readTest_146 (by decide) h (fun _ h => ?_) (fun _ h => ?_)
          · refine nw_aload_n C dX6_readTest_173 rfl 1 rfl ?_
            refine nw_bipush (v := 61) C dX6_readTest_174 (by decide) ?_
            refine nc_callVI (q0 := 4) (As := [.int 61]) (rest := []) C h (fun _ _ e => c_Reader_needSign e hφ2) tw_1197 kv_X6_needSign cl_Reader rfl ⟨by omega, by omega⟩ rfl dX6_readTest_176 rfl (Nat.le_of_ble_eq_true rfl) hφ hφ2 (fun r176 σ176 ta h hφ hφ2 => ?_)
            refine nw_if_eq (tgt := 204) C dX6_readTest_179 (by decide) h (fun _ h => ?_) (fun _ h => ?_)
            · refine nw_iconst (v := 0) C dX6_readTest_204 (by decide) ?_
              exact nc_zret C hr (Or.inl rfl) dX6_readTest_205 hφ hφ2 h
            · refine nw_aload_n C dX6_readTest_182 rfl 1 rfl ?_
              refine nw_iload_n C dX6_readTest_183 rfl 2 rfl ?_
              refine nc_callVI (q0 := 4) (As := [.int p0]) (rest := []) C h (fun _ _ e => hrc3 e hφ2) tw_1201 kv_X6_readSum cl_Reader rfl ⟨by omega, by omega⟩ rfl dX6_readTest_184 rfl (Nat.le_of_ble_eq_true rfl) hφ hφ2 (fun r184 σ184 ta h hφ hφ2 => ?_)
              refine nw_if_eq (tgt := 204) C dX6_readTest_187 (by decide) h (fun _ h => ?_) (fun _ h => ?_)
              · refine nw_iconst (v := 0) C dX6_readTest_204 (by decide) ?_
                exact nc_zret C hr (Or.inl rfl) dX6_readTest_205 hφ hφ2 h
              · refine nw_aload_n C dX6_readTest_190 rfl 1 rfl ?_
                refine nw_sipush (v := 10015) C dX6_readTest_191 (by decide) ?_
                refine nc_callVI (q0 := 4) (As := [.int 10015]) (rest := []) C h (fun _ _ e => c_Reader_emit e hφ2) tw_1185 kv_X6_emit cl_Reader rfl ⟨by omega, by omega⟩ rfl dX6_readTest_194 rfl (Nat.le_of_ble_eq_true rfl) hφ hφ2 (fun r194 σ194 ta h hφ hφ2 => ?_)
                refine nw_if_eq (tgt := 204) C dX6_readTest_197 (by decide) h (fun _ h => ?_) (fun _ h => ?_)
                · refine nw_iconst (v := 0) C dX6_readTest_204 (by decide) ?_
                  exact nc_zret C hr (Or.inl rfl) dX6_readTest_205 hφ hφ2 h
                · refine nw_iconst (v := 1) C dX6_readTest_200 (by decide) ?_
                  refine nw_goto (tgt := 205) C dX6_readTest_201 (by decide) ?_
                  exact nc_zret C hr (Or.inr rfl) dX6_readTest_205 hφ hφ2 h
          · refine nw_aload_n C dX6_readTest_149 rfl 1 rfl ?_
            refine nw_iload_n C dX6_readTest_150 rfl 2 rfl ?_
            refine nc_callVI (q0 := 4) (As := [.int p0]) (rest := []) C h (fun _ _ e => hrc3 e hφ2) tw_1201 kv_X6_readSum cl_Reader rfl ⟨by omega, by omega⟩ rfl dX6_readTest_151 rfl (Nat.le_of_ble_eq_true rfl) hφ hφ2 (fun r151 σ151 ta h hφ hφ2 => ?_)
            refine nw_if_eq (tgt := 171) C dX6_readTest_154 (by decide) h (fun _ h => ?_) (fun _ h => ?_)
            · refine nw_iconst (v := 0) C dX6_readTest_171 (by decide) ?_
              exact nc_zret C hr (Or.inl rfl) dX6_readTest_172 hφ hφ2 h
            · refine nw_aload_n C dX6_readTest_157 rfl 1 rfl ?_
              refine nw_sipush (v := 10014) C dX6_readTest_158 (by decide) ?_
              refine nc_callVI (q0 := 4) (As := [.int 10014]) (rest := []) C h (fun _ _ e => c_Reader_emit e hφ2) tw_1185 kv_X6_emit cl_Reader rfl ⟨by omega, by omega⟩ rfl dX6_readTest_161 rfl (Nat.le_of_ble_eq_true rfl) hφ hφ2 (fun r161 σ161 ta h hφ hφ2 => ?_)
              refine nw_if_eq (tgt := 171) C dX6_readTest_164 (by decide) h (fun _ h => ?_) (fun _ h => ?_)
              · refine nw_iconst (v := 0) C dX6_readTest_171 (by decide) ?_
                exact nc_zret C hr (Or.inl rfl) dX6_readTest_172 hφ hφ2 h
              · refine nw_iconst (v := 1) C dX6_readTest_167 (by decide) ?_
                refine nw_goto (tgt := 172) C dX6_readTest_168 (by decide) ?_
                exact nc_zret C hr (Or.inr rfl) dX6_readTest_172 hφ hφ2 h
        · refine nw_aload_n C dX6_readTest_116 rfl 1 rfl ?_
          refine nw_iload_n C dX6_readTest_117 rfl 2 rfl ?_
          refine nc_callVI (q0 := 4) (As := [.int p0]) (rest := []) C h (fun _ _ e => hrc3 e hφ2) tw_1201 kv_X6_readSum cl_Reader rfl ⟨by omega, by omega⟩ rfl dX6_readTest_118 rfl (Nat.le_of_ble_eq_true rfl) hφ hφ2 (fun r118 σ118 ta h hφ hφ2 => ?_)
          refine nw_if_eq (tgt := 138) C dX6_readTest_121 (by decide) h (fun _ h => ?_) (fun _ h => ?_)
          · refine nw_iconst (v := 0) C dX6_readTest_138 (by decide) ?_
            exact nc_zret C hr (Or.inl rfl) dX6_readTest_139 hφ hφ2 h
          · refine nw_aload_n C dX6_readTest_124 rfl 1 rfl ?_
            refine nw_sipush (v := 10013) C dX6_readTest_125 (by decide) ?_
            refine nc_callVI (q0 := 4) (As := [.int 10013]) (rest := []) C h (fun _ _ e => c_Reader_emit e hφ2) tw_1185 kv_X6_emit cl_Reader rfl ⟨by omega, by omega⟩ rfl dX6_readTest_128 rfl (Nat.le_of_ble_eq_true rfl) hφ hφ2 (fun r128 σ128 ta h hφ hφ2 => ?_)
            refine nw_if_eq (tgt := 138) C dX6_readTest_131 (by decide) h (fun _ h => ?_) (fun _ h => ?_)
            · refine nw_iconst (v := 0) C dX6_readTest_138 (by decide) ?_
              exact nc_zret C hr (Or.inl rfl) dX6_readTest_139 hφ hφ2 h
            · refine nw_iconst (v := 1) C dX6_readTest_134 (by decide) ?_
              refine nw_goto (tgt := 139) C dX6_readTest_135 (by decide) ?_
              exact nc_zret C hr (Or.inr rfl) dX6_readTest_139 hφ hφ2 h
    · refine nw_aload_n C dX6_readTest_63 rfl 1 rfl ?_
      refine nw_iload_n C dX6_readTest_64 rfl 2 rfl ?_
      refine nw_iload_n C dX6_readTest_65 rfl 0 rfl ?_
      refine nc_callVI (q0 := 4) (As := [.int p0, .int (σ1.1 56)]) (rest := []) C h (fun _ _ e => c_Reader_mayOpen e hφ2) tw_1181 kv_X6_mayOpen cl_Reader rfl ⟨by omega, by omega⟩ rfl dX6_readTest_66 rfl (Nat.le_of_ble_eq_true rfl) hφ hφ2 (fun r66 σ66 ta h hφ hφ2 => ?_)
      refine nw_if_eq (tgt := 95) C dX6_readTest_69 (by decide) h (fun _ h => ?_) (fun _ h => ?_)
      · refine nw_iconst (v := 0) C dX6_readTest_95 (by decide) ?_
        exact nc_zret C hr (Or.inl rfl) dX6_readTest_96 hφ hφ2 h
      · refine nw_aload_n C dX6_readTest_72 rfl 1 rfl ?_
        refine nw_iload_n C dX6_readTest_73 rfl 2 rfl ?_
        refine nw_iconst (v := 1) C dX6_readTest_74 (by decide) ?_
        refine nw_iadd C dX6_readTest_75 ?_
        refine nc_callVI (q0 := 4) (As := [.int (p0 + 1)]) (rest := []) C h (fun _ _ e => hrc0 e hφ2) tw_1168 kv_X6_readEither cl_Reader rfl ⟨by omega, by omega⟩ rfl dX6_readTest_76 rfl (Nat.le_of_ble_eq_true rfl) hφ hφ2 (fun r76 σ76 ta h hφ hφ2 => ?_)
        refine nw_if_eq (tgt := 95) C dX6_readTest_79 (by decide) h (fun _ h => ?_) (fun _ h => ?_)
        · refine nw_iconst (v := 0) C dX6_readTest_95 (by decide) ?_
          exact nc_zret C hr (Or.inl rfl) dX6_readTest_96 hφ hφ2 h
        · refine nw_aload_n C dX6_readTest_82 rfl 1 rfl ?_
          refine nw_bipush (v := 93) C dX6_readTest_83 (by decide) ?_
          refine nc_callVI (q0 := 4) (As := [.int 93]) (rest := []) C h (fun _ _ e => c_Reader_needSign e hφ2) tw_1197 kv_X6_needSign cl_Reader rfl ⟨by omega, by omega⟩ rfl dX6_readTest_85 rfl (Nat.le_of_ble_eq_true rfl) hφ hφ2 (fun r85 σ85 ta h hφ hφ2 => ?_)
          refine nw_if_eq (tgt := 95) C dX6_readTest_88 (by decide) h (fun _ h => ?_) (fun _ h => ?_)
          · refine nw_iconst (v := 0) C dX6_readTest_95 (by decide) ?_
            exact nc_zret C hr (Or.inl rfl) dX6_readTest_96 hφ hφ2 h
          · refine nw_iconst (v := 1) C dX6_readTest_91 (by decide) ?_
            refine nw_goto (tgt := 96) C dX6_readTest_92 (by decide) ?_
            exact nc_zret C hr (Or.inr rfl) dX6_readTest_96 hφ hφ2 h
  · refine nw_aload_n C dX6_readTest_19 rfl 1 rfl ?_
    refine nw_iload_n C dX6_readTest_20 rfl 2 rfl ?_
    refine nw_iload_n C dX6_readTest_21 rfl 0 rfl ?_
    refine nc_callVI (q0 := 4) (As := [.int p0, .int (σ1.1 56)]) (rest := []) C h (fun _ _ e => c_Reader_mayOpen e hφ2) tw_1181 kv_X6_mayOpen cl_Reader rfl ⟨by omega, by omega⟩ rfl dX6_readTest_22 rfl (Nat.le_of_ble_eq_true rfl) hφ hφ2 (fun r22 σ22 ta h hφ hφ2 => ?_)
    refine nw_if_eq (tgt := 52) C dX6_readTest_25 (by decide) h (fun _ h => ?_) (fun _ h => ?_)
    · refine nw_iconst (v := 0) C dX6_readTest_52 (by decide) ?_
      exact nc_zret C hr (Or.inl rfl) dX6_readTest_53 hφ hφ2 h
    · refine nw_aload_n C dX6_readTest_28 rfl 1 rfl ?_
      refine nw_iload_n C dX6_readTest_29 rfl 2 rfl ?_
      refine nw_iconst (v := 1) C dX6_readTest_30 (by decide) ?_
      refine nw_iadd C dX6_readTest_31 ?_
      refine nc_callVI (q0 := 4) (As := [.int (p0 + 1)]) (rest := []) C h (fun _ _ e => hrc2 e hφ2) tw_1176 kv_X6_readTest cl_Reader rfl ⟨by omega, by omega⟩ rfl dX6_readTest_32 rfl (Nat.le_of_ble_eq_true rfl) hφ hφ2 (fun r32 σ32 ta h hφ hφ2 => ?_)
      refine nw_if_eq (tgt := 52) C dX6_readTest_35 (by decide) h (fun _ h => ?_) (fun _ h => ?_)
      · refine nw_iconst (v := 0) C dX6_readTest_52 (by decide) ?_
        exact nc_zret C hr (Or.inl rfl) dX6_readTest_53 hφ hφ2 h
      · refine nw_aload_n C dX6_readTest_38 rfl 1 rfl ?_
        refine nw_sipush (v := 10010) C dX6_readTest_39 (by decide) ?_
        refine nc_callVI (q0 := 4) (As := [.int 10010]) (rest := []) C h (fun _ _ e => c_Reader_emit e hφ2) tw_1185 kv_X6_emit cl_Reader rfl ⟨by omega, by omega⟩ rfl dX6_readTest_42 rfl (Nat.le_of_ble_eq_true rfl) hφ hφ2 (fun r42 σ42 ta h hφ hφ2 => ?_)
        refine nw_if_eq (tgt := 52) C dX6_readTest_45 (by decide) h (fun _ h => ?_) (fun _ h => ?_)
        · refine nw_iconst (v := 0) C dX6_readTest_52 (by decide) ?_
          exact nc_zret C hr (Or.inl rfl) dX6_readTest_53 hφ hφ2 h
        · refine nw_iconst (v := 1) C dX6_readTest_48 (by decide) ?_
          refine nw_goto (tgt := 53) C dX6_readTest_49 (by decide) ?_
          exact nc_zret C hr (Or.inr rfl) dX6_readTest_53 hφ hφ2 h
theorem dX6_readBoth_0 : decode cX6_readBoth 0 = .ok (.aload_n 0, 1) := by decide +kernel
theorem dX6_readBoth_1 : decode cX6_readBoth 1 = .ok (.iload_n 1, 1) := by decide +kernel
theorem dX6_readBoth_2 : decode cX6_readBoth 2 = .ok (.invokevirtual 103, 3) := by decide +kernel
theorem dX6_readBoth_5 : decode cX6_readBoth 5 = .ok (.istore_n 2, 1) := by decide +kernel
theorem dX6_readBoth_6 : decode cX6_readBoth 6 = .ok (.iconst 0, 1) := by decide +kernel
theorem dX6_readBoth_7 : decode cX6_readBoth 7 = .ok (.istore_n 3, 1) := by decide +kernel
theorem dX6_readBoth_8 : decode cX6_readBoth 8 = .ok (.iload_n 3, 1) := by decide +kernel
theorem dX6_readBoth_9 : decode cX6_readBoth 9 = .ok (.sipush 400, 3) := by decide +kernel
theorem dX6_readBoth_12 : decode cX6_readBoth 12 = .ok (.if_icmp .ge 47, 3) := by decide +kernel
theorem dX6_readBoth_15 : decode cX6_readBoth 15 = .ok (.iload_n 2, 1) := by decide +kernel
theorem dX6_readBoth_16 : decode cX6_readBoth 16 = .ok (.ifCond .eq 43, 3) := by decide +kernel
theorem dX6_readBoth_19 : decode cX6_readBoth 19 = .ok (.aload_n 0, 1) := by decide +kernel
theorem dX6_readBoth_20 : decode cX6_readBoth 20 = .ok (.ldc 106, 2) := by decide +kernel
theorem dX6_readBoth_22 : decode cX6_readBoth 22 = .ok (.invokevirtual 48, 3) := by decide +kernel
theorem dX6_readBoth_25 : decode cX6_readBoth 25 = .ok (.iconst (-1), 1) := by decide +kernel
theorem dX6_readBoth_26 : decode cX6_readBoth 26 = .ok (.if_icmp .eq 33, 3) := by decide +kernel
theorem dX6_readBoth_29 : decode cX6_readBoth 29 = .ok (.aload_n 0, 1) := by decide +kernel
theorem dX6_readBoth_30 : decode cX6_readBoth 30 = .ok (.iload_n 1, 1) := by decide +kernel
theorem dX6_readBoth_31 : decode cX6_readBoth 31 = .ok (.invokevirtual 103, 3) := by decide +kernel
theorem dX6_readBoth_34 : decode cX6_readBoth 34 = .ok (.ifCond .eq 17, 3) := by decide +kernel
theorem dX6_readBoth_37 : decode cX6_readBoth 37 = .ok (.aload_n 0, 1) := by decide +kernel
theorem dX6_readBoth_38 : decode cX6_readBoth 38 = .ok (.sipush 10011, 3) := by decide +kernel
theorem dX6_readBoth_41 : decode cX6_readBoth 41 = .ok (.invokevirtual 100, 3) := by decide +kernel
theorem dX6_readBoth_44 : decode cX6_readBoth 44 = .ok (.ifCond .eq 7, 3) := by decide +kernel
theorem dX6_readBoth_47 : decode cX6_readBoth 47 = .ok (.iconst 1, 1) := by decide +kernel
theorem dX6_readBoth_48 : decode cX6_readBoth 48 = .ok (.goto 4, 3) := by decide +kernel
theorem dX6_readBoth_51 : decode cX6_readBoth 51 = .ok (.iconst 0, 1) := by decide +kernel
theorem dX6_readBoth_52 : decode cX6_readBoth 52 = .ok (.istore_n 2, 1) := by decide +kernel
theorem dX6_readBoth_53 : decode cX6_readBoth 53 = .ok (.iinc 3 1, 3) := by decide +kernel
theorem dX6_readBoth_56 : decode cX6_readBoth 56 = .ok (.goto (-48), 3) := by decide +kernel
theorem dX6_readBoth_59 : decode cX6_readBoth 59 = .ok (.iload_n 2, 1) := by decide +kernel
theorem dX6_readBoth_60 : decode cX6_readBoth 60 = .ok (.ireturn, 1) := by decide +kernel
def B_Reader_readBoth_51 (rc : Nat → Int32 → Int32 → CS → Option (Int32 × CS)) (k8 : Int32 → Int32 → CS → Option (Int32 × CS)) (x1 : Int32) (x3 : Int32) (σ : CS) : Option (Int32 × CS) := k8 0 (x3 + 1) σ
set_option maxHeartbeats 4000000 in
set_option maxRecDepth 100000 in
theorem w_Reader_readBoth_51 (C : Cx g p s m args meth c A 4 cX6_readBoth yX6_readBoth.cls) (hr : meth.sig.returnType = (some .boolean)) {d : Nat} {rc : Nat → Int32 → Int32 → CS → Option (Int32 × CS)} (hrc0 : ∀ {l : Launch} {g : EG} {ad ta : Nat → Nat} {Rr : va_W} {σ σ' : CS} {r : Int32} {a0 : Int32}, rc 0 a0 0 σ = some (r, σ') → ph σ.2.2 ≤ BB → CtI l g yX6_readEither (.code yX6_readEither cX6_readEither 4 (some .boolean)) (10 * d) (400 * d) ad ta Rr σ [.ref (ad 4), .int a0] r σ') (hrc1 : ∀ {l : Launch} {g : EG} {ad ta : Nat → Nat} {Rr : va_W} {σ σ' : CS} {r : Int32} {a0 : Int32}, rc 1 a0 0 σ = some (r, σ') → ph σ.2.2 ≤ BB → CtI l g yX6_readBoth (.code yX6_readBoth cX6_readBoth 4 (some .boolean)) (10 * d) (400 * d) ad ta Rr σ [.ref (ad 4), .int a0] r σ') (hrc2 : ∀ {l : Launch} {g : EG} {ad ta : Nat → Nat} {Rr : va_W} {σ σ' : CS} {r : Int32} {a0 : Int32}, rc 2 a0 0 σ = some (r, σ') → ph σ.2.2 ≤ BB → CtI l g yX6_readTest (.code yX6_readTest cX6_readTest 3 (some .boolean)) (10 * d) (400 * d) ad ta Rr σ [.ref (ad 4), .int a0] r σ') (hrc3 : ∀ {l : Launch} {g : EG} {ad ta : Nat → Nat} {Rr : va_W} {σ σ' : CS} {r : Int32} {a0 : Int32}, rc 3 a0 0 σ = some (r, σ') → ph σ.2.2 ≤ BB → CtI l g yX6_readSum (.code yX6_readSum cX6_readSum 4 (some .boolean)) (10 * d) (400 * d) ad ta Rr σ [.ref (ad 4), .int a0] r σ') (hrc4 : ∀ {l : Launch} {g : EG} {ad ta : Nat → Nat} {Rr : va_W} {σ σ' : CS} {r : Int32} {a0 : Int32}, rc 4 a0 0 σ = some (r, σ') → ph σ.2.2 ≤ BB → CtI l g yX6_readProduct (.code yX6_readProduct cX6_readProduct 4 (some .boolean)) (10 * d) (400 * d) ad ta Rr σ [.ref (ad 4), .int a0] r σ') (hrc5 : ∀ {l : Launch} {g : EG} {ad ta : Nat → Nat} {Rr : va_W} {σ σ' : CS} {r : Int32} {a0 : Int32}, rc 5 a0 0 σ = some (r, σ') → ph σ.2.2 ≤ BB → CtI l g yX6_readValue (.code yX6_readValue cX6_readValue 5 (some .boolean)) (10 * d) (400 * d) ad ta Rr σ [.ref (ad 4), .int a0] r σ') (hrc6 : ∀ {l : Launch} {g : EG} {ad ta : Nat → Nat} {Rr : va_W} {σ σ' : CS} {r : Int32} {a0 a1 : Int32}, rc 6 a0 a1 σ = some (r, σ') → ph σ.2.2 ≤ BB → CtI l g yX6_readPick (.code yX6_readPick cX6_readPick 4 (some .boolean)) (10 * d) (400 * d) ad ta Rr σ [.ref (ad 4), .int a0, .int a1] r σ')  {res : Int32 × CS}  (x1 : Int32) (x3 : Int32) {k8 : Int32 → Int32 → CS → Option (Int32 × CS)} (hk8 : ∀ (x2 : Int32) (x3 : Int32) (σ : CS) (ta : Nat → Nat), φ0 ≤ ph σ.2.2 → ph σ.2.2 ≤ BB → k8 x2 x3 σ = some res → NI g p l e s m args below meth c A (10 * d + 10) (400 * d + 400) 4 ad Rr φ0 res ta σ [(0, .ref (ad 4)), (1, .int x1), (2, .int x2), (3, .int x3)] 8 []) (σ : CS) (ta : Nat → Nat) (hφ : φ0 ≤ ph σ.2.2) (hφ2 : ph σ.2.2 ≤ BB) (h : B_Reader_readBoth_51 rc k8 x1 x3 σ = some res) : NI g p l e s m args below meth c A (10 * d + 10) (400 * d + 400) 4 ad Rr φ0 res ta σ [(0, .ref (ad 4)), (1, .int x1), (3, .int x3)] 51 [] := by
  unfold B_Reader_readBoth_51 at h
  refine nw_iconst (v := 0) C dX6_readBoth_51 (by decide) ?_
  refine nw_istore_n (lv' := [(2, .int 0), (0, .ref (ad 4)), (1, .int x1), (3, .int x3)]) C dX6_readBoth_52 rfl (by decide) rfl ?_
  refine nw_iinc (lv' := [(3, .int (x3 + 1)), (2, .int 0), (0, .ref (ad 4)), (1, .int x1)]) C (x3 + 1) dX6_readBoth_53 3 rfl rfl (by decide) rfl ?_
  refine nw_goto (tgt := 8) C dX6_readBoth_56 (by decide) ?_
  exact nw_lv (lv' := [(0, .ref (ad 4)), (1, .int x1), (2, .int 0), (3, .int (x3 + 1))]) [2, 3, 1, 0] rfl (hk8 0 (x3 + 1) _ _ hφ hφ2 h)
def L_Reader_readBoth_8 (rc : Nat → Int32 → Int32 → CS → Option (Int32 × CS))  (x1 : Int32) : Nat → Int32 → Int32 → CS → Option (Int32 × CS)
  | 0, _, _, _ => none
  | n + 1, x2, x3, σ => if 400 ≤ x3 then grd (x2 = 0 ∨ x2 = 1) (some (x2, σ)) else if x2 = 0 then grd (x2 = 0 ∨ x2 = 1) (some (x2, σ)) else bnd (f_Reader_takeWord 9 σ) (fun r22 σ22 => if r22 = (-1) then grd (x2 = 0 ∨ x2 = 1) (some (x2, σ22)) else bnd (rc 2 x1 0 σ22) (fun r31 σ31 => if r31 = 0 then B_Reader_readBoth_51 rc (L_Reader_readBoth_8 rc x1 n) x1 x3 σ31 else bnd (f_Reader_emit 10011 σ31) (fun r41 σ41 => if r41 = 0 then B_Reader_readBoth_51 rc (L_Reader_readBoth_8 rc x1 n) x1 x3 σ41 else (L_Reader_readBoth_8 rc x1 n) 1 (x3 + 1) σ41)))
set_option maxHeartbeats 4000000 in
set_option maxRecDepth 100000 in
theorem w_Reader_readBoth_8 (C : Cx g p s m args meth c A 4 cX6_readBoth yX6_readBoth.cls) (hr : meth.sig.returnType = (some .boolean)) {d : Nat} {rc : Nat → Int32 → Int32 → CS → Option (Int32 × CS)} (hrc0 : ∀ {l : Launch} {g : EG} {ad ta : Nat → Nat} {Rr : va_W} {σ σ' : CS} {r : Int32} {a0 : Int32}, rc 0 a0 0 σ = some (r, σ') → ph σ.2.2 ≤ BB → CtI l g yX6_readEither (.code yX6_readEither cX6_readEither 4 (some .boolean)) (10 * d) (400 * d) ad ta Rr σ [.ref (ad 4), .int a0] r σ') (hrc1 : ∀ {l : Launch} {g : EG} {ad ta : Nat → Nat} {Rr : va_W} {σ σ' : CS} {r : Int32} {a0 : Int32}, rc 1 a0 0 σ = some (r, σ') → ph σ.2.2 ≤ BB → CtI l g yX6_readBoth (.code yX6_readBoth cX6_readBoth 4 (some .boolean)) (10 * d) (400 * d) ad ta Rr σ [.ref (ad 4), .int a0] r σ') (hrc2 : ∀ {l : Launch} {g : EG} {ad ta : Nat → Nat} {Rr : va_W} {σ σ' : CS} {r : Int32} {a0 : Int32}, rc 2 a0 0 σ = some (r, σ') → ph σ.2.2 ≤ BB → CtI l g yX6_readTest (.code yX6_readTest cX6_readTest 3 (some .boolean)) (10 * d) (400 * d) ad ta Rr σ [.ref (ad 4), .int a0] r σ') (hrc3 : ∀ {l : Launch} {g : EG} {ad ta : Nat → Nat} {Rr : va_W} {σ σ' : CS} {r : Int32} {a0 : Int32}, rc 3 a0 0 σ = some (r, σ') → ph σ.2.2 ≤ BB → CtI l g yX6_readSum (.code yX6_readSum cX6_readSum 4 (some .boolean)) (10 * d) (400 * d) ad ta Rr σ [.ref (ad 4), .int a0] r σ') (hrc4 : ∀ {l : Launch} {g : EG} {ad ta : Nat → Nat} {Rr : va_W} {σ σ' : CS} {r : Int32} {a0 : Int32}, rc 4 a0 0 σ = some (r, σ') → ph σ.2.2 ≤ BB → CtI l g yX6_readProduct (.code yX6_readProduct cX6_readProduct 4 (some .boolean)) (10 * d) (400 * d) ad ta Rr σ [.ref (ad 4), .int a0] r σ') (hrc5 : ∀ {l : Launch} {g : EG} {ad ta : Nat → Nat} {Rr : va_W} {σ σ' : CS} {r : Int32} {a0 : Int32}, rc 5 a0 0 σ = some (r, σ') → ph σ.2.2 ≤ BB → CtI l g yX6_readValue (.code yX6_readValue cX6_readValue 5 (some .boolean)) (10 * d) (400 * d) ad ta Rr σ [.ref (ad 4), .int a0] r σ') (hrc6 : ∀ {l : Launch} {g : EG} {ad ta : Nat → Nat} {Rr : va_W} {σ σ' : CS} {r : Int32} {a0 a1 : Int32}, rc 6 a0 a1 σ = some (r, σ') → ph σ.2.2 ≤ BB → CtI l g yX6_readPick (.code yX6_readPick cX6_readPick 4 (some .boolean)) (10 * d) (400 * d) ad ta Rr σ [.ref (ad 4), .int a0, .int a1] r σ')  {res : Int32 × CS}  (x1 : Int32)  : ∀ (n : Nat) (x2 : Int32) (x3 : Int32) (σ : CS) (ta : Nat → Nat), φ0 ≤ ph σ.2.2 → ph σ.2.2 ≤ BB → L_Reader_readBoth_8 rc x1 n x2 x3 σ = some res → NI g p l e s m args below meth c A (10 * d + 10) (400 * d + 400) 4 ad Rr φ0 res ta σ [(0, .ref (ad 4)), (1, .int x1), (2, .int x2), (3, .int x3)] 8 [] := by
  intro n
  induction n with
  | zero =>
    intro x2 x3 σ ta hφ hφ2 h
    exact absurd (show (none : Option (Int32 × CS)) = some res from h) (by intro h9; cases h9)
  | succ n ih =>
    intro x2 x3 σ ta hφ hφ2 h
    rw [L_Reader_readBoth_8] at h
    refine nw_iload_n C dX6_readBoth_8 rfl 3 rfl ?_
    refine nw_sipush (v := 400) C dX6_readBoth_9 (by decide) ?_
    refine nw_icmp_ge (tgt := 59) C dX6_readBoth_12 (by decide) h (fun _ h => ?_) (fun _ h => ?_)
    · refine nw_iload_n C dX6_readBoth_59 rfl 2 rfl ?_
      exact nc_zretg C hr dX6_readBoth_60 hφ hφ2 h
    · refine nw_iload_n C dX6_readBoth_15 rfl 2 rfl ?_
      refine nw_if_eq (tgt := 59) C dX6_readBoth_16 (by decide) h (fun _ h => ?_) (fun _ h => ?_)
      · refine nw_iload_n C dX6_readBoth_59 rfl 2 rfl ?_
        exact nc_zretg C hr dX6_readBoth_60 hφ hφ2 h
      · refine nw_aload_n C dX6_readBoth_19 rfl 0 rfl ?_
        refine nw_lds (i := 9) C (by decide) rfl rfl dX6_readBoth_20 ?_
        refine nc_callVI (q0 := 4) (As := [.ref (gK g 9)]) (rest := []) C h (fun _ _ e => c_Reader_takeWord 9 (by decide) e hφ2) tw_1096 kv_X6_takeWord cl_Reader rfl ⟨by omega, by omega⟩ rfl dX6_readBoth_22 rfl (Nat.le_of_ble_eq_true rfl) hφ hφ2 (fun r22 σ22 ta h hφ hφ2 => ?_)
        refine nw_iconst (v := (-1)) C dX6_readBoth_25 (by decide) ?_
        refine nw_icmp_eq (tgt := 59) C dX6_readBoth_26 (by decide) h (fun _ h => ?_) (fun _ h => ?_)
        · refine nw_iload_n C dX6_readBoth_59 rfl 2 rfl ?_
          exact nc_zretg C hr dX6_readBoth_60 hφ hφ2 h
        · refine nw_aload_n C dX6_readBoth_29 rfl 0 rfl ?_
          refine nw_iload_n C dX6_readBoth_30 rfl 1 rfl ?_
          refine nc_callVI (q0 := 4) (As := [.int x1]) (rest := []) C h (fun _ _ e => hrc2 e hφ2) tw_1176 kv_X6_readTest cl_Reader rfl ⟨by omega, by omega⟩ rfl dX6_readBoth_31 rfl (Nat.le_of_ble_eq_true rfl) hφ hφ2 (fun r31 σ31 ta h hφ hφ2 => ?_)
          refine nw_if_eq (tgt := 51) C dX6_readBoth_34 (by decide) h (fun _ h => ?_) (fun _ h => ?_)
          · exact nw_lv (lv' := [(0, .ref (ad 4)), (1, .int x1), (3, .int x3)]) [0, 1, 3] rfl (w_Reader_readBoth_51 C hr hrc0 hrc1 hrc2 hrc3 hrc4 hrc5 hrc6 x1 x3 ih _ _ hφ hφ2 h)
          · refine nw_aload_n C dX6_readBoth_37 rfl 0 rfl ?_
            refine nw_sipush (v := 10011) C dX6_readBoth_38 (by decide) ?_
            refine nc_callVI (q0 := 4) (As := [.int 10011]) (rest := []) C h (fun _ _ e => c_Reader_emit e hφ2) tw_1185 kv_X6_emit cl_Reader rfl ⟨by omega, by omega⟩ rfl dX6_readBoth_41 rfl (Nat.le_of_ble_eq_true rfl) hφ hφ2 (fun r41 σ41 ta h hφ hφ2 => ?_)
            refine nw_if_eq (tgt := 51) C dX6_readBoth_44 (by decide) h (fun _ h => ?_) (fun _ h => ?_)
            · exact nw_lv (lv' := [(0, .ref (ad 4)), (1, .int x1), (3, .int x3)]) [0, 1, 3] rfl (w_Reader_readBoth_51 C hr hrc0 hrc1 hrc2 hrc3 hrc4 hrc5 hrc6 x1 x3 ih _ _ hφ hφ2 h)
            · refine nw_iconst (v := 1) C dX6_readBoth_47 (by decide) ?_
              refine nw_goto (tgt := 52) C dX6_readBoth_48 (by decide) ?_
              refine nw_istore_n (lv' := [(2, .int 1), (0, .ref (ad 4)), (1, .int x1), (3, .int x3)]) C dX6_readBoth_52 rfl (by decide) rfl ?_
              refine nw_iinc (lv' := [(3, .int (x3 + 1)), (2, .int 1), (0, .ref (ad 4)), (1, .int x1)]) C (x3 + 1) dX6_readBoth_53 3 rfl rfl (by decide) rfl ?_
              refine nw_goto (tgt := 8) C dX6_readBoth_56 (by decide) ?_
              exact nw_lv (lv' := [(0, .ref (ad 4)), (1, .int x1), (2, .int 1), (3, .int (x3 + 1))]) [2, 3, 1, 0] rfl (ih 1 (x3 + 1) _ _ hφ hφ2 h)
def f_Reader_readBoth (rc : Nat → Int32 → Int32 → CS → Option (Int32 × CS)) (p0 : Int32) (σ : CS) : Option (Int32 × CS) := bnd (rc 2 p0 0 σ) (fun r2 σ2 => L_Reader_readBoth_8 rc p0 FU r2 0 σ2)
set_option maxHeartbeats 4000000 in
set_option maxRecDepth 100000 in
theorem c_Reader_readBoth {l : Launch} {g : EG} {ad ta : Nat → Nat} {Rr : va_W} {σ σ' : CS} {r : Int32} {p0 : Int32} {d : Nat} {rc : Nat → Int32 → Int32 → CS → Option (Int32 × CS)} (hrc0 : ∀ {l : Launch} {g : EG} {ad ta : Nat → Nat} {Rr : va_W} {σ σ' : CS} {r : Int32} {a0 : Int32}, rc 0 a0 0 σ = some (r, σ') → ph σ.2.2 ≤ BB → CtI l g yX6_readEither (.code yX6_readEither cX6_readEither 4 (some .boolean)) (10 * d) (400 * d) ad ta Rr σ [.ref (ad 4), .int a0] r σ') (hrc1 : ∀ {l : Launch} {g : EG} {ad ta : Nat → Nat} {Rr : va_W} {σ σ' : CS} {r : Int32} {a0 : Int32}, rc 1 a0 0 σ = some (r, σ') → ph σ.2.2 ≤ BB → CtI l g yX6_readBoth (.code yX6_readBoth cX6_readBoth 4 (some .boolean)) (10 * d) (400 * d) ad ta Rr σ [.ref (ad 4), .int a0] r σ') (hrc2 : ∀ {l : Launch} {g : EG} {ad ta : Nat → Nat} {Rr : va_W} {σ σ' : CS} {r : Int32} {a0 : Int32}, rc 2 a0 0 σ = some (r, σ') → ph σ.2.2 ≤ BB → CtI l g yX6_readTest (.code yX6_readTest cX6_readTest 3 (some .boolean)) (10 * d) (400 * d) ad ta Rr σ [.ref (ad 4), .int a0] r σ') (hrc3 : ∀ {l : Launch} {g : EG} {ad ta : Nat → Nat} {Rr : va_W} {σ σ' : CS} {r : Int32} {a0 : Int32}, rc 3 a0 0 σ = some (r, σ') → ph σ.2.2 ≤ BB → CtI l g yX6_readSum (.code yX6_readSum cX6_readSum 4 (some .boolean)) (10 * d) (400 * d) ad ta Rr σ [.ref (ad 4), .int a0] r σ') (hrc4 : ∀ {l : Launch} {g : EG} {ad ta : Nat → Nat} {Rr : va_W} {σ σ' : CS} {r : Int32} {a0 : Int32}, rc 4 a0 0 σ = some (r, σ') → ph σ.2.2 ≤ BB → CtI l g yX6_readProduct (.code yX6_readProduct cX6_readProduct 4 (some .boolean)) (10 * d) (400 * d) ad ta Rr σ [.ref (ad 4), .int a0] r σ') (hrc5 : ∀ {l : Launch} {g : EG} {ad ta : Nat → Nat} {Rr : va_W} {σ σ' : CS} {r : Int32} {a0 : Int32}, rc 5 a0 0 σ = some (r, σ') → ph σ.2.2 ≤ BB → CtI l g yX6_readValue (.code yX6_readValue cX6_readValue 5 (some .boolean)) (10 * d) (400 * d) ad ta Rr σ [.ref (ad 4), .int a0] r σ') (hrc6 : ∀ {l : Launch} {g : EG} {ad ta : Nat → Nat} {Rr : va_W} {σ σ' : CS} {r : Int32} {a0 a1 : Int32}, rc 6 a0 a1 σ = some (r, σ') → ph σ.2.2 ≤ BB → CtI l g yX6_readPick (.code yX6_readPick cX6_readPick 4 (some .boolean)) (10 * d) (400 * d) ad ta Rr σ [.ref (ad 4), .int a0, .int a1] r σ')  (h : f_Reader_readBoth rc p0 σ = some (r, σ')) (hφ2 : ph σ.2.2 ≤ BB) : CtI l g yX6_readBoth (.code yX6_readBoth cX6_readBoth 4 (some .boolean)) (10 * d + 10) (400 * d + 400) ad ta Rr σ [.ref (ad 4), .int p0] r σ' := by
  refine Ct.of rfl (by decide) (Nat.le_of_ble_eq_true rfl) ?_
  intro p e s m args below meth c A C hr
  have hφ : ph σ.2.2 ≤ ph σ.2.2 := Nat.le_refl _
  refine nw_zero (ph σ.2.2) ?_
  show NI g p l e s m args below meth c A (10 * d + 10) (400 * d + 400) 4 ad Rr (ph σ.2.2) (r, σ') ta σ [(0, .ref (ad 4)), (1, .int p0)] 0 []
  unfold f_Reader_readBoth at h
  refine nw_aload_n C dX6_readBoth_0 rfl 0 rfl ?_
  refine nw_iload_n C dX6_readBoth_1 rfl 1 rfl ?_
  refine nc_callVI (q0 := 4) (As := [.int p0]) (rest := []) C h (fun _ _ e => hrc2 e hφ2) tw_1176 kv_X6_readTest cl_Reader rfl ⟨by omega, by omega⟩ rfl dX6_readBoth_2 rfl (Nat.le_of_ble_eq_true rfl) hφ hφ2 (fun r2 σ2 ta h hφ hφ2 => ?_)
  refine nw_istore_n (lv' := [(2, .int r2), (0, .ref (ad 4)), (1, .int p0)]) C dX6_readBoth_5 rfl (by decide) rfl ?_
  refine nw_iconst (v := 0) C dX6_readBoth_6 (by decide) ?_
  refine nw_istore_n (lv' := [(3, .int 0), (2, .int r2), (0, .ref (ad 4)), (1, .int p0)]) C dX6_readBoth_7 rfl (by decide) rfl ?_
  exact nw_lv (lv' := [(0, .ref (ad 4)), (1, .int p0), (2, .int r2), (3, .int 0)]) [2, 3, 1, 0] rfl (w_Reader_readBoth_8 C hr hrc0 hrc1 hrc2 hrc3 hrc4 hrc5 hrc6 p0 FU r2 0 _ _ hφ hφ2 h)
theorem dX6_readEither_0 : decode cX6_readEither 0 = .ok (.aload_n 0, 1) := by decide +kernel
theorem dX6_readEither_1 : decode cX6_readEither 1 = .ok (.iload_n 1, 1) := by decide +kernel
theorem dX6_readEither_2 : decode cX6_readEither 2 = .ok (.invokevirtual 95, 3) := by decide +kernel
theorem dX6_readEither_5 : decode cX6_readEither 5 = .ok (.istore_n 2, 1) := by decide +kernel
theorem dX6_readEither_6 : decode cX6_readEither 6 = .ok (.iconst 0, 1) := by decide +kernel
theorem dX6_readEither_7 : decode cX6_readEither 7 = .ok (.istore_n 3, 1) := by decide +kernel
theorem dX6_readEither_8 : decode cX6_readEither 8 = .ok (.iload_n 3, 1) := by decide +kernel
theorem dX6_readEither_9 : decode cX6_readEither 9 = .ok (.sipush 400, 3) := by decide +kernel
theorem dX6_readEither_12 : decode cX6_readEither 12 = .ok (.if_icmp .ge 47, 3) := by decide +kernel
theorem dX6_readEither_15 : decode cX6_readEither 15 = .ok (.iload_n 2, 1) := by decide +kernel
theorem dX6_readEither_16 : decode cX6_readEither 16 = .ok (.ifCond .eq 43, 3) := by decide +kernel
theorem dX6_readEither_19 : decode cX6_readEither 19 = .ok (.aload_n 0, 1) := by decide +kernel
theorem dX6_readEither_20 : decode cX6_readEither 20 = .ok (.ldc 98, 2) := by decide +kernel
theorem dX6_readEither_22 : decode cX6_readEither 22 = .ok (.invokevirtual 48, 3) := by decide +kernel
theorem dX6_readEither_25 : decode cX6_readEither 25 = .ok (.iconst (-1), 1) := by decide +kernel
theorem dX6_readEither_26 : decode cX6_readEither 26 = .ok (.if_icmp .eq 33, 3) := by decide +kernel
theorem dX6_readEither_29 : decode cX6_readEither 29 = .ok (.aload_n 0, 1) := by decide +kernel
theorem dX6_readEither_30 : decode cX6_readEither 30 = .ok (.iload_n 1, 1) := by decide +kernel
theorem dX6_readEither_31 : decode cX6_readEither 31 = .ok (.invokevirtual 95, 3) := by decide +kernel
theorem dX6_readEither_34 : decode cX6_readEither 34 = .ok (.ifCond .eq 17, 3) := by decide +kernel
theorem dX6_readEither_37 : decode cX6_readEither 37 = .ok (.aload_n 0, 1) := by decide +kernel
theorem dX6_readEither_38 : decode cX6_readEither 38 = .ok (.sipush 10012, 3) := by decide +kernel
theorem dX6_readEither_41 : decode cX6_readEither 41 = .ok (.invokevirtual 100, 3) := by decide +kernel
theorem dX6_readEither_44 : decode cX6_readEither 44 = .ok (.ifCond .eq 7, 3) := by decide +kernel
theorem dX6_readEither_47 : decode cX6_readEither 47 = .ok (.iconst 1, 1) := by decide +kernel
theorem dX6_readEither_48 : decode cX6_readEither 48 = .ok (.goto 4, 3) := by decide +kernel
theorem dX6_readEither_51 : decode cX6_readEither 51 = .ok (.iconst 0, 1) := by decide +kernel
theorem dX6_readEither_52 : decode cX6_readEither 52 = .ok (.istore_n 2, 1) := by decide +kernel
theorem dX6_readEither_53 : decode cX6_readEither 53 = .ok (.iinc 3 1, 3) := by decide +kernel
theorem dX6_readEither_56 : decode cX6_readEither 56 = .ok (.goto (-48), 3) := by decide +kernel
theorem dX6_readEither_59 : decode cX6_readEither 59 = .ok (.iload_n 2, 1) := by decide +kernel
theorem dX6_readEither_60 : decode cX6_readEither 60 = .ok (.ireturn, 1) := by decide +kernel
def B_Reader_readEither_51 (rc : Nat → Int32 → Int32 → CS → Option (Int32 × CS)) (k8 : Int32 → Int32 → CS → Option (Int32 × CS)) (x1 : Int32) (x3 : Int32) (σ : CS) : Option (Int32 × CS) := k8 0 (x3 + 1) σ
set_option maxHeartbeats 4000000 in
set_option maxRecDepth 100000 in
theorem w_Reader_readEither_51 (C : Cx g p s m args meth c A 4 cX6_readEither yX6_readEither.cls) (hr : meth.sig.returnType = (some .boolean)) {d : Nat} {rc : Nat → Int32 → Int32 → CS → Option (Int32 × CS)} (hrc0 : ∀ {l : Launch} {g : EG} {ad ta : Nat → Nat} {Rr : va_W} {σ σ' : CS} {r : Int32} {a0 : Int32}, rc 0 a0 0 σ = some (r, σ') → ph σ.2.2 ≤ BB → CtI l g yX6_readEither (.code yX6_readEither cX6_readEither 4 (some .boolean)) (10 * d) (400 * d) ad ta Rr σ [.ref (ad 4), .int a0] r σ') (hrc1 : ∀ {l : Launch} {g : EG} {ad ta : Nat → Nat} {Rr : va_W} {σ σ' : CS} {r : Int32} {a0 : Int32}, rc 1 a0 0 σ = some (r, σ') → ph σ.2.2 ≤ BB → CtI l g yX6_readBoth (.code yX6_readBoth cX6_readBoth 4 (some .boolean)) (10 * d) (400 * d) ad ta Rr σ [.ref (ad 4), .int a0] r σ') (hrc2 : ∀ {l : Launch} {g : EG} {ad ta : Nat → Nat} {Rr : va_W} {σ σ' : CS} {r : Int32} {a0 : Int32}, rc 2 a0 0 σ = some (r, σ') → ph σ.2.2 ≤ BB → CtI l g yX6_readTest (.code yX6_readTest cX6_readTest 3 (some .boolean)) (10 * d) (400 * d) ad ta Rr σ [.ref (ad 4), .int a0] r σ') (hrc3 : ∀ {l : Launch} {g : EG} {ad ta : Nat → Nat} {Rr : va_W} {σ σ' : CS} {r : Int32} {a0 : Int32}, rc 3 a0 0 σ = some (r, σ') → ph σ.2.2 ≤ BB → CtI l g yX6_readSum (.code yX6_readSum cX6_readSum 4 (some .boolean)) (10 * d) (400 * d) ad ta Rr σ [.ref (ad 4), .int a0] r σ') (hrc4 : ∀ {l : Launch} {g : EG} {ad ta : Nat → Nat} {Rr : va_W} {σ σ' : CS} {r : Int32} {a0 : Int32}, rc 4 a0 0 σ = some (r, σ') → ph σ.2.2 ≤ BB → CtI l g yX6_readProduct (.code yX6_readProduct cX6_readProduct 4 (some .boolean)) (10 * d) (400 * d) ad ta Rr σ [.ref (ad 4), .int a0] r σ') (hrc5 : ∀ {l : Launch} {g : EG} {ad ta : Nat → Nat} {Rr : va_W} {σ σ' : CS} {r : Int32} {a0 : Int32}, rc 5 a0 0 σ = some (r, σ') → ph σ.2.2 ≤ BB → CtI l g yX6_readValue (.code yX6_readValue cX6_readValue 5 (some .boolean)) (10 * d) (400 * d) ad ta Rr σ [.ref (ad 4), .int a0] r σ') (hrc6 : ∀ {l : Launch} {g : EG} {ad ta : Nat → Nat} {Rr : va_W} {σ σ' : CS} {r : Int32} {a0 a1 : Int32}, rc 6 a0 a1 σ = some (r, σ') → ph σ.2.2 ≤ BB → CtI l g yX6_readPick (.code yX6_readPick cX6_readPick 4 (some .boolean)) (10 * d) (400 * d) ad ta Rr σ [.ref (ad 4), .int a0, .int a1] r σ')  {res : Int32 × CS}  (x1 : Int32) (x3 : Int32) {k8 : Int32 → Int32 → CS → Option (Int32 × CS)} (hk8 : ∀ (x2 : Int32) (x3 : Int32) (σ : CS) (ta : Nat → Nat), φ0 ≤ ph σ.2.2 → ph σ.2.2 ≤ BB → k8 x2 x3 σ = some res → NI g p l e s m args below meth c A (10 * d + 10) (400 * d + 400) 4 ad Rr φ0 res ta σ [(0, .ref (ad 4)), (1, .int x1), (2, .int x2), (3, .int x3)] 8 []) (σ : CS) (ta : Nat → Nat) (hφ : φ0 ≤ ph σ.2.2) (hφ2 : ph σ.2.2 ≤ BB) (h : B_Reader_readEither_51 rc k8 x1 x3 σ = some res) : NI g p l e s m args below meth c A (10 * d + 10) (400 * d + 400) 4 ad Rr φ0 res ta σ [(0, .ref (ad 4)), (1, .int x1), (3, .int x3)] 51 [] := by
  unfold B_Reader_readEither_51 at h
  refine nw_iconst (v := 0) C dX6_readEither_51 (by decide) ?_
  refine nw_istore_n (lv' := [(2, .int 0), (0, .ref (ad 4)), (1, .int x1), (3, .int x3)]) C dX6_readEither_52 rfl (by decide) rfl ?_
  refine nw_iinc (lv' := [(3, .int (x3 + 1)), (2, .int 0), (0, .ref (ad 4)), (1, .int x1)]) C (x3 + 1) dX6_readEither_53 3 rfl rfl (by decide) rfl ?_
  refine nw_goto (tgt := 8) C dX6_readEither_56 (by decide) ?_
  exact nw_lv (lv' := [(0, .ref (ad 4)), (1, .int x1), (2, .int 0), (3, .int (x3 + 1))]) [2, 3, 1, 0] rfl (hk8 0 (x3 + 1) _ _ hφ hφ2 h)
def L_Reader_readEither_8 (rc : Nat → Int32 → Int32 → CS → Option (Int32 × CS))  (x1 : Int32) : Nat → Int32 → Int32 → CS → Option (Int32 × CS)
  | 0, _, _, _ => none
  | n + 1, x2, x3, σ => if 400 ≤ x3 then grd (x2 = 0 ∨ x2 = 1) (some (x2, σ)) else if x2 = 0 then grd (x2 = 0 ∨ x2 = 1) (some (x2, σ)) else bnd (f_Reader_takeWord 10 σ) (fun r22 σ22 => if r22 = (-1) then grd (x2 = 0 ∨ x2 = 1) (some (x2, σ22)) else bnd (rc 1 x1 0 σ22) (fun r31 σ31 => if r31 = 0 then B_Reader_readEither_51 rc (L_Reader_readEither_8 rc x1 n) x1 x3 σ31 else bnd (f_Reader_emit 10012 σ31) (fun r41 σ41 => if r41 = 0 then B_Reader_readEither_51 rc (L_Reader_readEither_8 rc x1 n) x1 x3 σ41 else (L_Reader_readEither_8 rc x1 n) 1 (x3 + 1) σ41)))
set_option maxHeartbeats 4000000 in
set_option maxRecDepth 100000 in
theorem w_Reader_readEither_8 (C : Cx g p s m args meth c A 4 cX6_readEither yX6_readEither.cls) (hr : meth.sig.returnType = (some .boolean)) {d : Nat} {rc : Nat → Int32 → Int32 → CS → Option (Int32 × CS)} (hrc0 : ∀ {l : Launch} {g : EG} {ad ta : Nat → Nat} {Rr : va_W} {σ σ' : CS} {r : Int32} {a0 : Int32}, rc 0 a0 0 σ = some (r, σ') → ph σ.2.2 ≤ BB → CtI l g yX6_readEither (.code yX6_readEither cX6_readEither 4 (some .boolean)) (10 * d) (400 * d) ad ta Rr σ [.ref (ad 4), .int a0] r σ') (hrc1 : ∀ {l : Launch} {g : EG} {ad ta : Nat → Nat} {Rr : va_W} {σ σ' : CS} {r : Int32} {a0 : Int32}, rc 1 a0 0 σ = some (r, σ') → ph σ.2.2 ≤ BB → CtI l g yX6_readBoth (.code yX6_readBoth cX6_readBoth 4 (some .boolean)) (10 * d) (400 * d) ad ta Rr σ [.ref (ad 4), .int a0] r σ') (hrc2 : ∀ {l : Launch} {g : EG} {ad ta : Nat → Nat} {Rr : va_W} {σ σ' : CS} {r : Int32} {a0 : Int32}, rc 2 a0 0 σ = some (r, σ') → ph σ.2.2 ≤ BB → CtI l g yX6_readTest (.code yX6_readTest cX6_readTest 3 (some .boolean)) (10 * d) (400 * d) ad ta Rr σ [.ref (ad 4), .int a0] r σ') (hrc3 : ∀ {l : Launch} {g : EG} {ad ta : Nat → Nat} {Rr : va_W} {σ σ' : CS} {r : Int32} {a0 : Int32}, rc 3 a0 0 σ = some (r, σ') → ph σ.2.2 ≤ BB → CtI l g yX6_readSum (.code yX6_readSum cX6_readSum 4 (some .boolean)) (10 * d) (400 * d) ad ta Rr σ [.ref (ad 4), .int a0] r σ') (hrc4 : ∀ {l : Launch} {g : EG} {ad ta : Nat → Nat} {Rr : va_W} {σ σ' : CS} {r : Int32} {a0 : Int32}, rc 4 a0 0 σ = some (r, σ') → ph σ.2.2 ≤ BB → CtI l g yX6_readProduct (.code yX6_readProduct cX6_readProduct 4 (some .boolean)) (10 * d) (400 * d) ad ta Rr σ [.ref (ad 4), .int a0] r σ') (hrc5 : ∀ {l : Launch} {g : EG} {ad ta : Nat → Nat} {Rr : va_W} {σ σ' : CS} {r : Int32} {a0 : Int32}, rc 5 a0 0 σ = some (r, σ') → ph σ.2.2 ≤ BB → CtI l g yX6_readValue (.code yX6_readValue cX6_readValue 5 (some .boolean)) (10 * d) (400 * d) ad ta Rr σ [.ref (ad 4), .int a0] r σ') (hrc6 : ∀ {l : Launch} {g : EG} {ad ta : Nat → Nat} {Rr : va_W} {σ σ' : CS} {r : Int32} {a0 a1 : Int32}, rc 6 a0 a1 σ = some (r, σ') → ph σ.2.2 ≤ BB → CtI l g yX6_readPick (.code yX6_readPick cX6_readPick 4 (some .boolean)) (10 * d) (400 * d) ad ta Rr σ [.ref (ad 4), .int a0, .int a1] r σ')  {res : Int32 × CS}  (x1 : Int32)  : ∀ (n : Nat) (x2 : Int32) (x3 : Int32) (σ : CS) (ta : Nat → Nat), φ0 ≤ ph σ.2.2 → ph σ.2.2 ≤ BB → L_Reader_readEither_8 rc x1 n x2 x3 σ = some res → NI g p l e s m args below meth c A (10 * d + 10) (400 * d + 400) 4 ad Rr φ0 res ta σ [(0, .ref (ad 4)), (1, .int x1), (2, .int x2), (3, .int x3)] 8 [] := by
  intro n
  induction n with
  | zero =>
    intro x2 x3 σ ta hφ hφ2 h
    exact absurd (show (none : Option (Int32 × CS)) = some res from h) (by intro h9; cases h9)
  | succ n ih =>
    intro x2 x3 σ ta hφ hφ2 h
    rw [L_Reader_readEither_8] at h
    refine nw_iload_n C dX6_readEither_8 rfl 3 rfl ?_
    refine nw_sipush (v := 400) C dX6_readEither_9 (by decide) ?_
    refine nw_icmp_ge (tgt := 59) C dX6_readEither_12 (by decide) h (fun _ h => ?_) (fun _ h => ?_)
    · refine nw_iload_n C dX6_readEither_59 rfl 2 rfl ?_
      exact nc_zretg C hr dX6_readEither_60 hφ hφ2 h
    · refine nw_iload_n C dX6_readEither_15 rfl 2 rfl ?_
      refine nw_if_eq (tgt := 59) C dX6_readEither_16 (by decide) h (fun _ h => ?_) (fun _ h => ?_)
      · refine nw_iload_n C dX6_readEither_59 rfl 2 rfl ?_
        exact nc_zretg C hr dX6_readEither_60 hφ hφ2 h
      · refine nw_aload_n C dX6_readEither_19 rfl 0 rfl ?_
        refine nw_lds (i := 10) C (by decide) rfl rfl dX6_readEither_20 ?_
        refine nc_callVI (q0 := 4) (As := [.ref (gK g 10)]) (rest := []) C h (fun _ _ e => c_Reader_takeWord 10 (by decide) e hφ2) tw_1096 kv_X6_takeWord cl_Reader rfl ⟨by omega, by omega⟩ rfl dX6_readEither_22 rfl (Nat.le_of_ble_eq_true rfl) hφ hφ2 (fun r22 σ22 ta h hφ hφ2 => ?_)
        refine nw_iconst (v := (-1)) C dX6_readEither_25 (by decide) ?_
        refine nw_icmp_eq (tgt := 59) C dX6_readEither_26 (by decide) h (fun _ h => ?_) (fun _ h => ?_)
        · refine nw_iload_n C dX6_readEither_59 rfl 2 rfl ?_
          exact nc_zretg C hr dX6_readEither_60 hφ hφ2 h
        · refine nw_aload_n C dX6_readEither_29 rfl 0 rfl ?_
          refine nw_iload_n C dX6_readEither_30 rfl 1 rfl ?_
          refine nc_callVI (q0 := 4) (As := [.int x1]) (rest := []) C h (fun _ _ e => hrc1 e hφ2) tw_1172 kv_X6_readBoth cl_Reader rfl ⟨by omega, by omega⟩ rfl dX6_readEither_31 rfl (Nat.le_of_ble_eq_true rfl) hφ hφ2 (fun r31 σ31 ta h hφ hφ2 => ?_)
          refine nw_if_eq (tgt := 51) C dX6_readEither_34 (by decide) h (fun _ h => ?_) (fun _ h => ?_)
          · exact nw_lv (lv' := [(0, .ref (ad 4)), (1, .int x1), (3, .int x3)]) [0, 1, 3] rfl (w_Reader_readEither_51 C hr hrc0 hrc1 hrc2 hrc3 hrc4 hrc5 hrc6 x1 x3 ih _ _ hφ hφ2 h)
          · refine nw_aload_n C dX6_readEither_37 rfl 0 rfl ?_
            refine nw_sipush (v := 10012) C dX6_readEither_38 (by decide) ?_
            refine nc_callVI (q0 := 4) (As := [.int 10012]) (rest := []) C h (fun _ _ e => c_Reader_emit e hφ2) tw_1185 kv_X6_emit cl_Reader rfl ⟨by omega, by omega⟩ rfl dX6_readEither_41 rfl (Nat.le_of_ble_eq_true rfl) hφ hφ2 (fun r41 σ41 ta h hφ hφ2 => ?_)
            refine nw_if_eq (tgt := 51) C dX6_readEither_44 (by decide) h (fun _ h => ?_) (fun _ h => ?_)
            · exact nw_lv (lv' := [(0, .ref (ad 4)), (1, .int x1), (3, .int x3)]) [0, 1, 3] rfl (w_Reader_readEither_51 C hr hrc0 hrc1 hrc2 hrc3 hrc4 hrc5 hrc6 x1 x3 ih _ _ hφ hφ2 h)
            · refine nw_iconst (v := 1) C dX6_readEither_47 (by decide) ?_
              refine nw_goto (tgt := 52) C dX6_readEither_48 (by decide) ?_
              refine nw_istore_n (lv' := [(2, .int 1), (0, .ref (ad 4)), (1, .int x1), (3, .int x3)]) C dX6_readEither_52 rfl (by decide) rfl ?_
              refine nw_iinc (lv' := [(3, .int (x3 + 1)), (2, .int 1), (0, .ref (ad 4)), (1, .int x1)]) C (x3 + 1) dX6_readEither_53 3 rfl rfl (by decide) rfl ?_
              refine nw_goto (tgt := 8) C dX6_readEither_56 (by decide) ?_
              exact nw_lv (lv' := [(0, .ref (ad 4)), (1, .int x1), (2, .int 1), (3, .int (x3 + 1))]) [2, 3, 1, 0] rfl (ih 1 (x3 + 1) _ _ hφ hφ2 h)
def f_Reader_readEither (rc : Nat → Int32 → Int32 → CS → Option (Int32 × CS)) (p0 : Int32) (σ : CS) : Option (Int32 × CS) := bnd (rc 1 p0 0 σ) (fun r2 σ2 => L_Reader_readEither_8 rc p0 FU r2 0 σ2)
set_option maxHeartbeats 4000000 in
set_option maxRecDepth 100000 in
theorem c_Reader_readEither {l : Launch} {g : EG} {ad ta : Nat → Nat} {Rr : va_W} {σ σ' : CS} {r : Int32} {p0 : Int32} {d : Nat} {rc : Nat → Int32 → Int32 → CS → Option (Int32 × CS)} (hrc0 : ∀ {l : Launch} {g : EG} {ad ta : Nat → Nat} {Rr : va_W} {σ σ' : CS} {r : Int32} {a0 : Int32}, rc 0 a0 0 σ = some (r, σ') → ph σ.2.2 ≤ BB → CtI l g yX6_readEither (.code yX6_readEither cX6_readEither 4 (some .boolean)) (10 * d) (400 * d) ad ta Rr σ [.ref (ad 4), .int a0] r σ') (hrc1 : ∀ {l : Launch} {g : EG} {ad ta : Nat → Nat} {Rr : va_W} {σ σ' : CS} {r : Int32} {a0 : Int32}, rc 1 a0 0 σ = some (r, σ') → ph σ.2.2 ≤ BB → CtI l g yX6_readBoth (.code yX6_readBoth cX6_readBoth 4 (some .boolean)) (10 * d) (400 * d) ad ta Rr σ [.ref (ad 4), .int a0] r σ') (hrc2 : ∀ {l : Launch} {g : EG} {ad ta : Nat → Nat} {Rr : va_W} {σ σ' : CS} {r : Int32} {a0 : Int32}, rc 2 a0 0 σ = some (r, σ') → ph σ.2.2 ≤ BB → CtI l g yX6_readTest (.code yX6_readTest cX6_readTest 3 (some .boolean)) (10 * d) (400 * d) ad ta Rr σ [.ref (ad 4), .int a0] r σ') (hrc3 : ∀ {l : Launch} {g : EG} {ad ta : Nat → Nat} {Rr : va_W} {σ σ' : CS} {r : Int32} {a0 : Int32}, rc 3 a0 0 σ = some (r, σ') → ph σ.2.2 ≤ BB → CtI l g yX6_readSum (.code yX6_readSum cX6_readSum 4 (some .boolean)) (10 * d) (400 * d) ad ta Rr σ [.ref (ad 4), .int a0] r σ') (hrc4 : ∀ {l : Launch} {g : EG} {ad ta : Nat → Nat} {Rr : va_W} {σ σ' : CS} {r : Int32} {a0 : Int32}, rc 4 a0 0 σ = some (r, σ') → ph σ.2.2 ≤ BB → CtI l g yX6_readProduct (.code yX6_readProduct cX6_readProduct 4 (some .boolean)) (10 * d) (400 * d) ad ta Rr σ [.ref (ad 4), .int a0] r σ') (hrc5 : ∀ {l : Launch} {g : EG} {ad ta : Nat → Nat} {Rr : va_W} {σ σ' : CS} {r : Int32} {a0 : Int32}, rc 5 a0 0 σ = some (r, σ') → ph σ.2.2 ≤ BB → CtI l g yX6_readValue (.code yX6_readValue cX6_readValue 5 (some .boolean)) (10 * d) (400 * d) ad ta Rr σ [.ref (ad 4), .int a0] r σ') (hrc6 : ∀ {l : Launch} {g : EG} {ad ta : Nat → Nat} {Rr : va_W} {σ σ' : CS} {r : Int32} {a0 a1 : Int32}, rc 6 a0 a1 σ = some (r, σ') → ph σ.2.2 ≤ BB → CtI l g yX6_readPick (.code yX6_readPick cX6_readPick 4 (some .boolean)) (10 * d) (400 * d) ad ta Rr σ [.ref (ad 4), .int a0, .int a1] r σ')  (h : f_Reader_readEither rc p0 σ = some (r, σ')) (hφ2 : ph σ.2.2 ≤ BB) : CtI l g yX6_readEither (.code yX6_readEither cX6_readEither 4 (some .boolean)) (10 * d + 10) (400 * d + 400) ad ta Rr σ [.ref (ad 4), .int p0] r σ' := by
  refine Ct.of rfl (by decide) (Nat.le_of_ble_eq_true rfl) ?_
  intro p e s m args below meth c A C hr
  have hφ : ph σ.2.2 ≤ ph σ.2.2 := Nat.le_refl _
  refine nw_zero (ph σ.2.2) ?_
  show NI g p l e s m args below meth c A (10 * d + 10) (400 * d + 400) 4 ad Rr (ph σ.2.2) (r, σ') ta σ [(0, .ref (ad 4)), (1, .int p0)] 0 []
  unfold f_Reader_readEither at h
  refine nw_aload_n C dX6_readEither_0 rfl 0 rfl ?_
  refine nw_iload_n C dX6_readEither_1 rfl 1 rfl ?_
  refine nc_callVI (q0 := 4) (As := [.int p0]) (rest := []) C h (fun _ _ e => hrc1 e hφ2) tw_1172 kv_X6_readBoth cl_Reader rfl ⟨by omega, by omega⟩ rfl dX6_readEither_2 rfl (Nat.le_of_ble_eq_true rfl) hφ hφ2 (fun r2 σ2 ta h hφ hφ2 => ?_)
  refine nw_istore_n (lv' := [(2, .int r2), (0, .ref (ad 4)), (1, .int p0)]) C dX6_readEither_5 rfl (by decide) rfl ?_
  refine nw_iconst (v := 0) C dX6_readEither_6 (by decide) ?_
  refine nw_istore_n (lv' := [(3, .int 0), (2, .int r2), (0, .ref (ad 4)), (1, .int p0)]) C dX6_readEither_7 rfl (by decide) rfl ?_
  exact nw_lv (lv' := [(0, .ref (ad 4)), (1, .int p0), (2, .int r2), (3, .int 0)]) [2, 3, 1, 0] rfl (w_Reader_readEither_8 C hr hrc0 hrc1 hrc2 hrc3 hrc4 hrc5 hrc6 p0 FU r2 0 _ _ hφ hφ2 h)
def g_R : Nat → Nat → Int32 → Int32 → CS → Option (Int32 × CS)
  | 0, _, _, _, _ => none
  | d + 1, tag, a0, a1, σ => if tag = 0 then f_Reader_readEither (g_R d) a0 σ else if tag = 1 then f_Reader_readBoth (g_R d) a0 σ else if tag = 2 then f_Reader_readTest (g_R d) a0 σ else if tag = 3 then f_Reader_readSum (g_R d) a0 σ else if tag = 4 then f_Reader_readProduct (g_R d) a0 σ else if tag = 5 then f_Reader_readValue (g_R d) a0 σ else if tag = 6 then f_Reader_readPick (g_R d) a0 a1 σ else none
set_option maxHeartbeats 4000000 in
theorem cg_R (d : Nat) : (∀ {l : Launch} {g : EG} {ad ta : Nat → Nat} {Rr : va_W} {σ σ' : CS} {r : Int32} {a0 : Int32}, g_R d 0 a0 0 σ = some (r, σ') → ph σ.2.2 ≤ BB → CtI l g yX6_readEither (.code yX6_readEither cX6_readEither 4 (some .boolean)) (10 * d) (400 * d) ad ta Rr σ [.ref (ad 4), .int a0] r σ') ∧ (∀ {l : Launch} {g : EG} {ad ta : Nat → Nat} {Rr : va_W} {σ σ' : CS} {r : Int32} {a0 : Int32}, g_R d 1 a0 0 σ = some (r, σ') → ph σ.2.2 ≤ BB → CtI l g yX6_readBoth (.code yX6_readBoth cX6_readBoth 4 (some .boolean)) (10 * d) (400 * d) ad ta Rr σ [.ref (ad 4), .int a0] r σ') ∧ (∀ {l : Launch} {g : EG} {ad ta : Nat → Nat} {Rr : va_W} {σ σ' : CS} {r : Int32} {a0 : Int32}, g_R d 2 a0 0 σ = some (r, σ') → ph σ.2.2 ≤ BB → CtI l g yX6_readTest (.code yX6_readTest cX6_readTest 3 (some .boolean)) (10 * d) (400 * d) ad ta Rr σ [.ref (ad 4), .int a0] r σ') ∧ (∀ {l : Launch} {g : EG} {ad ta : Nat → Nat} {Rr : va_W} {σ σ' : CS} {r : Int32} {a0 : Int32}, g_R d 3 a0 0 σ = some (r, σ') → ph σ.2.2 ≤ BB → CtI l g yX6_readSum (.code yX6_readSum cX6_readSum 4 (some .boolean)) (10 * d) (400 * d) ad ta Rr σ [.ref (ad 4), .int a0] r σ') ∧ (∀ {l : Launch} {g : EG} {ad ta : Nat → Nat} {Rr : va_W} {σ σ' : CS} {r : Int32} {a0 : Int32}, g_R d 4 a0 0 σ = some (r, σ') → ph σ.2.2 ≤ BB → CtI l g yX6_readProduct (.code yX6_readProduct cX6_readProduct 4 (some .boolean)) (10 * d) (400 * d) ad ta Rr σ [.ref (ad 4), .int a0] r σ') ∧ (∀ {l : Launch} {g : EG} {ad ta : Nat → Nat} {Rr : va_W} {σ σ' : CS} {r : Int32} {a0 : Int32}, g_R d 5 a0 0 σ = some (r, σ') → ph σ.2.2 ≤ BB → CtI l g yX6_readValue (.code yX6_readValue cX6_readValue 5 (some .boolean)) (10 * d) (400 * d) ad ta Rr σ [.ref (ad 4), .int a0] r σ') ∧ (∀ {l : Launch} {g : EG} {ad ta : Nat → Nat} {Rr : va_W} {σ σ' : CS} {r : Int32} {a0 a1 : Int32}, g_R d 6 a0 a1 σ = some (r, σ') → ph σ.2.2 ≤ BB → CtI l g yX6_readPick (.code yX6_readPick cX6_readPick 4 (some .boolean)) (10 * d) (400 * d) ad ta Rr σ [.ref (ad 4), .int a0, .int a1] r σ') := by
  induction d with
  | zero => exact ⟨fun h _ => absurd (show (none : Option (Int32 × CS)) = some _ from h) (by intro h9; cases h9), fun h _ => absurd (show (none : Option (Int32 × CS)) = some _ from h) (by intro h9; cases h9), fun h _ => absurd (show (none : Option (Int32 × CS)) = some _ from h) (by intro h9; cases h9), fun h _ => absurd (show (none : Option (Int32 × CS)) = some _ from h) (by intro h9; cases h9), fun h _ => absurd (show (none : Option (Int32 × CS)) = some _ from h) (by intro h9; cases h9), fun h _ => absurd (show (none : Option (Int32 × CS)) = some _ from h) (by intro h9; cases h9), fun h _ => absurd (show (none : Option (Int32 × CS)) = some _ from h) (by intro h9; cases h9)⟩
  | succ d ih =>
    obtain ⟨i0, i1, i2, i3, i4, i5, i6⟩ := ih
    exact ⟨by intro l g ad ta Rr σ σ' r a0 h hφ2; exact c_Reader_readEither @i0 @i1 @i2 @i3 @i4 @i5 @i6 h hφ2, by intro l g ad ta Rr σ σ' r a0 h hφ2; exact c_Reader_readBoth @i0 @i1 @i2 @i3 @i4 @i5 @i6 h hφ2, by intro l g ad ta Rr σ σ' r a0 h hφ2; exact c_Reader_readTest @i0 @i1 @i2 @i3 @i4 @i5 @i6 h hφ2, by intro l g ad ta Rr σ σ' r a0 h hφ2; exact c_Reader_readSum @i0 @i1 @i2 @i3 @i4 @i5 @i6 h hφ2, by intro l g ad ta Rr σ σ' r a0 h hφ2; exact c_Reader_readProduct @i0 @i1 @i2 @i3 @i4 @i5 @i6 h hφ2, by intro l g ad ta Rr σ σ' r a0 h hφ2; exact c_Reader_readValue @i0 @i1 @i2 @i3 @i4 @i5 @i6 h hφ2, by intro l g ad ta Rr σ σ' r a0 a1 h hφ2; exact c_Reader_readPick @i0 @i1 @i2 @i3 @i4 @i5 @i6 h hφ2⟩
theorem cg_Reader_readEither (d : Nat) : ∀ {l : Launch} {g : EG} {ad ta : Nat → Nat} {Rr : va_W} {σ σ' : CS} {r : Int32} {a0 : Int32}, g_R d 0 a0 0 σ = some (r, σ') → ph σ.2.2 ≤ BB → CtI l g yX6_readEither (.code yX6_readEither cX6_readEither 4 (some .boolean)) (10 * d) (400 * d) ad ta Rr σ [.ref (ad 4), .int a0] r σ' := fun h hφ2 => (cg_R d).1 h hφ2
theorem cg_Reader_readBoth (d : Nat) : ∀ {l : Launch} {g : EG} {ad ta : Nat → Nat} {Rr : va_W} {σ σ' : CS} {r : Int32} {a0 : Int32}, g_R d 1 a0 0 σ = some (r, σ') → ph σ.2.2 ≤ BB → CtI l g yX6_readBoth (.code yX6_readBoth cX6_readBoth 4 (some .boolean)) (10 * d) (400 * d) ad ta Rr σ [.ref (ad 4), .int a0] r σ' := fun h hφ2 => (cg_R d).2.1 h hφ2
theorem cg_Reader_readTest (d : Nat) : ∀ {l : Launch} {g : EG} {ad ta : Nat → Nat} {Rr : va_W} {σ σ' : CS} {r : Int32} {a0 : Int32}, g_R d 2 a0 0 σ = some (r, σ') → ph σ.2.2 ≤ BB → CtI l g yX6_readTest (.code yX6_readTest cX6_readTest 3 (some .boolean)) (10 * d) (400 * d) ad ta Rr σ [.ref (ad 4), .int a0] r σ' := fun h hφ2 => (cg_R d).2.2.1 h hφ2
theorem cg_Reader_readSum (d : Nat) : ∀ {l : Launch} {g : EG} {ad ta : Nat → Nat} {Rr : va_W} {σ σ' : CS} {r : Int32} {a0 : Int32}, g_R d 3 a0 0 σ = some (r, σ') → ph σ.2.2 ≤ BB → CtI l g yX6_readSum (.code yX6_readSum cX6_readSum 4 (some .boolean)) (10 * d) (400 * d) ad ta Rr σ [.ref (ad 4), .int a0] r σ' := fun h hφ2 => (cg_R d).2.2.2.1 h hφ2
theorem cg_Reader_readProduct (d : Nat) : ∀ {l : Launch} {g : EG} {ad ta : Nat → Nat} {Rr : va_W} {σ σ' : CS} {r : Int32} {a0 : Int32}, g_R d 4 a0 0 σ = some (r, σ') → ph σ.2.2 ≤ BB → CtI l g yX6_readProduct (.code yX6_readProduct cX6_readProduct 4 (some .boolean)) (10 * d) (400 * d) ad ta Rr σ [.ref (ad 4), .int a0] r σ' := fun h hφ2 => (cg_R d).2.2.2.2.1 h hφ2
theorem cg_Reader_readValue (d : Nat) : ∀ {l : Launch} {g : EG} {ad ta : Nat → Nat} {Rr : va_W} {σ σ' : CS} {r : Int32} {a0 : Int32}, g_R d 5 a0 0 σ = some (r, σ') → ph σ.2.2 ≤ BB → CtI l g yX6_readValue (.code yX6_readValue cX6_readValue 5 (some .boolean)) (10 * d) (400 * d) ad ta Rr σ [.ref (ad 4), .int a0] r σ' := fun h hφ2 => (cg_R d).2.2.2.2.2.1 h hφ2
theorem cg_Reader_readPick (d : Nat) : ∀ {l : Launch} {g : EG} {ad ta : Nat → Nat} {Rr : va_W} {σ σ' : CS} {r : Int32} {a0 a1 : Int32}, g_R d 6 a0 a1 σ = some (r, σ') → ph σ.2.2 ≤ BB → CtI l g yX6_readPick (.code yX6_readPick cX6_readPick 4 (some .boolean)) (10 * d) (400 * d) ad ta Rr σ [.ref (ad 4), .int a0, .int a1] r σ' := fun h hφ2 => (cg_R d).2.2.2.2.2.2 h hφ2
theorem dX6_readNumber_0 : decode cX6_readNumber 0 = .ok (.aload_n 0, 1) := by decide +kernel
theorem dX6_readNumber_1 : decode cX6_readNumber 1 = .ok (.iload_n 3, 1) := by decide +kernel
theorem dX6_readNumber_2 : decode cX6_readNumber 2 = .ok (.iload 4, 2) := by decide +kernel
theorem dX6_readNumber_4 : decode cX6_readNumber 4 = .ok (.invokevirtual 91, 3) := by decide +kernel
theorem dX6_readNumber_7 : decode cX6_readNumber 7 = .ok (.istore 5, 2) := by decide +kernel
theorem dX6_readNumber_9 : decode cX6_readNumber 9 = .ok (.aload_n 0, 1) := by decide +kernel
theorem dX6_readNumber_10 : decode cX6_readNumber 10 = .ok (.getfield 15, 3) := by decide +kernel
theorem dX6_readNumber_13 : decode cX6_readNumber 13 = .ok (.iload_n 1, 1) := by decide +kernel
theorem dX6_readNumber_14 : decode cX6_readNumber 14 = .ok (.iload_n 2, 1) := by decide +kernel
theorem dX6_readNumber_15 : decode cX6_readNumber 15 = .ok (.iload 5, 2) := by decide +kernel
theorem dX6_readNumber_17 : decode cX6_readNumber 17 = .ok (.invokevirtual 61, 3) := by decide +kernel
theorem dX6_readNumber_20 : decode cX6_readNumber 20 = .ok (.iload 5, 2) := by decide +kernel
theorem dX6_readNumber_22 : decode cX6_readNumber 22 = .ok (.iconst (-1), 1) := by decide +kernel
theorem dX6_readNumber_23 : decode cX6_readNumber 23 = .ok (.if_icmp .eq 7, 3) := by decide +kernel
theorem dX6_readNumber_26 : decode cX6_readNumber 26 = .ok (.iconst 1, 1) := by decide +kernel
theorem dX6_readNumber_27 : decode cX6_readNumber 27 = .ok (.goto 4, 3) := by decide +kernel
theorem dX6_readNumber_30 : decode cX6_readNumber 30 = .ok (.iconst 0, 1) := by decide +kernel
theorem dX6_readNumber_31 : decode cX6_readNumber 31 = .ok (.ireturn, 1) := by decide +kernel
def f_Reader_readNumber (p0 : Int32) (p1 : Int32) (p2 : Int32) (p3 : Int32) (σ : CS) : Option (Int32 × CS) := bnd (f_Reader_takeNumber p2 p3 σ) (fun r4 σ4 => bnd (f_Table_put 4 p0 p1 r4 σ4) (fun _ σ17 => if r4 = (-1) then some (0, σ17) else some (1, σ17)))
set_option maxHeartbeats 4000000 in
set_option maxRecDepth 100000 in
theorem c_Reader_readNumber {l : Launch} {g : EG} {ad ta : Nat → Nat} {Rr : va_W} {σ σ' : CS} {r : Int32} {p0 : Int32} {p1 : Int32} {p2 : Int32} {p3 : Int32}  (h : f_Reader_readNumber p0 p1 p2 p3 σ = some (r, σ')) (hφ2 : ph σ.2.2 ≤ BB) : CtI l g yX6_readNumber (.code yX6_readNumber cX6_readNumber 6 (some .boolean)) 3 69 ad ta Rr σ [.ref (ad 4), .int p0, .int p1, .int p2, .int p3] r σ' := by
  refine Ct.of rfl (by decide) (Nat.le_of_ble_eq_true rfl) ?_
  intro p e s m args below meth c A C hr
  have hφ : ph σ.2.2 ≤ ph σ.2.2 := Nat.le_refl _
  refine nw_zero (ph σ.2.2) ?_
  show NI g p l e s m args below meth c A 3 69 6 ad Rr (ph σ.2.2) (r, σ') ta σ [(0, .ref (ad 4)), (1, .int p0), (2, .int p1), (3, .int p2), (4, .int p3)] 0 []
  unfold f_Reader_readNumber at h
  refine nw_aload_n C dX6_readNumber_0 rfl 0 rfl ?_
  refine nw_iload_n C dX6_readNumber_1 rfl 3 rfl ?_
  refine nw_iload C dX6_readNumber_2 4 rfl ?_
  refine nc_callVI (q0 := 4) (As := [.int p2, .int p3]) (rest := []) C h (fun _ _ e => c_Reader_takeNumber e hφ2) tw_1216 kv_X6_takeNumber cl_Reader rfl ⟨Nat.le_of_ble_eq_true rfl, Nat.le_of_ble_eq_true rfl⟩ rfl dX6_readNumber_4 rfl (Nat.le_of_ble_eq_true rfl) hφ hφ2 (fun r4 σ4 ta h hφ hφ2 => ?_)
  refine nw_istore (lv' := [(5, .int r4), (0, .ref (ad 4)), (1, .int p0), (2, .int p1), (3, .int p2), (4, .int p3)]) C dX6_readNumber_7 (by decide) rfl ?_
  refine nw_aload_n C dX6_readNumber_9 rfl 1 rfl ?_
  refine nw_get (v := .ref (ad 15)) C in_X6 4 cl_Reader rfl 1 (by decide) tw_250 rfl rfl dX6_readNumber_10 ?_
  refine nw_iload_n C dX6_readNumber_13 rfl 2 rfl ?_
  refine nw_iload_n C dX6_readNumber_14 rfl 3 rfl ?_
  refine nw_iload C dX6_readNumber_15 0 rfl ?_
  refine nc_callVV (q0 := 15) (As := [.int p0, .int p1, .int r4]) (rest := []) C h (fun _ _ e => c_Table_put 4 (by decide) e hφ2) tw_1161 kv_X9_put (cl_T 4 (by decide)) rfl ⟨Nat.le_of_ble_eq_true rfl, Nat.le_of_ble_eq_true rfl⟩ rfl dX6_readNumber_17 rfl (Nat.le_of_ble_eq_true rfl) hφ hφ2 (fun r17 σ17 ta h hφ hφ2 => ?_)
  refine nw_iload C dX6_readNumber_20 0 rfl ?_
  refine nw_iconst (v := (-1)) C dX6_readNumber_22 (by decide) ?_
  refine nw_icmp_eq (tgt := 30) C dX6_readNumber_23 (by decide) h (fun _ h => ?_) (fun _ h => ?_)
  · refine nw_iconst (v := 0) C dX6_readNumber_30 (by decide) ?_
    exact nc_zret C hr (Or.inl rfl) dX6_readNumber_31 hφ hφ2 h
  · refine nw_iconst (v := 1) C dX6_readNumber_26 (by decide) ?_
    refine nw_goto (tgt := 31) C dX6_readNumber_27 (by decide) ?_
    exact nc_zret C hr (Or.inr rfl) dX6_readNumber_31 hφ hφ2 h
theorem dX6_readHeirs_0 : decode cX6_readHeirs 0 = .ok (.aload_n 0, 1) := by decide +kernel
theorem dX6_readHeirs_1 : decode cX6_readHeirs 1 = .ok (.ldc 89, 2) := by decide +kernel
theorem dX6_readHeirs_3 : decode cX6_readHeirs 3 = .ok (.invokevirtual 48, 3) := by decide +kernel
theorem dX6_readHeirs_6 : decode cX6_readHeirs 6 = .ok (.istore_n 2, 1) := by decide +kernel
theorem dX6_readHeirs_7 : decode cX6_readHeirs 7 = .ok (.aload_n 0, 1) := by decide +kernel
theorem dX6_readHeirs_8 : decode cX6_readHeirs 8 = .ok (.getfield 15, 3) := by decide +kernel
theorem dX6_readHeirs_11 : decode cX6_readHeirs 11 = .ok (.iload_n 1, 1) := by decide +kernel
theorem dX6_readHeirs_12 : decode cX6_readHeirs 12 = .ok (.bipush 6, 2) := by decide +kernel
theorem dX6_readHeirs_14 : decode cX6_readHeirs 14 = .ok (.iload_n 2, 1) := by decide +kernel
theorem dX6_readHeirs_15 : decode cX6_readHeirs 15 = .ok (.invokevirtual 61, 3) := by decide +kernel
theorem dX6_readHeirs_18 : decode cX6_readHeirs 18 = .ok (.iload_n 2, 1) := by decide +kernel
theorem dX6_readHeirs_19 : decode cX6_readHeirs 19 = .ok (.iconst (-1), 1) := by decide +kernel
theorem dX6_readHeirs_20 : decode cX6_readHeirs 20 = .ok (.if_icmp .ne 15, 3) := by decide +kernel
theorem dX6_readHeirs_23 : decode cX6_readHeirs 23 = .ok (.aload_n 0, 1) := by decide +kernel
theorem dX6_readHeirs_24 : decode cX6_readHeirs 24 = .ok (.iconst 1, 1) := by decide +kernel
theorem dX6_readHeirs_25 : decode cX6_readHeirs 25 = .ok (.aload_n 0, 1) := by decide +kernel
theorem dX6_readHeirs_26 : decode cX6_readHeirs 26 = .ok (.getfield 31, 3) := by decide +kernel
theorem dX6_readHeirs_29 : decode cX6_readHeirs 29 = .ok (.invokevirtual 52, 3) := by decide +kernel
theorem dX6_readHeirs_32 : decode cX6_readHeirs 32 = .ok (.ifCond .eq 7, 3) := by decide +kernel
theorem dX6_readHeirs_35 : decode cX6_readHeirs 35 = .ok (.iconst 1, 1) := by decide +kernel
theorem dX6_readHeirs_36 : decode cX6_readHeirs 36 = .ok (.goto 4, 3) := by decide +kernel
theorem dX6_readHeirs_39 : decode cX6_readHeirs 39 = .ok (.iconst 0, 1) := by decide +kernel
theorem dX6_readHeirs_40 : decode cX6_readHeirs 40 = .ok (.ireturn, 1) := by decide +kernel
def f_Reader_readHeirs (p0 : Int32) (σ : CS) : Option (Int32 × CS) := bnd (f_Reader_takeWord 11 σ) (fun r3 σ3 => bnd (f_Table_put 4 p0 6 r3 σ3) (fun _ σ15 => if r3 = (-1) then bnd (f_Reader_fail 1 (σ15.1 56) σ15) (fun r29 σ29 => if r29 = 0 then some (0, σ29) else some (1, σ29)) else some (1, σ15)))
set_option maxHeartbeats 4000000 in
set_option maxRecDepth 100000 in
theorem c_Reader_readHeirs {l : Launch} {g : EG} {ad ta : Nat → Nat} {Rr : va_W} {σ σ' : CS} {r : Int32} {p0 : Int32}  (h : f_Reader_readHeirs p0 σ = some (r, σ')) (hφ2 : ph σ.2.2 ≤ BB) : CtI l g yX6_readHeirs (.code yX6_readHeirs cX6_readHeirs 3 (some .boolean)) 6 180 ad ta Rr σ [.ref (ad 4), .int p0] r σ' := by
  refine Ct.of rfl (by decide) (Nat.le_of_ble_eq_true rfl) ?_
  intro p e s m args below meth c A C hr
  have hφ : ph σ.2.2 ≤ ph σ.2.2 := Nat.le_refl _
  refine nw_zero (ph σ.2.2) ?_
  show NI g p l e s m args below meth c A 6 180 3 ad Rr (ph σ.2.2) (r, σ') ta σ [(0, .ref (ad 4)), (1, .int p0)] 0 []
  unfold f_Reader_readHeirs at h
  refine nw_aload_n C dX6_readHeirs_0 rfl 0 rfl ?_
  refine nw_lds (i := 11) C (by decide) rfl rfl dX6_readHeirs_1 ?_
  refine nc_callVI (q0 := 4) (As := [.ref (gK g 11)]) (rest := []) C h (fun _ _ e => c_Reader_takeWord 11 (by decide) e hφ2) tw_1096 kv_X6_takeWord cl_Reader rfl ⟨Nat.le_of_ble_eq_true rfl, Nat.le_of_ble_eq_true rfl⟩ rfl dX6_readHeirs_3 rfl (Nat.le_of_ble_eq_true rfl) hφ hφ2 (fun r3 σ3 ta h hφ hφ2 => ?_)
  refine nw_istore_n (lv' := [(2, .int r3), (0, .ref (ad 4)), (1, .int p0)]) C dX6_readHeirs_6 rfl (by decide) rfl ?_
  refine nw_aload_n C dX6_readHeirs_7 rfl 1 rfl ?_
  refine nw_get (v := .ref (ad 15)) C in_X6 4 cl_Reader rfl 1 (by decide) tw_250 rfl rfl dX6_readHeirs_8 ?_
  refine nw_iload_n C dX6_readHeirs_11 rfl 2 rfl ?_
  refine nw_bipush (v := 6) C dX6_readHeirs_12 (by decide) ?_
  refine nw_iload_n C dX6_readHeirs_14 rfl 0 rfl ?_
  refine nc_callVV (q0 := 15) (As := [.int p0, .int 6, .int r3]) (rest := []) C h (fun _ _ e => c_Table_put 4 (by decide) e hφ2) tw_1161 kv_X9_put (cl_T 4 (by decide)) rfl ⟨Nat.le_of_ble_eq_true rfl, Nat.le_of_ble_eq_true rfl⟩ rfl dX6_readHeirs_15 rfl (Nat.le_of_ble_eq_true rfl) hφ hφ2 (fun r15 σ15 ta h hφ hφ2 => ?_)
  refine nw_iload_n C dX6_readHeirs_18 rfl 0 rfl ?_
  refine nw_iconst (v := (-1)) C dX6_readHeirs_19 (by decide) ?_
  refine nw_icmp_ne (tgt := 35) C dX6_readHeirs_20 (by decide) h (fun _ h => ?_) (fun _ h => ?_)
  · refine nw_aload_n C dX6_readHeirs_23 rfl 1 rfl ?_
    refine nw_iconst (v := 1) C dX6_readHeirs_24 (by decide) ?_
    refine nw_aload_n C dX6_readHeirs_25 rfl 1 rfl ?_
    refine nw_get (v := .int (σ15.1 56)) C in_X6 4 cl_Reader rfl 4 (by decide) tw_253 rfl rfl dX6_readHeirs_26 ?_
    refine nc_callVI (q0 := 4) (As := [.int 1, .int (σ15.1 56)]) (rest := []) C h (fun _ _ e => c_Reader_fail e hφ2) tw_1156 kv_X6_fail cl_Reader rfl ⟨Nat.le_of_ble_eq_true rfl, Nat.le_of_ble_eq_true rfl⟩ rfl dX6_readHeirs_29 rfl (Nat.le_of_ble_eq_true rfl) hφ hφ2 (fun r29 σ29 ta h hφ hφ2 => ?_)
    refine nw_if_eq (tgt := 39) C dX6_readHeirs_32 (by decide) h (fun _ h => ?_) (fun _ h => ?_)
    · refine nw_iconst (v := 0) C dX6_readHeirs_39 (by decide) ?_
      exact nc_zret C hr (Or.inl rfl) dX6_readHeirs_40 hφ hφ2 h
    · refine nw_iconst (v := 1) C dX6_readHeirs_35 (by decide) ?_
      refine nw_goto (tgt := 40) C dX6_readHeirs_36 (by decide) ?_
      exact nc_zret C hr (Or.inr rfl) dX6_readHeirs_40 hφ hφ2 h
  · refine nw_iconst (v := 1) C dX6_readHeirs_35 (by decide) ?_
    refine nw_goto (tgt := 40) C dX6_readHeirs_36 (by decide) ?_
    exact nc_zret C hr (Or.inr rfl) dX6_readHeirs_40 hφ hφ2 h
theorem dX6_readClause_0 : decode cX6_readClause 0 = .ok (.aload_n 0, 1) := by decide +kernel
theorem dX6_readClause_1 : decode cX6_readClause 1 = .ok (.getfield 31, 3) := by decide +kernel
theorem dX6_readClause_4 : decode cX6_readClause 4 = .ok (.istore_n 2, 1) := by decide +kernel
theorem dX6_readClause_5 : decode cX6_readClause 5 = .ok (.aload_n 0, 1) := by decide +kernel
theorem dX6_readClause_6 : decode cX6_readClause 6 = .ok (.ldc 46, 2) := by decide +kernel
theorem dX6_readClause_8 : decode cX6_readClause 8 = .ok (.invokevirtual 48, 3) := by decide +kernel
theorem dX6_readClause_11 : decode cX6_readClause 11 = .ok (.istore_n 3, 1) := by decide +kernel
theorem dX6_readClause_12 : decode cX6_readClause 12 = .ok (.iload_n 3, 1) := by decide +kernel
theorem dX6_readClause_13 : decode cX6_readClause 13 = .ok (.iconst (-1), 1) := by decide +kernel
theorem dX6_readClause_14 : decode cX6_readClause 14 = .ok (.if_icmp .ne 14, 3) := by decide +kernel
theorem dX6_readClause_17 : decode cX6_readClause 17 = .ok (.aload_n 0, 1) := by decide +kernel
theorem dX6_readClause_18 : decode cX6_readClause 18 = .ok (.iconst 1, 1) := by decide +kernel
theorem dX6_readClause_19 : decode cX6_readClause 19 = .ok (.aload_n 0, 1) := by decide +kernel
theorem dX6_readClause_20 : decode cX6_readClause 20 = .ok (.getfield 31, 3) := by decide +kernel
theorem dX6_readClause_23 : decode cX6_readClause 23 = .ok (.invokevirtual 52, 3) := by decide +kernel
theorem dX6_readClause_26 : decode cX6_readClause 26 = .ok (.pop, 1) := by decide +kernel
theorem dX6_readClause_27 : decode cX6_readClause 27 = .ok (.return_, 1) := by decide +kernel
theorem dX6_readClause_28 : decode cX6_readClause 28 = .ok (.iload_n 1, 1) := by decide +kernel
theorem dX6_readClause_29 : decode cX6_readClause 29 = .ok (.bipush 12, 2) := by decide +kernel
theorem dX6_readClause_31 : decode cX6_readClause 31 = .ok (.if_icmp .lt 11, 3) := by decide +kernel
theorem dX6_readClause_34 : decode cX6_readClause 34 = .ok (.aload_n 0, 1) := by decide +kernel
theorem dX6_readClause_35 : decode cX6_readClause 35 = .ok (.iconst 3, 1) := by decide +kernel
theorem dX6_readClause_36 : decode cX6_readClause 36 = .ok (.iload_n 2, 1) := by decide +kernel
theorem dX6_readClause_37 : decode cX6_readClause 37 = .ok (.invokevirtual 52, 3) := by decide +kernel
theorem dX6_readClause_40 : decode cX6_readClause 40 = .ok (.pop, 1) := by decide +kernel
theorem dX6_readClause_41 : decode cX6_readClause 41 = .ok (.return_, 1) := by decide +kernel
theorem dX6_readClause_42 : decode cX6_readClause 42 = .ok (.aload_n 0, 1) := by decide +kernel
theorem dX6_readClause_43 : decode cX6_readClause 43 = .ok (.getfield 15, 3) := by decide +kernel
theorem dX6_readClause_46 : decode cX6_readClause 46 = .ok (.invokevirtual 56, 3) := by decide +kernel
theorem dX6_readClause_49 : decode cX6_readClause 49 = .ok (.istore 4, 2) := by decide +kernel
theorem dX6_readClause_51 : decode cX6_readClause 51 = .ok (.aload_n 0, 1) := by decide +kernel
theorem dX6_readClause_52 : decode cX6_readClause 52 = .ok (.getfield 15, 3) := by decide +kernel
theorem dX6_readClause_55 : decode cX6_readClause 55 = .ok (.iload 4, 2) := by decide +kernel
theorem dX6_readClause_57 : decode cX6_readClause 57 = .ok (.iconst 0, 1) := by decide +kernel
theorem dX6_readClause_58 : decode cX6_readClause 58 = .ok (.aload_n 0, 1) := by decide +kernel
theorem dX6_readClause_59 : decode cX6_readClause 59 = .ok (.getfield 34, 3) := by decide +kernel
theorem dX6_readClause_62 : decode cX6_readClause 62 = .ok (.invokevirtual 61, 3) := by decide +kernel
theorem dX6_readClause_65 : decode cX6_readClause 65 = .ok (.aload_n 0, 1) := by decide +kernel
theorem dX6_readClause_66 : decode cX6_readClause 66 = .ok (.getfield 15, 3) := by decide +kernel
theorem dX6_readClause_69 : decode cX6_readClause 69 = .ok (.iload 4, 2) := by decide +kernel
theorem dX6_readClause_71 : decode cX6_readClause 71 = .ok (.iconst 1, 1) := by decide +kernel
theorem dX6_readClause_72 : decode cX6_readClause 72 = .ok (.iload_n 1, 1) := by decide +kernel
theorem dX6_readClause_73 : decode cX6_readClause 73 = .ok (.invokevirtual 61, 3) := by decide +kernel
theorem dX6_readClause_76 : decode cX6_readClause 76 = .ok (.aload_n 0, 1) := by decide +kernel
theorem dX6_readClause_77 : decode cX6_readClause 77 = .ok (.getfield 15, 3) := by decide +kernel
theorem dX6_readClause_80 : decode cX6_readClause 80 = .ok (.iload 4, 2) := by decide +kernel
theorem dX6_readClause_82 : decode cX6_readClause 82 = .ok (.iconst 2, 1) := by decide +kernel
theorem dX6_readClause_83 : decode cX6_readClause 83 = .ok (.iload_n 3, 1) := by decide +kernel
theorem dX6_readClause_84 : decode cX6_readClause 84 = .ok (.invokevirtual 61, 3) := by decide +kernel
theorem dX6_readClause_87 : decode cX6_readClause 87 = .ok (.aload_n 0, 1) := by decide +kernel
theorem dX6_readClause_88 : decode cX6_readClause 88 = .ok (.getfield 15, 3) := by decide +kernel
theorem dX6_readClause_91 : decode cX6_readClause 91 = .ok (.iload 4, 2) := by decide +kernel
theorem dX6_readClause_93 : decode cX6_readClause 93 = .ok (.iconst 4, 1) := by decide +kernel
theorem dX6_readClause_94 : decode cX6_readClause 94 = .ok (.aload_n 0, 1) := by decide +kernel
theorem dX6_readClause_95 : decode cX6_readClause 95 = .ok (.getfield 18, 3) := by decide +kernel
theorem dX6_readClause_98 : decode cX6_readClause 98 = .ok (.invokevirtual 21, 3) := by decide +kernel
theorem dX6_readClause_101 : decode cX6_readClause 101 = .ok (.invokevirtual 61, 3) := by decide +kernel
theorem dX6_readClause_104 : decode cX6_readClause 104 = .ok (.iload_n 3, 1) := by decide +kernel
theorem dX6_readClause_105 : decode cX6_readClause 105 = .ok (.tableswitch 213 0 6 #[43, 43, 80, 91, 127, 147, 158], 43) := by decide +kernel
theorem dX6_readClause_148 : decode cX6_readClause 148 = .ok (.aload_n 0, 1) := by decide +kernel
theorem dX6_readClause_149 : decode cX6_readClause 149 = .ok (.iload 4, 2) := by decide +kernel
theorem dX6_readClause_151 : decode cX6_readClause 151 = .ok (.invokevirtual 65, 3) := by decide +kernel
theorem dX6_readClause_154 : decode cX6_readClause 154 = .ok (.ifCond .eq 25, 3) := by decide +kernel
theorem dX6_readClause_157 : decode cX6_readClause 157 = .ok (.aload_n 0, 1) := by decide +kernel
theorem dX6_readClause_158 : decode cX6_readClause 158 = .ok (.ldc 69, 2) := by decide +kernel
theorem dX6_readClause_160 : decode cX6_readClause 160 = .ok (.invokevirtual 48, 3) := by decide +kernel
theorem dX6_readClause_163 : decode cX6_readClause 163 = .ok (.iconst (-1), 1) := by decide +kernel
theorem dX6_readClause_164 : decode cX6_readClause 164 = .ok (.if_icmp .eq 11, 3) := by decide +kernel
theorem dX6_readClause_167 : decode cX6_readClause 167 = .ok (.aload_n 0, 1) := by decide +kernel
theorem dX6_readClause_168 : decode cX6_readClause 168 = .ok (.iconst 0, 1) := by decide +kernel
theorem dX6_readClause_169 : decode cX6_readClause 169 = .ok (.invokevirtual 71, 3) := by decide +kernel
theorem dX6_readClause_172 : decode cX6_readClause 172 = .ok (.ifCond .eq 7, 3) := by decide +kernel
theorem dX6_readClause_175 : decode cX6_readClause 175 = .ok (.iconst 1, 1) := by decide +kernel
theorem dX6_readClause_176 : decode cX6_readClause 176 = .ok (.goto 4, 3) := by decide +kernel
theorem dX6_readClause_179 : decode cX6_readClause 179 = .ok (.iconst 0, 1) := by decide +kernel
theorem dX6_readClause_180 : decode cX6_readClause 180 = .ok (.istore 5, 2) := by decide +kernel
theorem dX6_readClause_182 : decode cX6_readClause 182 = .ok (.goto 149, 3) := by decide +kernel
theorem dX6_readClause_185 : decode cX6_readClause 185 = .ok (.aload_n 0, 1) := by decide +kernel
theorem dX6_readClause_186 : decode cX6_readClause 186 = .ok (.iload 4, 2) := by decide +kernel
theorem dX6_readClause_188 : decode cX6_readClause 188 = .ok (.invokevirtual 65, 3) := by decide +kernel
theorem dX6_readClause_191 : decode cX6_readClause 191 = .ok (.istore 5, 2) := by decide +kernel
theorem dX6_readClause_193 : decode cX6_readClause 193 = .ok (.goto 138, 3) := by decide +kernel
theorem dX6_readClause_196 : decode cX6_readClause 196 = .ok (.aload_n 0, 1) := by decide +kernel
theorem dX6_readClause_197 : decode cX6_readClause 197 = .ok (.iload 4, 2) := by decide +kernel
theorem dX6_readClause_199 : decode cX6_readClause 199 = .ok (.invokevirtual 65, 3) := by decide +kernel
theorem dX6_readClause_202 : decode cX6_readClause 202 = .ok (.ifCond .eq 24, 3) := by decide +kernel
theorem dX6_readClause_205 : decode cX6_readClause 205 = .ok (.aload_n 0, 1) := by decide +kernel
theorem dX6_readClause_206 : decode cX6_readClause 206 = .ok (.bipush 61, 2) := by decide +kernel
theorem dX6_readClause_208 : decode cX6_readClause 208 = .ok (.invokevirtual 74, 3) := by decide +kernel
theorem dX6_readClause_211 : decode cX6_readClause 211 = .ok (.ifCond .eq 15, 3) := by decide +kernel
theorem dX6_readClause_214 : decode cX6_readClause 214 = .ok (.aload_n 0, 1) := by decide +kernel
theorem dX6_readClause_215 : decode cX6_readClause 215 = .ok (.iconst 0, 1) := by decide +kernel
theorem dX6_readClause_216 : decode cX6_readClause 216 = .ok (.invokevirtual 77, 3) := by decide +kernel
theorem dX6_readClause_219 : decode cX6_readClause 219 = .ok (.ifCond .eq 7, 3) := by decide +kernel
theorem dX6_readClause_222 : decode cX6_readClause 222 = .ok (.iconst 1, 1) := by decide +kernel
theorem dX6_readClause_223 : decode cX6_readClause 223 = .ok (.goto 4, 3) := by decide +kernel
theorem dX6_readClause_226 : decode cX6_readClause 226 = .ok (.iconst 0, 1) := by decide +kernel
theorem dX6_readClause_227 : decode cX6_readClause 227 = .ok (.istore 5, 2) := by decide +kernel
theorem dX6_readClause_229 : decode cX6_readClause 229 = .ok (.goto 102, 3) := by decide +kernel
theorem dX6_readClause_232 : decode cX6_readClause 232 = .ok (.aload_n 0, 1) := by decide +kernel
theorem dX6_readClause_233 : decode cX6_readClause 233 = .ok (.iload 4, 2) := by decide +kernel
theorem dX6_readClause_235 : decode cX6_readClause 235 = .ok (.bipush 6, 2) := by decide +kernel
theorem dX6_readClause_237 : decode cX6_readClause 237 = .ok (.iconst 0, 1) := by decide +kernel
theorem dX6_readClause_238 : decode cX6_readClause 238 = .ok (.aload_n 0, 1) := by decide +kernel
theorem dX6_readClause_239 : decode cX6_readClause 239 = .ok (.getfield 34, 3) := by decide +kernel
theorem dX6_readClause_242 : decode cX6_readClause 242 = .ok (.iconst 1, 1) := by decide +kernel
theorem dX6_readClause_243 : decode cX6_readClause 243 = .ok (.isub, 1) := by decide +kernel
theorem dX6_readClause_244 : decode cX6_readClause 244 = .ok (.invokevirtual 80, 3) := by decide +kernel
theorem dX6_readClause_247 : decode cX6_readClause 247 = .ok (.istore 5, 2) := by decide +kernel
theorem dX6_readClause_249 : decode cX6_readClause 249 = .ok (.goto 82, 3) := by decide +kernel
theorem dX6_readClause_252 : decode cX6_readClause 252 = .ok (.aload_n 0, 1) := by decide +kernel
theorem dX6_readClause_253 : decode cX6_readClause 253 = .ok (.iload 4, 2) := by decide +kernel
theorem dX6_readClause_255 : decode cX6_readClause 255 = .ok (.invokevirtual 84, 3) := by decide +kernel
theorem dX6_readClause_258 : decode cX6_readClause 258 = .ok (.istore 5, 2) := by decide +kernel
theorem dX6_readClause_260 : decode cX6_readClause 260 = .ok (.goto 71, 3) := by decide +kernel
theorem dX6_readClause_263 : decode cX6_readClause 263 = .ok (.aload_n 0, 1) := by decide +kernel
theorem dX6_readClause_264 : decode cX6_readClause 264 = .ok (.iload 4, 2) := by decide +kernel
theorem dX6_readClause_266 : decode cX6_readClause 266 = .ok (.bipush 6, 2) := by decide +kernel
theorem dX6_readClause_268 : decode cX6_readClause 268 = .ok (.iconst 1, 1) := by decide +kernel
theorem dX6_readClause_269 : decode cX6_readClause 269 = .ok (.sipush 4000, 3) := by decide +kernel
theorem dX6_readClause_272 : decode cX6_readClause 272 = .ok (.invokevirtual 80, 3) := by decide +kernel
theorem dX6_readClause_275 : decode cX6_readClause 275 = .ok (.ifCond .eq 37, 3) := by decide +kernel
theorem dX6_readClause_278 : decode cX6_readClause 278 = .ok (.aload_n 0, 1) := by decide +kernel
theorem dX6_readClause_279 : decode cX6_readClause 279 = .ok (.iload 4, 2) := by decide +kernel
theorem dX6_readClause_281 : decode cX6_readClause 281 = .ok (.bipush 7, 2) := by decide +kernel
theorem dX6_readClause_283 : decode cX6_readClause 283 = .ok (.iconst 1, 1) := by decide +kernel
theorem dX6_readClause_284 : decode cX6_readClause 284 = .ok (.sipush 4000, 3) := by decide +kernel
theorem dX6_readClause_287 : decode cX6_readClause 287 = .ok (.invokevirtual 80, 3) := by decide +kernel
theorem dX6_readClause_290 : decode cX6_readClause 290 = .ok (.ifCond .eq 22, 3) := by decide +kernel
theorem dX6_readClause_293 : decode cX6_readClause 293 = .ok (.aload_n 0, 1) := by decide +kernel
theorem dX6_readClause_294 : decode cX6_readClause 294 = .ok (.iload 4, 2) := by decide +kernel
theorem dX6_readClause_296 : decode cX6_readClause 296 = .ok (.bipush 8, 2) := by decide +kernel
theorem dX6_readClause_298 : decode cX6_readClause 298 = .ok (.iconst 1, 1) := by decide +kernel
theorem dX6_readClause_299 : decode cX6_readClause 299 = .ok (.sipush 4000, 3) := by decide +kernel
theorem dX6_readClause_302 : decode cX6_readClause 302 = .ok (.invokevirtual 80, 3) := by decide +kernel
theorem dX6_readClause_305 : decode cX6_readClause 305 = .ok (.ifCond .eq 7, 3) := by decide +kernel
theorem dX6_readClause_308 : decode cX6_readClause 308 = .ok (.iconst 1, 1) := by decide +kernel
theorem dX6_readClause_309 : decode cX6_readClause 309 = .ok (.goto 4, 3) := by decide +kernel
theorem dX6_readClause_312 : decode cX6_readClause 312 = .ok (.iconst 0, 1) := by decide +kernel
theorem dX6_readClause_313 : decode cX6_readClause 313 = .ok (.istore 5, 2) := by decide +kernel
theorem dX6_readClause_315 : decode cX6_readClause 315 = .ok (.goto 16, 3) := by decide +kernel
theorem dX6_readClause_318 : decode cX6_readClause 318 = .ok (.aload_n 0, 1) := by decide +kernel
theorem dX6_readClause_319 : decode cX6_readClause 319 = .ok (.iload 4, 2) := by decide +kernel
theorem dX6_readClause_321 : decode cX6_readClause 321 = .ok (.bipush 6, 2) := by decide +kernel
theorem dX6_readClause_323 : decode cX6_readClause 323 = .ok (.iconst 1, 1) := by decide +kernel
theorem dX6_readClause_324 : decode cX6_readClause 324 = .ok (.bipush 60, 2) := by decide +kernel
theorem dX6_readClause_326 : decode cX6_readClause 326 = .ok (.invokevirtual 80, 3) := by decide +kernel
theorem dX6_readClause_329 : decode cX6_readClause 329 = .ok (.istore 5, 2) := by decide +kernel
theorem dX6_readClause_331 : decode cX6_readClause 331 = .ok (.aload_n 0, 1) := by decide +kernel
theorem dX6_readClause_332 : decode cX6_readClause 332 = .ok (.getfield 15, 3) := by decide +kernel
theorem dX6_readClause_335 : decode cX6_readClause 335 = .ok (.iload 4, 2) := by decide +kernel
theorem dX6_readClause_337 : decode cX6_readClause 337 = .ok (.iconst 5, 1) := by decide +kernel
theorem dX6_readClause_338 : decode cX6_readClause 338 = .ok (.aload_n 0, 1) := by decide +kernel
theorem dX6_readClause_339 : decode cX6_readClause 339 = .ok (.getfield 18, 3) := by decide +kernel
theorem dX6_readClause_342 : decode cX6_readClause 342 = .ok (.invokevirtual 21, 3) := by decide +kernel
theorem dX6_readClause_345 : decode cX6_readClause 345 = .ok (.invokevirtual 61, 3) := by decide +kernel
theorem dX6_readClause_348 : decode cX6_readClause 348 = .ok (.iload 5, 2) := by decide +kernel
theorem dX6_readClause_350 : decode cX6_readClause 350 = .ok (.ifCond .eq 10, 3) := by decide +kernel
theorem dX6_readClause_353 : decode cX6_readClause 353 = .ok (.aload_n 0, 1) := by decide +kernel
theorem dX6_readClause_354 : decode cX6_readClause 354 = .ok (.bipush 59, 2) := by decide +kernel
theorem dX6_readClause_356 : decode cX6_readClause 356 = .ok (.invokevirtual 74, 3) := by decide +kernel
theorem dX6_readClause_359 : decode cX6_readClause 359 = .ok (.pop, 1) := by decide +kernel
theorem dX6_readClause_360 : decode cX6_readClause 360 = .ok (.return_, 1) := by decide +kernel
def B_Reader_readClause_331   (x4 : Int32) (x5 : Int32) (σ : CS) : Option (Int32 × CS) := bnd (f_Table_size 5 σ) (fun r342 σ342 => bnd (f_Table_put 4 x4 5 r342 σ342) (fun _ σ345 => if x5 = 0 then some (0, σ345) else bnd (f_Reader_needSign 59 σ345) (fun r356 σ356 => some (0, σ356))))
set_option maxHeartbeats 4000000 in
set_option maxRecDepth 100000 in
theorem w_Reader_readClause_331 (C : Cx g p s m args meth c A 6 cX6_readClause yX6_readClause.cls) (hr : meth.sig.returnType = none)  {res : Int32 × CS}   (x4 : Int32) (x5 : Int32)  (σ : CS) (ta : Nat → Nat) (hφ : φ0 ≤ ph σ.2.2) (hφ2 : ph σ.2.2 ≤ BB) (h : B_Reader_readClause_331 x4 x5 σ = some res) : NV g p l e s m args below meth c A 1001 40023 6 ad Rr φ0 res ta σ [(0, .ref (ad 4)), (4, .int x4), (5, .int x5)] 331 [] := by
  unfold B_Reader_readClause_331 at h
  refine nw_aload_n C dX6_readClause_331 rfl 0 rfl ?_
  refine nw_get (v := .ref (ad 15)) C in_X6 4 cl_Reader rfl 1 (by decide) tw_250 rfl rfl dX6_readClause_332 ?_
  refine nw_iload C dX6_readClause_335 1 rfl ?_
  refine nw_iconst (v := 5) C dX6_readClause_337 (by decide) ?_
  refine nw_aload_n C dX6_readClause_338 rfl 0 rfl ?_
  refine nw_get (v := .ref (ad 16)) C in_X6 4 cl_Reader rfl 2 (by decide) tw_251 rfl rfl dX6_readClause_339 ?_
  refine nc_callVI (q0 := 16) (As := []) (rest := [.int 5, .int x4, .ref (ad 15)]) C h (fun _ _ e => c_Table_size 5 (by decide) e hφ2) tw_1081 kv_X9_size (cl_T 5 (by decide)) rfl ⟨Nat.le_of_ble_eq_true rfl, Nat.le_of_ble_eq_true rfl⟩ rfl dX6_readClause_342 rfl (Nat.le_of_ble_eq_true rfl) hφ hφ2 (fun r342 σ342 ta h hφ hφ2 => ?_)
  refine nc_callVV (q0 := 15) (As := [.int x4, .int 5, .int r342]) (rest := []) C h (fun _ _ e => c_Table_put 4 (by decide) e hφ2) tw_1161 kv_X9_put (cl_T 4 (by decide)) rfl ⟨Nat.le_of_ble_eq_true rfl, Nat.le_of_ble_eq_true rfl⟩ rfl dX6_readClause_345 rfl (Nat.le_of_ble_eq_true rfl) hφ hφ2 (fun r345 σ345 ta h hφ hφ2 => ?_)
  refine nw_iload C dX6_readClause_348 2 rfl ?_
  refine nw_if_eq (tgt := 360) C dX6_readClause_350 (by decide) h (fun _ h => ?_) (fun _ h => ?_)
  · exact nc_vret C hr dX6_readClause_360 hφ hφ2 h
  · refine nw_aload_n C dX6_readClause_353 rfl 0 rfl ?_
    refine nw_bipush (v := 59) C dX6_readClause_354 (by decide) ?_
    refine nc_callVI (q0 := 4) (As := [.int 59]) (rest := []) C h (fun _ _ e => c_Reader_needSign e hφ2) tw_1197 kv_X6_needSign cl_Reader rfl ⟨Nat.le_of_ble_eq_true rfl, Nat.le_of_ble_eq_true rfl⟩ rfl dX6_readClause_356 rfl (Nat.le_of_ble_eq_true rfl) hφ hφ2 (fun r356 σ356 ta h hφ hφ2 => ?_)
    refine nw_pop C dX6_readClause_359 rfl ?_
    exact nc_vret C hr dX6_readClause_360 hφ hφ2 h
def f_Reader_readClause (p0 : Int32) (σ : CS) : Option (Int32 × CS) := bnd (f_Reader_takeWord 3 σ) (fun r8 σ8 => if r8 = (-1) then bnd (f_Reader_fail 1 (σ8.1 56) σ8) (fun r23 σ23 => some (0, σ23)) else if p0 < 12 then bnd (f_Table_add 4 σ8) (fun r46 σ46 => bnd (f_Table_put 4 r46 0 (σ46.1 57) σ46) (fun _ σ62 => bnd (f_Table_put 4 r46 1 p0 σ62) (fun _ σ73 => bnd (f_Table_put 4 r46 2 r8 σ73) (fun _ σ84 => bnd (f_Table_size 5 σ84) (fun r98 σ98 => bnd (f_Table_put 4 r46 4 r98 σ98) (fun _ σ101 => if r8 = 0 then bnd (f_Reader_readAct r46 σ101) (fun r151 σ151 => if r151 = 0 then B_Reader_readClause_331 r46 0 σ151 else bnd (f_Reader_takeWord 5 σ151) (fun r160 σ160 => if r160 = (-1) then B_Reader_readClause_331 r46 1 σ160 else bnd (g_R 100 0 0 0 σ160) (fun r169 σ169 => if r169 = 0 then B_Reader_readClause_331 r46 0 σ169 else B_Reader_readClause_331 r46 1 σ169))) else if r8 = 1 then bnd (f_Reader_readAct r46 σ101) (fun r151 σ151 => if r151 = 0 then B_Reader_readClause_331 r46 0 σ151 else bnd (f_Reader_takeWord 5 σ151) (fun r160 σ160 => if r160 = (-1) then B_Reader_readClause_331 r46 1 σ160 else bnd (g_R 100 0 0 0 σ160) (fun r169 σ169 => if r169 = 0 then B_Reader_readClause_331 r46 0 σ169 else B_Reader_readClause_331 r46 1 σ169))) else if r8 = 2 then bnd (f_Reader_readAct r46 σ101) (fun r188 σ188 => B_Reader_readClause_331 r46 r188 σ188) else if r8 = 3 then bnd (f_Reader_readAct r46 σ101) (fun r199 σ199 => if r199 = 0 then B_Reader_readClause_331 r46 0 σ199 else bnd (f_Reader_needSign 61 σ199) (fun r208 σ208 => if r208 = 0 then B_Reader_readClause_331 r46 0 σ208 else bnd (g_R 100 3 0 0 σ208) (fun r216 σ216 => if r216 = 0 then B_Reader_readClause_331 r46 0 σ216 else B_Reader_readClause_331 r46 1 σ216))) else if r8 = 4 then bnd (f_Reader_readNumber r46 6 0 ((σ101.1 57) - 1) σ101) (fun r244 σ244 => B_Reader_readClause_331 r46 r244 σ244) else if r8 = 5 then bnd (f_Reader_readHeirs r46 σ101) (fun r255 σ255 => B_Reader_readClause_331 r46 r255 σ255) else if r8 = 6 then bnd (f_Reader_readNumber r46 6 1 4000 σ101) (fun r272 σ272 => if r272 = 0 then B_Reader_readClause_331 r46 0 σ272 else bnd (f_Reader_readNumber r46 7 1 4000 σ272) (fun r287 σ287 => if r287 = 0 then B_Reader_readClause_331 r46 0 σ287 else bnd (f_Reader_readNumber r46 8 1 4000 σ287) (fun r302 σ302 => if r302 = 0 then B_Reader_readClause_331 r46 0 σ302 else B_Reader_readClause_331 r46 1 σ302))) else bnd (f_Reader_readNumber r46 6 1 60 σ101) (fun r326 σ326 => B_Reader_readClause_331 r46 r326 σ326))))))) else bnd (f_Reader_fail 3 (σ.1 56) σ8) (fun r37 σ37 => some (0, σ37)))
set_option maxHeartbeats 4000000 in
set_option maxRecDepth 100000 in
theorem c_Reader_readClause {l : Launch} {g : EG} {ad ta : Nat → Nat} {Rr : va_W} {σ σ' : CS} {r : Int32} {p0 : Int32}  (h : f_Reader_readClause p0 σ = some (r, σ')) (hφ2 : ph σ.2.2 ≤ BB) : CtV l g yX6_readClause (.code yX6_readClause cX6_readClause 6 none) 1001 40023 ad ta Rr σ [.ref (ad 4), .int p0] r σ' := by
  refine Ct.of rfl (by decide) (Nat.le_of_ble_eq_true rfl) ?_
  intro p e s m args below meth c A C hr
  have hφ : ph σ.2.2 ≤ ph σ.2.2 := Nat.le_refl _
  refine nw_zero (ph σ.2.2) ?_
  show NV g p l e s m args below meth c A 1001 40023 6 ad Rr (ph σ.2.2) (r, σ') ta σ [(0, .ref (ad 4)), (1, .int p0)] 0 []
  unfold f_Reader_readClause at h
  refine nw_aload_n C dX6_readClause_0 rfl 0 rfl ?_
  refine nw_get (v := .int (σ.1 56)) C in_X6 4 cl_Reader rfl 4 (by decide) tw_253 rfl rfl dX6_readClause_1 ?_
  refine nw_istore_n (lv' := [(2, .int (σ.1 56)), (0, .ref (ad 4)), (1, .int p0)]) C dX6_readClause_4 rfl (by decide) rfl ?_
  refine nw_aload_n C dX6_readClause_5 rfl 1 rfl ?_
  refine nw_lds (i := 3) C (by decide) rfl rfl dX6_readClause_6 ?_
  refine nc_callVI (q0 := 4) (As := [.ref (gK g 3)]) (rest := []) C h (fun _ _ e => c_Reader_takeWord 3 (by decide) e hφ2) tw_1096 kv_X6_takeWord cl_Reader rfl ⟨Nat.le_of_ble_eq_true rfl, Nat.le_of_ble_eq_true rfl⟩ rfl dX6_readClause_8 rfl (Nat.le_of_ble_eq_true rfl) hφ hφ2 (fun r8 σ8 ta h hφ hφ2 => ?_)
  refine nw_istore_n (lv' := [(3, .int r8), (2, .int (σ.1 56)), (0, .ref (ad 4)), (1, .int p0)]) C dX6_readClause_11 rfl (by decide) rfl ?_
  refine nw_iload_n C dX6_readClause_12 rfl 0 rfl ?_
  refine nw_iconst (v := (-1)) C dX6_readClause_13 (by decide) ?_
  refine nw_icmp_ne (tgt := 28) C dX6_readClause_14 (by decide) h (fun _ h => ?_) (fun _ h => ?_)
  · refine nw_aload_n C dX6_readClause_17 rfl 2 rfl ?_
    refine nw_iconst (v := 1) C dX6_readClause_18 (by decide) ?_
    refine nw_aload_n C dX6_readClause_19 rfl 2 rfl ?_
    refine nw_get (v := .int (σ8.1 56)) C in_X6 4 cl_Reader rfl 4 (by decide) tw_253 rfl rfl dX6_readClause_20 ?_
    refine nc_callVI (q0 := 4) (As := [.int 1, .int (σ8.1 56)]) (rest := []) C h (fun _ _ e => c_Reader_fail e hφ2) tw_1156 kv_X6_fail cl_Reader rfl ⟨Nat.le_of_ble_eq_true rfl, Nat.le_of_ble_eq_true rfl⟩ rfl dX6_readClause_23 rfl (Nat.le_of_ble_eq_true rfl) hφ hφ2 (fun r23 σ23 ta h hφ hφ2 => ?_)
    refine nw_pop C dX6_readClause_26 rfl ?_
    exact nc_vret C hr dX6_readClause_27 hφ hφ2 h
  · refine nw_iload_n C dX6_readClause_28 rfl 3 rfl ?_
    refine nw_bipush (v := 12) C dX6_readClause_29 (by decide) ?_
    refine nw_icmp_lt (tgt := 42) C dX6_readClause_31 (by decide) h (fun _ h => ?_) (fun _ h => ?_)
    · refine nw_aload_n C dX6_readClause_42 rfl 2 rfl ?_
      refine nw_get (v := .ref (ad 15)) C in_X6 4 cl_Reader rfl 1 (by decide) tw_250 rfl rfl dX6_readClause_43 ?_
      refine nc_callVI (q0 := 15) (As := []) (rest := []) C h (fun _ _ e => c_Table_add 4 (by decide) e hφ2) tw_1160 kv_X9_add (cl_T 4 (by decide)) rfl ⟨Nat.le_of_ble_eq_true rfl, Nat.le_of_ble_eq_true rfl⟩ rfl dX6_readClause_46 rfl (Nat.le_of_ble_eq_true rfl) hφ hφ2 (fun r46 σ46 ta h hφ hφ2 => ?_)
      refine nw_istore (lv' := [(4, .int r46), (3, .int r8), (2, .int (σ.1 56)), (0, .ref (ad 4)), (1, .int p0)]) C dX6_readClause_49 (by decide) rfl ?_
      refine nw_aload_n C dX6_readClause_51 rfl 3 rfl ?_
      refine nw_get (v := .ref (ad 15)) C in_X6 4 cl_Reader rfl 1 (by decide) tw_250 rfl rfl dX6_readClause_52 ?_
      refine nw_iload C dX6_readClause_55 0 rfl ?_
      refine nw_iconst (v := 0) C dX6_readClause_57 (by decide) ?_
      refine nw_aload_n C dX6_readClause_58 rfl 3 rfl ?_
      refine nw_get (v := .int (σ46.1 57)) C in_X6 4 cl_Reader rfl 5 (by decide) tw_254 rfl rfl dX6_readClause_59 ?_
      refine nc_callVV (q0 := 15) (As := [.int r46, .int 0, .int (σ46.1 57)]) (rest := []) C h (fun _ _ e => c_Table_put 4 (by decide) e hφ2) tw_1161 kv_X9_put (cl_T 4 (by decide)) rfl ⟨Nat.le_of_ble_eq_true rfl, Nat.le_of_ble_eq_true rfl⟩ rfl dX6_readClause_62 rfl (Nat.le_of_ble_eq_true rfl) hφ hφ2 (fun r62 σ62 ta h hφ hφ2 => ?_)
      refine nw_aload_n C dX6_readClause_65 rfl 3 rfl ?_
      refine nw_get (v := .ref (ad 15)) C in_X6 4 cl_Reader rfl 1 (by decide) tw_250 rfl rfl dX6_readClause_66 ?_
      refine nw_iload C dX6_readClause_69 0 rfl ?_
      refine nw_iconst (v := 1) C dX6_readClause_71 (by decide) ?_
      refine nw_iload_n C dX6_readClause_72 rfl 4 rfl ?_
      refine nc_callVV (q0 := 15) (As := [.int r46, .int 1, .int p0]) (rest := []) C h (fun _ _ e => c_Table_put 4 (by decide) e hφ2) tw_1161 kv_X9_put (cl_T 4 (by decide)) rfl ⟨Nat.le_of_ble_eq_true rfl, Nat.le_of_ble_eq_true rfl⟩ rfl dX6_readClause_73 rfl (Nat.le_of_ble_eq_true rfl) hφ hφ2 (fun r73 σ73 ta h hφ hφ2 => ?_)
      refine nw_aload_n C dX6_readClause_76 rfl 3 rfl ?_
      refine nw_get (v := .ref (ad 15)) C in_X6 4 cl_Reader rfl 1 (by decide) tw_250 rfl rfl dX6_readClause_77 ?_
      refine nw_iload C dX6_readClause_80 0 rfl ?_
      refine nw_iconst (v := 2) C dX6_readClause_82 (by decide) ?_
      refine nw_iload_n C dX6_readClause_83 rfl 1 rfl ?_
      refine nc_callVV (q0 := 15) (As := [.int r46, .int 2, .int r8]) (rest := []) C h (fun _ _ e => c_Table_put 4 (by decide) e hφ2) tw_1161 kv_X9_put (cl_T 4 (by decide)) rfl ⟨Nat.le_of_ble_eq_true rfl, Nat.le_of_ble_eq_true rfl⟩ rfl dX6_readClause_84 rfl (Nat.le_of_ble_eq_true rfl) hφ hφ2 (fun r84 σ84 ta h hφ hφ2 => ?_)
      refine nw_aload_n C dX6_readClause_87 rfl 3 rfl ?_
      refine nw_get (v := .ref (ad 15)) C in_X6 4 cl_Reader rfl 1 (by decide) tw_250 rfl rfl dX6_readClause_88 ?_
      refine nw_iload C dX6_readClause_91 0 rfl ?_
      refine nw_iconst (v := 4) C dX6_readClause_93 (by decide) ?_
      refine nw_aload_n C dX6_readClause_94 rfl 3 rfl ?_
      refine nw_get (v := .ref (ad 16)) C in_X6 4 cl_Reader rfl 2 (by decide) tw_251 rfl rfl dX6_readClause_95 ?_
      refine nc_callVI (q0 := 16) (As := []) (rest := [.int 4, .int r46, .ref (ad 15)]) C h (fun _ _ e => c_Table_size 5 (by decide) e hφ2) tw_1081 kv_X9_size (cl_T 5 (by decide)) rfl ⟨Nat.le_of_ble_eq_true rfl, Nat.le_of_ble_eq_true rfl⟩ rfl dX6_readClause_98 rfl (Nat.le_of_ble_eq_true rfl) hφ hφ2 (fun r98 σ98 ta h hφ hφ2 => ?_)
      refine nc_callVV (q0 := 15) (As := [.int r46, .int 4, .int r98]) (rest := []) C h (fun _ _ e => c_Table_put 4 (by decide) e hφ2) tw_1161 kv_X9_put (cl_T 4 (by decide)) rfl ⟨Nat.le_of_ble_eq_true rfl, Nat.le_of_ble_eq_true rfl⟩ rfl dX6_readClause_101 rfl (Nat.le_of_ble_eq_true rfl) hφ hφ2 (fun r101 σ101 ta h hφ hφ2 => ?_)
      refine nw_iload_n C dX6_readClause_104 rfl 1 rfl ?_
      refine nw_tsCase (tgt := 148) C 0 dX6_readClause_105 (by decide) (by decide) rfl (by decide) h (fun _ h => ?_) (fun hc0 h => ?_)
      · refine nw_aload_n C dX6_readClause_148 rfl 3 rfl ?_
        refine nw_iload C dX6_readClause_149 0 rfl ?_
        refine nc_callVI (q0 := 4) (As := [.int r46]) (rest := []) C h (fun _ _ e => c_Reader_readAct e hφ2) tw_1162 kv_X6_readAct cl_Reader rfl ⟨Nat.le_of_ble_eq_true rfl, Nat.le_of_ble_eq_true rfl⟩ rfl dX6_readClause_151 rfl (Nat.le_of_ble_eq_true rfl) hφ hφ2 (fun r151 σ151 ta h hφ hφ2 => ?_)
        refine nw_if_eq (tgt := 179) C dX6_readClause_154 (by decide) h (fun _ h => ?_) (fun _ h => ?_)
        · refine nw_iconst (v := 0) C dX6_readClause_179 (by decide) ?_
          refine nw_istore (lv' := [(5, .int 0), (4, .int r46), (3, .int r8), (2, .int (σ.1 56)), (0, .ref (ad 4)), (1, .int p0)]) C dX6_readClause_180 (by decide) rfl ?_
          refine nw_goto (tgt := 331) C dX6_readClause_182 (by decide) ?_
          exact nw_lv (lv' := [(0, .ref (ad 4)), (4, .int r46), (5, .int 0)]) [4, 1, 0] rfl (w_Reader_readClause_331 C hr r46 0 _ _ hφ hφ2 h)
        · refine nw_aload_n C dX6_readClause_157 rfl 3 rfl ?_
          refine nw_lds (i := 5) C (by decide) rfl rfl dX6_readClause_158 ?_
          refine nc_callVI (q0 := 4) (As := [.ref (gK g 5)]) (rest := []) C h (fun _ _ e => c_Reader_takeWord 5 (by decide) e hφ2) tw_1096 kv_X6_takeWord cl_Reader rfl ⟨Nat.le_of_ble_eq_true rfl, Nat.le_of_ble_eq_true rfl⟩ rfl dX6_readClause_160 rfl (Nat.le_of_ble_eq_true rfl) hφ hφ2 (fun r160 σ160 ta h hφ hφ2 => ?_)
          refine nw_iconst (v := (-1)) C dX6_readClause_163 (by decide) ?_
          refine nw_icmp_eq (tgt := 175) C dX6_readClause_164 (by decide) h (fun _ h => ?_) (fun _ h => ?_)
          · refine nw_iconst (v := 1) C dX6_readClause_175 (by decide) ?_
            refine nw_goto (tgt := 180) C dX6_readClause_176 (by decide) ?_
            refine nw_istore (lv' := [(5, .int 1), (4, .int r46), (3, .int r8), (2, .int (σ.1 56)), (0, .ref (ad 4)), (1, .int p0)]) C dX6_readClause_180 (by decide) rfl ?_
            refine nw_goto (tgt := 331) C dX6_readClause_182 (by decide) ?_
            exact nw_lv (lv' := [(0, .ref (ad 4)), (4, .int r46), (5, .int 1)]) [4, 1, 0] rfl (w_Reader_readClause_331 C hr r46 1 _ _ hφ hφ2 h)
          · refine nw_aload_n C dX6_readClause_167 rfl 3 rfl ?_
            refine nw_iconst (v := 0) C dX6_readClause_168 (by decide) ?_
            refine nc_callVI (q0 := 4) (As := [.int 0]) (rest := []) C h (fun _ _ e => cg_Reader_readEither 100 e hφ2) tw_1168 kv_X6_readEither cl_Reader rfl ⟨Nat.le_of_ble_eq_true rfl, Nat.le_of_ble_eq_true rfl⟩ rfl dX6_readClause_169 rfl (Nat.le_of_ble_eq_true rfl) hφ hφ2 (fun r169 σ169 ta h hφ hφ2 => ?_)
            refine nw_if_eq (tgt := 179) C dX6_readClause_172 (by decide) h (fun _ h => ?_) (fun _ h => ?_)
            · refine nw_iconst (v := 0) C dX6_readClause_179 (by decide) ?_
              refine nw_istore (lv' := [(5, .int 0), (4, .int r46), (3, .int r8), (2, .int (σ.1 56)), (0, .ref (ad 4)), (1, .int p0)]) C dX6_readClause_180 (by decide) rfl ?_
              refine nw_goto (tgt := 331) C dX6_readClause_182 (by decide) ?_
              exact nw_lv (lv' := [(0, .ref (ad 4)), (4, .int r46), (5, .int 0)]) [4, 1, 0] rfl (w_Reader_readClause_331 C hr r46 0 _ _ hφ hφ2 h)
            · refine nw_iconst (v := 1) C dX6_readClause_175 (by decide) ?_
              refine nw_goto (tgt := 180) C dX6_readClause_176 (by decide) ?_
              refine nw_istore (lv' := [(5, .int 1), (4, .int r46), (3, .int r8), (2, .int (σ.1 56)), (0, .ref (ad 4)), (1, .int p0)]) C dX6_readClause_180 (by decide) rfl ?_
              refine nw_goto (tgt := 331) C dX6_readClause_182 (by decide) ?_
              exact nw_lv (lv' := [(0, .ref (ad 4)), (4, .int r46), (5, .int 1)]) [4, 1, 0] rfl (w_Reader_readClause_331 C hr r46 1 _ _ hφ hφ2 h)
      · refine nw_tsCase (tgt := 148) C 1 dX6_readClause_105 (by decide) (by decide) rfl (by decide) h (fun _ h => ?_) (fun hc1 h => ?_)
        · refine nw_aload_n C dX6_readClause_148 rfl 3 rfl ?_
          refine nw_iload C dX6_readClause_149 0 rfl ?_
          refine nc_callVI (q0 := 4) (As := [.int r46]) (rest := []) C h (fun _ _ e => c_Reader_readAct e hφ2) tw_1162 kv_X6_readAct cl_Reader rfl ⟨Nat.le_of_ble_eq_true rfl, Nat.le_of_ble_eq_true rfl⟩ rfl dX6_readClause_151 rfl (Nat.le_of_ble_eq_true rfl) hφ hφ2 (fun r151 σ151 ta h hφ hφ2 => ?_)
          refine nw_if_eq (tgt := 179) C dX6_readClause_154 (by decide) h (fun _ h => ?_) (fun _ h => ?_)
          · refine nw_iconst (v := 0) C dX6_readClause_179 (by decide) ?_
            refine nw_istore (lv' := [(5, .int 0), (4, .int r46), (3, .int r8), (2, .int (σ.1 56)), (0, .ref (ad 4)), (1, .int p0)]) C dX6_readClause_180 (by decide) rfl ?_
            refine nw_goto (tgt := 331) C dX6_readClause_182 (by decide) ?_
            exact nw_lv (lv' := [(0, .ref (ad 4)), (4, .int r46), (5, .int 0)]) [4, 1, 0] rfl (w_Reader_readClause_331 C hr r46 0 _ _ hφ hφ2 h)
          · refine nw_aload_n C dX6_readClause_157 rfl 3 rfl ?_
            refine nw_lds (i := 5) C (by decide) rfl rfl dX6_readClause_158 ?_
            refine nc_callVI (q0 := 4) (As := [.ref (gK g 5)]) (rest := []) C h (fun _ _ e => c_Reader_takeWord 5 (by decide) e hφ2) tw_1096 kv_X6_takeWord cl_Reader rfl ⟨Nat.le_of_ble_eq_true rfl, Nat.le_of_ble_eq_true rfl⟩ rfl dX6_readClause_160 rfl (Nat.le_of_ble_eq_true rfl) hφ hφ2 (fun r160 σ160 ta h hφ hφ2 => ?_)
            refine nw_iconst (v := (-1)) C dX6_readClause_163 (by decide) ?_
            refine nw_icmp_eq (tgt := 175) C dX6_readClause_164 (by decide) h (fun _ h => ?_) (fun _ h => ?_)
            · refine nw_iconst (v := 1) C dX6_readClause_175 (by decide) ?_
              refine nw_goto (tgt := 180) C dX6_readClause_176 (by decide) ?_
              refine nw_istore (lv' := [(5, .int 1), (4, .int r46), (3, .int r8), (2, .int (σ.1 56)), (0, .ref (ad 4)), (1, .int p0)]) C dX6_readClause_180 (by decide) rfl ?_
              refine nw_goto (tgt := 331) C dX6_readClause_182 (by decide) ?_
              exact nw_lv (lv' := [(0, .ref (ad 4)), (4, .int r46), (5, .int 1)]) [4, 1, 0] rfl (w_Reader_readClause_331 C hr r46 1 _ _ hφ hφ2 h)
            · refine nw_aload_n C dX6_readClause_167 rfl 3 rfl ?_
              refine nw_iconst (v := 0) C dX6_readClause_168 (by decide) ?_
              refine nc_callVI (q0 := 4) (As := [.int 0]) (rest := []) C h (fun _ _ e => cg_Reader_readEither 100 e hφ2) tw_1168 kv_X6_readEither cl_Reader rfl ⟨Nat.le_of_ble_eq_true rfl, Nat.le_of_ble_eq_true rfl⟩ rfl dX6_readClause_169 rfl (Nat.le_of_ble_eq_true rfl) hφ hφ2 (fun r169 σ169 ta h hφ hφ2 => ?_)
              refine nw_if_eq (tgt := 179) C dX6_readClause_172 (by decide) h (fun _ h => ?_) (fun _ h => ?_)
              · refine nw_iconst (v := 0) C dX6_readClause_179 (by decide) ?_
                refine nw_istore (lv' := [(5, .int 0), (4, .int r46), (3, .int r8), (2, .int (σ.1 56)), (0, .ref (ad 4)), (1, .int p0)]) C dX6_readClause_180 (by decide) rfl ?_
                refine nw_goto (tgt := 331) C dX6_readClause_182 (by decide) ?_
                exact nw_lv (lv' := [(0, .ref (ad 4)), (4, .int r46), (5, .int 0)]) [4, 1, 0] rfl (w_Reader_readClause_331 C hr r46 0 _ _ hφ hφ2 h)
              · refine nw_iconst (v := 1) C dX6_readClause_175 (by decide) ?_
                refine nw_goto (tgt := 180) C dX6_readClause_176 (by decide) ?_
                refine nw_istore (lv' := [(5, .int 1), (4, .int r46), (3, .int r8), (2, .int (σ.1 56)), (0, .ref (ad 4)), (1, .int p0)]) C dX6_readClause_180 (by decide) rfl ?_
                refine nw_goto (tgt := 331) C dX6_readClause_182 (by decide) ?_
                exact nw_lv (lv' := [(0, .ref (ad 4)), (4, .int r46), (5, .int 1)]) [4, 1, 0] rfl (w_Reader_readClause_331 C hr r46 1 _ _ hφ hφ2 h)
        · refine nw_tsCase (tgt := 185) C 2 dX6_readClause_105 (by decide) (by decide) rfl (by decide) h (fun _ h => ?_) (fun hc2 h => ?_)
          · refine nw_aload_n C dX6_readClause_185 rfl 3 rfl ?_
            refine nw_iload C dX6_readClause_186 0 rfl ?_
            refine nc_callVI (q0 := 4) (As := [.int r46]) (rest := []) C h (fun _ _ e => c_Reader_readAct e hφ2) tw_1162 kv_X6_readAct cl_Reader rfl ⟨Nat.le_of_ble_eq_true rfl, Nat.le_of_ble_eq_true rfl⟩ rfl dX6_readClause_188 rfl (Nat.le_of_ble_eq_true rfl) hφ hφ2 (fun r188 σ188 ta h hφ hφ2 => ?_)
            refine nw_istore (lv' := [(5, .int r188), (4, .int r46), (3, .int r8), (2, .int (σ.1 56)), (0, .ref (ad 4)), (1, .int p0)]) C dX6_readClause_191 (by decide) rfl ?_
            refine nw_goto (tgt := 331) C dX6_readClause_193 (by decide) ?_
            exact nw_lv (lv' := [(0, .ref (ad 4)), (4, .int r46), (5, .int r188)]) [4, 1, 0] rfl (w_Reader_readClause_331 C hr r46 r188 _ _ hφ hφ2 h)
          · refine nw_tsCase (tgt := 196) C 3 dX6_readClause_105 (by decide) (by decide) rfl (by decide) h (fun _ h => ?_) (fun hc3 h => ?_)
            · refine nw_aload_n C dX6_readClause_196 rfl 3 rfl ?_
              refine nw_iload C dX6_readClause_197 0 rfl ?_
              refine nc_callVI (q0 := 4) (As := [.int r46]) (rest := []) C h (fun _ _ e => c_Reader_readAct e hφ2) tw_1162 kv_X6_readAct cl_Reader rfl ⟨Nat.le_of_ble_eq_true rfl, Nat.le_of_ble_eq_true rfl⟩ rfl dX6_readClause_199 rfl (Nat.le_of_ble_eq_true rfl) hφ hφ2 (fun r199 σ199 ta h hφ hφ2 => ?_)
              refine nw_if_eq (tgt := 226) C dX6_readClause_202 (by decide) h (fun _ h => ?_) (fun _ h => ?_)
              · refine nw_iconst (v := 0) C dX6_readClause_226 (by decide) ?_
                refine nw_istore (lv' := [(5, .int 0), (4, .int r46), (3, .int r8), (2, .int (σ.1 56)), (0, .ref (ad 4)), (1, .int p0)]) C dX6_readClause_227 (by decide) rfl ?_
                refine nw_goto (tgt := 331) C dX6_readClause_229 (by decide) ?_
                exact nw_lv (lv' := [(0, .ref (ad 4)), (4, .int r46), (5, .int 0)]) [4, 1, 0] rfl (w_Reader_readClause_331 C hr r46 0 _ _ hφ hφ2 h)
              · refine nw_aload_n C dX6_readClause_205 rfl 3 rfl ?_
                refine nw_bipush (v := 61) C dX6_readClause_206 (by decide) ?_
                refine nc_callVI (q0 := 4) (As := [.int 61]) (rest := []) C h (fun _ _ e => c_Reader_needSign e hφ2) tw_1197 kv_X6_needSign cl_Reader rfl ⟨Nat.le_of_ble_eq_true rfl, Nat.le_of_ble_eq_true rfl⟩ rfl dX6_readClause_208 rfl (Nat.le_of_ble_eq_true rfl) hφ hφ2 (fun r208 σ208 ta h hφ hφ2 => ?_)
                refine nw_if_eq (tgt := 226) C dX6_readClause_211 (by decide) h (fun _ h => ?_) (fun _ h => ?_)
                · refine nw_iconst (v := 0) C dX6_readClause_226 (by decide) ?_
                  refine nw_istore (lv' := [(5, .int 0), (4, .int r46), (3, .int r8), (2, .int (σ.1 56)), (0, .ref (ad 4)), (1, .int p0)]) C dX6_readClause_227 (by decide) rfl ?_
                  refine nw_goto (tgt := 331) C dX6_readClause_229 (by decide) ?_
                  exact nw_lv (lv' := [(0, .ref (ad 4)), (4, .int r46), (5, .int 0)]) [4, 1, 0] rfl (w_Reader_readClause_331 C hr r46 0 _ _ hφ hφ2 h)
                · refine nw_aload_n C dX6_readClause_214 rfl 3 rfl ?_
                  refine nw_iconst (v := 0) C dX6_readClause_215 (by decide) ?_
                  refine nc_callVI (q0 := 4) (As := [.int 0]) (rest := []) C h (fun _ _ e => cg_Reader_readSum 100 e hφ2) tw_1201 kv_X6_readSum cl_Reader rfl ⟨Nat.le_of_ble_eq_true rfl, Nat.le_of_ble_eq_true rfl⟩ rfl dX6_readClause_216 rfl (Nat.le_of_ble_eq_true rfl) hφ hφ2 (fun r216 σ216 ta h hφ hφ2 => ?_)
                  refine nw_if_eq (tgt := 226) C dX6_readClause_219 (by decide) h (fun _ h => ?_) (fun _ h => ?_)
                  · refine nw_iconst (v := 0) C dX6_readClause_226 (by decide) ?_
                    refine nw_istore (lv' := [(5, .int 0), (4, .int r46), (3, .int r8), (2, .int (σ.1 56)), (0, .ref (ad 4)), (1, .int p0)]) C dX6_readClause_227 (by decide) rfl ?_
                    refine nw_goto (tgt := 331) C dX6_readClause_229 (by decide) ?_
                    exact nw_lv (lv' := [(0, .ref (ad 4)), (4, .int r46), (5, .int 0)]) [4, 1, 0] rfl (w_Reader_readClause_331 C hr r46 0 _ _ hφ hφ2 h)
                  · refine nw_iconst (v := 1) C dX6_readClause_222 (by decide) ?_
                    refine nw_goto (tgt := 227) C dX6_readClause_223 (by decide) ?_
                    refine nw_istore (lv' := [(5, .int 1), (4, .int r46), (3, .int r8), (2, .int (σ.1 56)), (0, .ref (ad 4)), (1, .int p0)]) C dX6_readClause_227 (by decide) rfl ?_
                    refine nw_goto (tgt := 331) C dX6_readClause_229 (by decide) ?_
                    exact nw_lv (lv' := [(0, .ref (ad 4)), (4, .int r46), (5, .int 1)]) [4, 1, 0] rfl (w_Reader_readClause_331 C hr r46 1 _ _ hφ hφ2 h)
            · refine nw_tsCase (tgt := 232) C 4 dX6_readClause_105 (by decide) (by decide) rfl (by decide) h (fun _ h => ?_) (fun hc4 h => ?_)
              · refine nw_aload_n C dX6_readClause_232 rfl 3 rfl ?_
                refine nw_iload C dX6_readClause_233 0 rfl ?_
                refine nw_bipush (v := 6) C dX6_readClause_235 (by decide) ?_
                refine nw_iconst (v := 0) C dX6_readClause_237 (by decide) ?_
                refine nw_aload_n C dX6_readClause_238 rfl 3 rfl ?_
                refine nw_get (v := .int (σ101.1 57)) C in_X6 4 cl_Reader rfl 5 (by decide) tw_254 rfl rfl dX6_readClause_239 ?_
                refine nw_iconst (v := 1) C dX6_readClause_242 (by decide) ?_
                refine nw_isub C dX6_readClause_243 ?_
                refine nc_callVI (q0 := 4) (As := [.int r46, .int 6, .int 0, .int ((σ101.1 57) - 1)]) (rest := []) C h (fun _ _ e => c_Reader_readNumber e hφ2) tw_1229 kv_X6_readNumber cl_Reader rfl ⟨Nat.le_of_ble_eq_true rfl, Nat.le_of_ble_eq_true rfl⟩ rfl dX6_readClause_244 rfl (Nat.le_of_ble_eq_true rfl) hφ hφ2 (fun r244 σ244 ta h hφ hφ2 => ?_)
                refine nw_istore (lv' := [(5, .int r244), (4, .int r46), (3, .int r8), (2, .int (σ.1 56)), (0, .ref (ad 4)), (1, .int p0)]) C dX6_readClause_247 (by decide) rfl ?_
                refine nw_goto (tgt := 331) C dX6_readClause_249 (by decide) ?_
                exact nw_lv (lv' := [(0, .ref (ad 4)), (4, .int r46), (5, .int r244)]) [4, 1, 0] rfl (w_Reader_readClause_331 C hr r46 r244 _ _ hφ hφ2 h)
              · refine nw_tsCase (tgt := 252) C 5 dX6_readClause_105 (by decide) (by decide) rfl (by decide) h (fun _ h => ?_) (fun hc5 h => ?_)
                · refine nw_aload_n C dX6_readClause_252 rfl 3 rfl ?_
                  refine nw_iload C dX6_readClause_253 0 rfl ?_
                  refine nc_callVI (q0 := 4) (As := [.int r46]) (rest := []) C h (fun _ _ e => c_Reader_readHeirs e hφ2) tw_1233 kv_X6_readHeirs cl_Reader rfl ⟨Nat.le_of_ble_eq_true rfl, Nat.le_of_ble_eq_true rfl⟩ rfl dX6_readClause_255 rfl (Nat.le_of_ble_eq_true rfl) hφ hφ2 (fun r255 σ255 ta h hφ hφ2 => ?_)
                  refine nw_istore (lv' := [(5, .int r255), (4, .int r46), (3, .int r8), (2, .int (σ.1 56)), (0, .ref (ad 4)), (1, .int p0)]) C dX6_readClause_258 (by decide) rfl ?_
                  refine nw_goto (tgt := 331) C dX6_readClause_260 (by decide) ?_
                  exact nw_lv (lv' := [(0, .ref (ad 4)), (4, .int r46), (5, .int r255)]) [4, 1, 0] rfl (w_Reader_readClause_331 C hr r46 r255 _ _ hφ hφ2 h)
                · refine nw_tsCase (tgt := 263) C 6 dX6_readClause_105 (by decide) (by decide) rfl (by decide) h (fun _ h => ?_) (fun hc6 h => ?_)
                  · refine nw_aload_n C dX6_readClause_263 rfl 3 rfl ?_
                    refine nw_iload C dX6_readClause_264 0 rfl ?_
                    refine nw_bipush (v := 6) C dX6_readClause_266 (by decide) ?_
                    refine nw_iconst (v := 1) C dX6_readClause_268 (by decide) ?_
                    refine nw_sipush (v := 4000) C dX6_readClause_269 (by decide) ?_
                    refine nc_callVI (q0 := 4) (As := [.int r46, .int 6, .int 1, .int 4000]) (rest := []) C h (fun _ _ e => c_Reader_readNumber e hφ2) tw_1229 kv_X6_readNumber cl_Reader rfl ⟨Nat.le_of_ble_eq_true rfl, Nat.le_of_ble_eq_true rfl⟩ rfl dX6_readClause_272 rfl (Nat.le_of_ble_eq_true rfl) hφ hφ2 (fun r272 σ272 ta h hφ hφ2 => ?_)
                    refine nw_if_eq (tgt := 312) C dX6_readClause_275 (by decide) h (fun _ h => ?_) (fun _ h => ?_)
                    · refine nw_iconst (v := 0) C dX6_readClause_312 (by decide) ?_
                      refine nw_istore (lv' := [(5, .int 0), (4, .int r46), (3, .int r8), (2, .int (σ.1 56)), (0, .ref (ad 4)), (1, .int p0)]) C dX6_readClause_313 (by decide) rfl ?_
                      refine nw_goto (tgt := 331) C dX6_readClause_315 (by decide) ?_
                      exact nw_lv (lv' := [(0, .ref (ad 4)), (4, .int r46), (5, .int 0)]) [4, 1, 0] rfl (w_Reader_readClause_331 C hr r46 0 _ _ hφ hφ2 h)
                    · refine nw_aload_n C dX6_readClause_278 rfl 3 rfl ?_
                      refine nw_iload C dX6_readClause_279 0 rfl ?_
                      refine nw_bipush (v := 7) C dX6_readClause_281 (by decide) ?_
                      refine nw_iconst (v := 1) C dX6_readClause_283 (by decide) ?_
                      refine nw_sipush (v := 4000) C dX6_readClause_284 (by decide) ?_
                      refine nc_callVI (q0 := 4) (As := [.int r46, .int 7, .int 1, .int 4000]) (rest := []) C h (fun _ _ e => c_Reader_readNumber e hφ2) tw_1229 kv_X6_readNumber cl_Reader rfl ⟨Nat.le_of_ble_eq_true rfl, Nat.le_of_ble_eq_true rfl⟩ rfl dX6_readClause_287 rfl (Nat.le_of_ble_eq_true rfl) hφ hφ2 (fun r287 σ287 ta h hφ hφ2 => ?_)
                      refine nw_if_eq (tgt := 312) C dX6_readClause_290 (by decide) h (fun _ h => ?_) (fun _ h => ?_)
                      · refine nw_iconst (v := 0) C dX6_readClause_312 (by decide) ?_
                        refine nw_istore (lv' := [(5, .int 0), (4, .int r46), (3, .int r8), (2, .int (σ.1 56)), (0, .ref (ad 4)), (1, .int p0)]) C dX6_readClause_313 (by decide) rfl ?_
                        refine nw_goto (tgt := 331) C dX6_readClause_315 (by decide) ?_
                        exact nw_lv (lv' := [(0, .ref (ad 4)), (4, .int r46), (5, .int 0)]) [4, 1, 0] rfl (w_Reader_readClause_331 C hr r46 0 _ _ hφ hφ2 h)
                      · refine nw_aload_n C dX6_readClause_293 rfl 3 rfl ?_
                        refine nw_iload C dX6_readClause_294 0 rfl ?_
                        refine nw_bipush (v := 8) C dX6_readClause_296 (by decide) ?_
                        refine nw_iconst (v := 1) C dX6_readClause_298 (by decide) ?_
                        refine nw_sipush (v := 4000) C dX6_readClause_299 (by decide) ?_
                        refine nc_callVI (q0 := 4) (As := [.int r46, .int 8, .int 1, .int 4000]) (rest := []) C h (fun _ _ e => c_Reader_readNumber e hφ2) tw_1229 kv_X6_readNumber cl_Reader rfl ⟨Nat.le_of_ble_eq_true rfl, Nat.le_of_ble_eq_true rfl⟩ rfl dX6_readClause_302 rfl (Nat.le_of_ble_eq_true rfl) hφ hφ2 (fun r302 σ302 ta h hφ hφ2 => ?_)
                        refine nw_if_eq (tgt := 312) C dX6_readClause_305 (by decide) h (fun _ h => ?_) (fun _ h => ?_)
                        · refine nw_iconst (v := 0) C dX6_readClause_312 (by decide) ?_
                          refine nw_istore (lv' := [(5, .int 0), (4, .int r46), (3, .int r8), (2, .int (σ.1 56)), (0, .ref (ad 4)), (1, .int p0)]) C dX6_readClause_313 (by decide) rfl ?_
                          refine nw_goto (tgt := 331) C dX6_readClause_315 (by decide) ?_
                          exact nw_lv (lv' := [(0, .ref (ad 4)), (4, .int r46), (5, .int 0)]) [4, 1, 0] rfl (w_Reader_readClause_331 C hr r46 0 _ _ hφ hφ2 h)
                        · refine nw_iconst (v := 1) C dX6_readClause_308 (by decide) ?_
                          refine nw_goto (tgt := 313) C dX6_readClause_309 (by decide) ?_
                          refine nw_istore (lv' := [(5, .int 1), (4, .int r46), (3, .int r8), (2, .int (σ.1 56)), (0, .ref (ad 4)), (1, .int p0)]) C dX6_readClause_313 (by decide) rfl ?_
                          refine nw_goto (tgt := 331) C dX6_readClause_315 (by decide) ?_
                          exact nw_lv (lv' := [(0, .ref (ad 4)), (4, .int r46), (5, .int 1)]) [4, 1, 0] rfl (w_Reader_readClause_331 C hr r46 1 _ _ hφ hφ2 h)
                  · refine nw_tsOut (tgt := 318) C dX6_readClause_105 (by have q0 := lv_neT hc0 (a := 0) (by decide); have q1 := lv_neT hc1 (a := 1) (by decide); have q2 := lv_neT hc2 (a := 2) (by decide); have q3 := lv_neT hc3 (a := 3) (by decide); have q4 := lv_neT hc4 (a := 4) (by decide); have q5 := lv_neT hc5 (a := 5) (by decide); have q6 := lv_neT hc6 (a := 6) (by decide); omega) (by decide) ?_
                    refine nw_aload_n C dX6_readClause_318 rfl 3 rfl ?_
                    refine nw_iload C dX6_readClause_319 0 rfl ?_
                    refine nw_bipush (v := 6) C dX6_readClause_321 (by decide) ?_
                    refine nw_iconst (v := 1) C dX6_readClause_323 (by decide) ?_
                    refine nw_bipush (v := 60) C dX6_readClause_324 (by decide) ?_
                    refine nc_callVI (q0 := 4) (As := [.int r46, .int 6, .int 1, .int 60]) (rest := []) C h (fun _ _ e => c_Reader_readNumber e hφ2) tw_1229 kv_X6_readNumber cl_Reader rfl ⟨Nat.le_of_ble_eq_true rfl, Nat.le_of_ble_eq_true rfl⟩ rfl dX6_readClause_326 rfl (Nat.le_of_ble_eq_true rfl) hφ hφ2 (fun r326 σ326 ta h hφ hφ2 => ?_)
                    refine nw_istore (lv' := [(5, .int r326), (4, .int r46), (3, .int r8), (2, .int (σ.1 56)), (0, .ref (ad 4)), (1, .int p0)]) C dX6_readClause_329 (by decide) rfl ?_
                    exact nw_lv (lv' := [(0, .ref (ad 4)), (4, .int r46), (5, .int r326)]) [4, 1, 0] rfl (w_Reader_readClause_331 C hr r46 r326 _ _ hφ hφ2 h)
    · refine nw_aload_n C dX6_readClause_34 rfl 2 rfl ?_
      refine nw_iconst (v := 3) C dX6_readClause_35 (by decide) ?_
      refine nw_iload_n C dX6_readClause_36 rfl 1 rfl ?_
      refine nc_callVI (q0 := 4) (As := [.int 3, .int (σ.1 56)]) (rest := []) C h (fun _ _ e => c_Reader_fail e hφ2) tw_1156 kv_X6_fail cl_Reader rfl ⟨Nat.le_of_ble_eq_true rfl, Nat.le_of_ble_eq_true rfl⟩ rfl dX6_readClause_37 rfl (Nat.le_of_ble_eq_true rfl) hφ hφ2 (fun r37 σ37 ta h hφ hφ2 => ?_)
      refine nw_pop C dX6_readClause_40 rfl ?_
      exact nc_vret C hr dX6_readClause_41 hφ hφ2 h
end
