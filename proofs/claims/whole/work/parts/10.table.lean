section
variable {g : EG} {p : Program} {l : Launch} {e : Env} {s : State} {m : MethodId} {args : Array Value} {below : List Frame} {meth : Method} {c : Code} {A : Nat → Prop} {ad am ta : Nat → Nat} {Rr : va_W} {φ0 : Nat}
theorem dX9_size_0 : decode cX9_size 0 = .ok (.aload_n 0, 1) := by decide +kernel
theorem dX9_size_1 : decode cX9_size 1 = .ok (.getfield 28, 3) := by decide +kernel
theorem dX9_size_4 : decode cX9_size 4 = .ok (.ireturn, 1) := by decide +kernel
def f_Table_size (t : Nat)  (σ : CS) : Option (Int32 × CS) := some ((σ.1 (3 * t + 2)), σ)
set_option maxHeartbeats 4000000 in
set_option maxRecDepth 100000 in
theorem c_Table_size {l : Launch} {g : EG} {ad ta : Nat → Nat} {Rr : va_W} {σ σ' : CS} {r : Int32}  (t : Nat) (ht : t < 16) (h : f_Table_size t σ = some (r, σ')) (hφ2 : ph σ.2.2 ≤ BB) : CtI l g yX9_size (.code yX9_size cX9_size 1 (some .int)) 0 0 ad ta Rr σ [.ref (ad (11 + t))] r σ' := by
  refine Ct.of rfl (by decide) (Nat.le_of_ble_eq_true rfl) ?_
  intro p e s m args below meth c A C hr
  have hφ : ph σ.2.2 ≤ ph σ.2.2 := Nat.le_refl _
  refine nw_zero (ph σ.2.2) ?_
  show NI g p l e s m args below meth c A 0 0 1 ad Rr (ph σ.2.2) (r, σ') ta σ [(0, .ref (ad (11 + t)))] 0 []
  unfold f_Table_size at h
  refine nw_aload_n C dX9_size_0 rfl 0 rfl ?_
  refine nw_get (v := .int (σ.1 (3 * t + 2))) C in_X9 (11 + t) (cl_T t ht) rfl 3 (by decide) tw_170 rfl rfl dX9_size_1 ?_
  exact nc_iret C hr dX9_size_4 hφ hφ2 h
theorem dX9_has_0 : decode cX9_has 0 = .ok (.iload_n 1, 1) := by decide +kernel
theorem dX9_has_1 : decode cX9_has 1 = .ok (.ifCond .lt 15, 3) := by decide +kernel
theorem dX9_has_4 : decode cX9_has 4 = .ok (.iload_n 1, 1) := by decide +kernel
theorem dX9_has_5 : decode cX9_has 5 = .ok (.aload_n 0, 1) := by decide +kernel
theorem dX9_has_6 : decode cX9_has 6 = .ok (.getfield 28, 3) := by decide +kernel
theorem dX9_has_9 : decode cX9_has 9 = .ok (.if_icmp .ge 7, 3) := by decide +kernel
theorem dX9_has_12 : decode cX9_has 12 = .ok (.iconst 1, 1) := by decide +kernel
theorem dX9_has_13 : decode cX9_has 13 = .ok (.goto 4, 3) := by decide +kernel
theorem dX9_has_16 : decode cX9_has 16 = .ok (.iconst 0, 1) := by decide +kernel
theorem dX9_has_17 : decode cX9_has 17 = .ok (.ireturn, 1) := by decide +kernel
def f_Table_has (t : Nat) (p0 : Int32) (σ : CS) : Option (Int32 × CS) := if p0 < 0 then some (0, σ) else if (σ.1 (3 * t + 2)) ≤ p0 then some (0, σ) else some (1, σ)
set_option maxHeartbeats 4000000 in
set_option maxRecDepth 100000 in
theorem c_Table_has {l : Launch} {g : EG} {ad ta : Nat → Nat} {Rr : va_W} {σ σ' : CS} {r : Int32} {p0 : Int32} (t : Nat) (ht : t < 16) (h : f_Table_has t p0 σ = some (r, σ')) (hφ2 : ph σ.2.2 ≤ BB) : CtI l g yX9_has (.code yX9_has cX9_has 2 (some .boolean)) 0 0 ad ta Rr σ [.ref (ad (11 + t)), .int p0] r σ' := by
  refine Ct.of rfl (by decide) (Nat.le_of_ble_eq_true rfl) ?_
  intro p e s m args below meth c A C hr
  have hφ : ph σ.2.2 ≤ ph σ.2.2 := Nat.le_refl _
  refine nw_zero (ph σ.2.2) ?_
  show NI g p l e s m args below meth c A 0 0 2 ad Rr (ph σ.2.2) (r, σ') ta σ [(0, .ref (ad (11 + t))), (1, .int p0)] 0 []
  unfold f_Table_has at h
  refine nw_iload_n C dX9_has_0 rfl 1 rfl ?_
  refine nw_if_lt (tgt := 16) C dX9_has_1 (by decide) h (fun _ h => ?_) (fun _ h => ?_)
  · refine nw_iconst (v := 0) C dX9_has_16 (by decide) ?_
    exact nc_zret C hr (Or.inl rfl) dX9_has_17 hφ hφ2 h
  · refine nw_iload_n C dX9_has_4 rfl 1 rfl ?_
    refine nw_aload_n C dX9_has_5 rfl 0 rfl ?_
    refine nw_get (v := .int (σ.1 (3 * t + 2))) C in_X9 (11 + t) (cl_T t ht) rfl 3 (by decide) tw_170 rfl rfl dX9_has_6 ?_
    refine nw_icmp_ge (tgt := 16) C dX9_has_9 (by decide) h (fun _ h => ?_) (fun _ h => ?_)
    · refine nw_iconst (v := 0) C dX9_has_16 (by decide) ?_
      exact nc_zret C hr (Or.inl rfl) dX9_has_17 hφ hφ2 h
    · refine nw_iconst (v := 1) C dX9_has_12 (by decide) ?_
      refine nw_goto (tgt := 17) C dX9_has_13 (by decide) ?_
      exact nc_zret C hr (Or.inr rfl) dX9_has_17 hφ hφ2 h
theorem dX9_isFull_0 : decode cX9_isFull 0 = .ok (.aload_n 0, 1) := by decide +kernel
theorem dX9_isFull_1 : decode cX9_isFull 1 = .ok (.getfield 28, 3) := by decide +kernel
theorem dX9_isFull_4 : decode cX9_isFull 4 = .ok (.aload_n 0, 1) := by decide +kernel
theorem dX9_isFull_5 : decode cX9_isFull 5 = .ok (.getfield 15, 3) := by decide +kernel
theorem dX9_isFull_8 : decode cX9_isFull 8 = .ok (.if_icmp .lt 7, 3) := by decide +kernel
theorem dX9_isFull_11 : decode cX9_isFull 11 = .ok (.iconst 1, 1) := by decide +kernel
theorem dX9_isFull_12 : decode cX9_isFull 12 = .ok (.goto 4, 3) := by decide +kernel
theorem dX9_isFull_15 : decode cX9_isFull 15 = .ok (.iconst 0, 1) := by decide +kernel
theorem dX9_isFull_16 : decode cX9_isFull 16 = .ok (.ireturn, 1) := by decide +kernel
def f_Table_isFull (t : Nat)  (σ : CS) : Option (Int32 × CS) := if (σ.1 (3 * t + 2)) < (σ.1 (3 * t + 1)) then some (0, σ) else some (1, σ)
set_option maxHeartbeats 4000000 in
set_option maxRecDepth 100000 in
theorem c_Table_isFull {l : Launch} {g : EG} {ad ta : Nat → Nat} {Rr : va_W} {σ σ' : CS} {r : Int32}  (t : Nat) (ht : t < 16) (h : f_Table_isFull t σ = some (r, σ')) (hφ2 : ph σ.2.2 ≤ BB) : CtI l g yX9_isFull (.code yX9_isFull cX9_isFull 1 (some .boolean)) 0 0 ad ta Rr σ [.ref (ad (11 + t))] r σ' := by
  refine Ct.of rfl (by decide) (Nat.le_of_ble_eq_true rfl) ?_
  intro p e s m args below meth c A C hr
  have hφ : ph σ.2.2 ≤ ph σ.2.2 := Nat.le_refl _
  refine nw_zero (ph σ.2.2) ?_
  show NI g p l e s m args below meth c A 0 0 1 ad Rr (ph σ.2.2) (r, σ') ta σ [(0, .ref (ad (11 + t)))] 0 []
  unfold f_Table_isFull at h
  refine nw_aload_n C dX9_isFull_0 rfl 0 rfl ?_
  refine nw_get (v := .int (σ.1 (3 * t + 2))) C in_X9 (11 + t) (cl_T t ht) rfl 3 (by decide) tw_170 rfl rfl dX9_isFull_1 ?_
  refine nw_aload_n C dX9_isFull_4 rfl 0 rfl ?_
  refine nw_get (v := .int (σ.1 (3 * t + 1))) C in_X9 (11 + t) (cl_T t ht) rfl 1 (by decide) tw_168 rfl rfl dX9_isFull_5 ?_
  refine nw_icmp_lt (tgt := 15) C dX9_isFull_8 (by decide) h (fun _ h => ?_) (fun _ h => ?_)
  · refine nw_iconst (v := 0) C dX9_isFull_15 (by decide) ?_
    exact nc_zret C hr (Or.inl rfl) dX9_isFull_16 hφ hφ2 h
  · refine nw_iconst (v := 1) C dX9_isFull_11 (by decide) ?_
    refine nw_goto (tgt := 16) C dX9_isFull_12 (by decide) ?_
    exact nc_zret C hr (Or.inr rfl) dX9_isFull_16 hφ hφ2 h
theorem dX9_cut_0 : decode cX9_cut 0 = .ok (.iload_n 1, 1) := by decide +kernel
theorem dX9_cut_1 : decode cX9_cut 1 = .ok (.ifCond .lt 16, 3) := by decide +kernel
theorem dX9_cut_4 : decode cX9_cut 4 = .ok (.iload_n 1, 1) := by decide +kernel
theorem dX9_cut_5 : decode cX9_cut 5 = .ok (.aload_n 0, 1) := by decide +kernel
theorem dX9_cut_6 : decode cX9_cut 6 = .ok (.getfield 28, 3) := by decide +kernel
theorem dX9_cut_9 : decode cX9_cut 9 = .ok (.if_icmp .ge 8, 3) := by decide +kernel
theorem dX9_cut_12 : decode cX9_cut 12 = .ok (.aload_n 0, 1) := by decide +kernel
theorem dX9_cut_13 : decode cX9_cut 13 = .ok (.iload_n 1, 1) := by decide +kernel
theorem dX9_cut_14 : decode cX9_cut 14 = .ok (.putfield 28, 3) := by decide +kernel
theorem dX9_cut_17 : decode cX9_cut 17 = .ok (.return_, 1) := by decide +kernel
def f_Table_cut (t : Nat) (p0 : Int32) (σ : CS) : Option (Int32 × CS) := if p0 < 0 then some (0, σ) else if (σ.1 (3 * t + 2)) ≤ p0 then some (0, σ) else some (0, (sF σ (3 * t + 2) p0))
set_option maxHeartbeats 4000000 in
set_option maxRecDepth 100000 in
theorem c_Table_cut {l : Launch} {g : EG} {ad ta : Nat → Nat} {Rr : va_W} {σ σ' : CS} {r : Int32} {p0 : Int32} (t : Nat) (ht : t < 16) (h : f_Table_cut t p0 σ = some (r, σ')) (hφ2 : ph σ.2.2 ≤ BB) : CtV l g yX9_cut (.code yX9_cut cX9_cut 2 none) 0 0 ad ta Rr σ [.ref (ad (11 + t)), .int p0] r σ' := by
  refine Ct.of rfl (by decide) (Nat.le_of_ble_eq_true rfl) ?_
  intro p e s m args below meth c A C hr
  have hφ : ph σ.2.2 ≤ ph σ.2.2 := Nat.le_refl _
  refine nw_zero (ph σ.2.2) ?_
  show NV g p l e s m args below meth c A 0 0 2 ad Rr (ph σ.2.2) (r, σ') ta σ [(0, .ref (ad (11 + t))), (1, .int p0)] 0 []
  unfold f_Table_cut at h
  refine nw_iload_n C dX9_cut_0 rfl 1 rfl ?_
  refine nw_if_lt (tgt := 17) C dX9_cut_1 (by decide) h (fun _ h => ?_) (fun _ h => ?_)
  · exact nc_vret C hr dX9_cut_17 hφ hφ2 h
  · refine nw_iload_n C dX9_cut_4 rfl 1 rfl ?_
    refine nw_aload_n C dX9_cut_5 rfl 0 rfl ?_
    refine nw_get (v := .int (σ.1 (3 * t + 2))) C in_X9 (11 + t) (cl_T t ht) rfl 3 (by decide) tw_170 rfl rfl dX9_cut_6 ?_
    refine nw_icmp_ge (tgt := 17) C dX9_cut_9 (by decide) h (fun _ h => ?_) (fun _ h => ?_)
    · exact nc_vret C hr dX9_cut_17 hφ hφ2 h
    · refine nw_aload_n C dX9_cut_12 rfl 0 rfl ?_
      refine nw_iload_n C dX9_cut_13 rfl 1 rfl ?_
      refine nw_put (ty := .int) C in_X9 (11 + t) (cl_T t ht) rfl 3 (by decide) tyX9 tyX9_ok nmX9 tw_170 rfl rfl (by decide +kernel) rfl rfl (Nat.le_of_ble_eq_true rfl) dX9_cut_14 (cs_T t ht) ?_
      exact nc_vret C hr dX9_cut_17 hφ hφ2 h
theorem dX9_get_0 : decode cX9_get 0 = .ok (.iload_n 1, 1) := by decide +kernel
theorem dX9_get_1 : decode cX9_get 1 = .ok (.ifCond .lt 23, 3) := by decide +kernel
theorem dX9_get_4 : decode cX9_get 4 = .ok (.iload_n 1, 1) := by decide +kernel
theorem dX9_get_5 : decode cX9_get 5 = .ok (.aload_n 0, 1) := by decide +kernel
theorem dX9_get_6 : decode cX9_get 6 = .ok (.getfield 28, 3) := by decide +kernel
theorem dX9_get_9 : decode cX9_get 9 = .ok (.if_icmp .ge 15, 3) := by decide +kernel
theorem dX9_get_12 : decode cX9_get 12 = .ok (.iload_n 2, 1) := by decide +kernel
theorem dX9_get_13 : decode cX9_get 13 = .ok (.ifCond .lt 11, 3) := by decide +kernel
theorem dX9_get_16 : decode cX9_get 16 = .ok (.iload_n 2, 1) := by decide +kernel
theorem dX9_get_17 : decode cX9_get 17 = .ok (.aload_n 0, 1) := by decide +kernel
theorem dX9_get_18 : decode cX9_get 18 = .ok (.getfield 9, 3) := by decide +kernel
theorem dX9_get_21 : decode cX9_get 21 = .ok (.if_icmp .lt 5, 3) := by decide +kernel
theorem dX9_get_24 : decode cX9_get 24 = .ok (.iconst (-1), 1) := by decide +kernel
theorem dX9_get_25 : decode cX9_get 25 = .ok (.ireturn, 1) := by decide +kernel
theorem dX9_get_26 : decode cX9_get 26 = .ok (.iload_n 1, 1) := by decide +kernel
theorem dX9_get_27 : decode cX9_get 27 = .ok (.aload_n 0, 1) := by decide +kernel
theorem dX9_get_28 : decode cX9_get 28 = .ok (.getfield 9, 3) := by decide +kernel
theorem dX9_get_31 : decode cX9_get 31 = .ok (.imul, 1) := by decide +kernel
theorem dX9_get_32 : decode cX9_get 32 = .ok (.iload_n 2, 1) := by decide +kernel
theorem dX9_get_33 : decode cX9_get 33 = .ok (.iadd, 1) := by decide +kernel
theorem dX9_get_34 : decode cX9_get 34 = .ok (.istore_n 3, 1) := by decide +kernel
theorem dX9_get_35 : decode cX9_get 35 = .ok (.iload_n 3, 1) := by decide +kernel
theorem dX9_get_36 : decode cX9_get 36 = .ok (.aload_n 0, 1) := by decide +kernel
theorem dX9_get_37 : decode cX9_get 37 = .ok (.getfield 24, 3) := by decide +kernel
theorem dX9_get_40 : decode cX9_get 40 = .ok (.arraylength, 1) := by decide +kernel
theorem dX9_get_41 : decode cX9_get 41 = .ok (.if_icmp .ge 12, 3) := by decide +kernel
theorem dX9_get_44 : decode cX9_get 44 = .ok (.aload_n 0, 1) := by decide +kernel
theorem dX9_get_45 : decode cX9_get 45 = .ok (.getfield 24, 3) := by decide +kernel
theorem dX9_get_48 : decode cX9_get 48 = .ok (.iload_n 3, 1) := by decide +kernel
theorem dX9_get_49 : decode cX9_get 49 = .ok (.iaload, 1) := by decide +kernel
theorem dX9_get_50 : decode cX9_get 50 = .ok (.goto 4, 3) := by decide +kernel
theorem dX9_get_53 : decode cX9_get 53 = .ok (.iconst (-1), 1) := by decide +kernel
theorem dX9_get_54 : decode cX9_get 54 = .ok (.ireturn, 1) := by decide +kernel
def f_Table_get (t : Nat) (p0 : Int32) (p1 : Int32) (σ : CS) : Option (Int32 × CS) := if p0 < 0 then some ((-1), σ) else if (σ.1 (3 * t + 2)) ≤ p0 then some ((-1), σ) else if p1 < 0 then some ((-1), σ) else if p1 < (σ.1 (3 * t)) then if (nI (σ.2.2 t)) ≤ ((p0 * (σ.1 (3 * t))) + p1) then some ((-1), σ) else gix ((p0 * (σ.1 (3 * t))) + p1) (σ.2.2 t) (some ((rd σ t ((p0 * (σ.1 (3 * t))) + p1)), σ)) else some ((-1), σ)
set_option maxHeartbeats 4000000 in
set_option maxRecDepth 100000 in
theorem c_Table_get {l : Launch} {g : EG} {ad ta : Nat → Nat} {Rr : va_W} {σ σ' : CS} {r : Int32} {p0 : Int32} {p1 : Int32} (t : Nat) (ht : t < 16) (h : f_Table_get t p0 p1 σ = some (r, σ')) (hφ2 : ph σ.2.2 ≤ BB) : CtI l g yX9_get (.code yX9_get cX9_get 4 (some .int)) 0 0 ad ta Rr σ [.ref (ad (11 + t)), .int p0, .int p1] r σ' := by
  refine Ct.of rfl (by decide) (Nat.le_of_ble_eq_true rfl) ?_
  intro p e s m args below meth c A C hr
  have hφ : ph σ.2.2 ≤ ph σ.2.2 := Nat.le_refl _
  refine nw_zero (ph σ.2.2) ?_
  show NI g p l e s m args below meth c A 0 0 4 ad Rr (ph σ.2.2) (r, σ') ta σ [(0, .ref (ad (11 + t))), (1, .int p0), (2, .int p1)] 0 []
  unfold f_Table_get at h
  refine nw_iload_n C dX9_get_0 rfl 1 rfl ?_
  refine nw_if_lt (tgt := 24) C dX9_get_1 (by decide) h (fun _ h => ?_) (fun _ h => ?_)
  · refine nw_iconst (v := (-1)) C dX9_get_24 (by decide) ?_
    exact nc_iret C hr dX9_get_25 hφ hφ2 h
  · refine nw_iload_n C dX9_get_4 rfl 1 rfl ?_
    refine nw_aload_n C dX9_get_5 rfl 0 rfl ?_
    refine nw_get (v := .int (σ.1 (3 * t + 2))) C in_X9 (11 + t) (cl_T t ht) rfl 3 (by decide) tw_170 rfl rfl dX9_get_6 ?_
    refine nw_icmp_ge (tgt := 24) C dX9_get_9 (by decide) h (fun _ h => ?_) (fun _ h => ?_)
    · refine nw_iconst (v := (-1)) C dX9_get_24 (by decide) ?_
      exact nc_iret C hr dX9_get_25 hφ hφ2 h
    · refine nw_iload_n C dX9_get_12 rfl 2 rfl ?_
      refine nw_if_lt (tgt := 24) C dX9_get_13 (by decide) h (fun _ h => ?_) (fun _ h => ?_)
      · refine nw_iconst (v := (-1)) C dX9_get_24 (by decide) ?_
        exact nc_iret C hr dX9_get_25 hφ hφ2 h
      · refine nw_iload_n C dX9_get_16 rfl 2 rfl ?_
        refine nw_aload_n C dX9_get_17 rfl 0 rfl ?_
        refine nw_get (v := .int (σ.1 (3 * t))) C in_X9 (11 + t) (cl_T t ht) rfl 0 (by decide) tw_167 rfl rfl dX9_get_18 ?_
        refine nw_icmp_lt (tgt := 26) C dX9_get_21 (by decide) h (fun _ h => ?_) (fun _ h => ?_)
        · refine nw_iload_n C dX9_get_26 rfl 1 rfl ?_
          refine nw_aload_n C dX9_get_27 rfl 0 rfl ?_
          refine nw_get (v := .int (σ.1 (3 * t))) C in_X9 (11 + t) (cl_T t ht) rfl 0 (by decide) tw_167 rfl rfl dX9_get_28 ?_
          refine nw_imul C dX9_get_31 ?_
          refine nw_iload_n C dX9_get_32 rfl 2 rfl ?_
          refine nw_iadd C dX9_get_33 ?_
          refine nw_istore_n (lv' := [(3, .int ((p0 * (σ.1 (3 * t))) + p1)), (0, .ref (ad (11 + t))), (1, .int p0), (2, .int p1)]) C dX9_get_34 rfl (by decide) rfl ?_
          refine nw_iload_n C dX9_get_35 rfl 0 rfl ?_
          refine nw_aload_n C dX9_get_36 rfl 1 rfl ?_
          refine nw_get (v := .ref (ta t)) C in_X9 (11 + t) (cl_T t ht) rfl 2 (by decide) tw_169 rfl rfl dX9_get_37 ?_
          refine nw_alenI C (27 + t) (cl_TA t ht) dX9_get_40 ?_
          refine nw_icmp_ge (tgt := 53) C dX9_get_41 (by decide) h (fun _ h => ?_) (fun _ h => ?_)
          · refine nw_iconst (v := (-1)) C dX9_get_53 (by decide) ?_
            exact nc_iret C hr dX9_get_54 hφ hφ2 h
          · refine nw_aload_n C dX9_get_44 rfl 1 rfl ?_
            refine nw_get (v := .ref (ta t)) C in_X9 (11 + t) (cl_T t ht) rfl 2 (by decide) tw_169 rfl rfl dX9_get_45 ?_
            refine nw_iload_n C dX9_get_48 rfl 0 rfl ?_
            refine nw_iald C (27 + t) (cl_TA t ht) dX9_get_49 h (fun h => ?_)
            refine nw_goto (tgt := 54) C dX9_get_50 (by decide) ?_
            exact nc_iret C hr dX9_get_54 hφ hφ2 h
        · refine nw_iconst (v := (-1)) C dX9_get_24 (by decide) ?_
          exact nc_iret C hr dX9_get_25 hφ hφ2 h
theorem dX9_put_0 : decode cX9_put 0 = .ok (.iload_n 1, 1) := by decide +kernel
theorem dX9_put_1 : decode cX9_put 1 = .ok (.ifCond .lt 23, 3) := by decide +kernel
theorem dX9_put_4 : decode cX9_put 4 = .ok (.iload_n 1, 1) := by decide +kernel
theorem dX9_put_5 : decode cX9_put 5 = .ok (.aload_n 0, 1) := by decide +kernel
theorem dX9_put_6 : decode cX9_put 6 = .ok (.getfield 28, 3) := by decide +kernel
theorem dX9_put_9 : decode cX9_put 9 = .ok (.if_icmp .ge 15, 3) := by decide +kernel
theorem dX9_put_12 : decode cX9_put 12 = .ok (.iload_n 2, 1) := by decide +kernel
theorem dX9_put_13 : decode cX9_put 13 = .ok (.ifCond .lt 11, 3) := by decide +kernel
theorem dX9_put_16 : decode cX9_put 16 = .ok (.iload_n 2, 1) := by decide +kernel
theorem dX9_put_17 : decode cX9_put 17 = .ok (.aload_n 0, 1) := by decide +kernel
theorem dX9_put_18 : decode cX9_put 18 = .ok (.getfield 9, 3) := by decide +kernel
theorem dX9_put_21 : decode cX9_put 21 = .ok (.if_icmp .lt 4, 3) := by decide +kernel
theorem dX9_put_24 : decode cX9_put 24 = .ok (.return_, 1) := by decide +kernel
theorem dX9_put_25 : decode cX9_put 25 = .ok (.iload_n 1, 1) := by decide +kernel
theorem dX9_put_26 : decode cX9_put 26 = .ok (.aload_n 0, 1) := by decide +kernel
theorem dX9_put_27 : decode cX9_put 27 = .ok (.getfield 9, 3) := by decide +kernel
theorem dX9_put_30 : decode cX9_put 30 = .ok (.imul, 1) := by decide +kernel
theorem dX9_put_31 : decode cX9_put 31 = .ok (.iload_n 2, 1) := by decide +kernel
theorem dX9_put_32 : decode cX9_put 32 = .ok (.iadd, 1) := by decide +kernel
theorem dX9_put_33 : decode cX9_put 33 = .ok (.istore 4, 2) := by decide +kernel
theorem dX9_put_35 : decode cX9_put 35 = .ok (.iload 4, 2) := by decide +kernel
theorem dX9_put_37 : decode cX9_put 37 = .ok (.aload_n 0, 1) := by decide +kernel
theorem dX9_put_38 : decode cX9_put 38 = .ok (.getfield 24, 3) := by decide +kernel
theorem dX9_put_41 : decode cX9_put 41 = .ok (.arraylength, 1) := by decide +kernel
theorem dX9_put_42 : decode cX9_put 42 = .ok (.if_icmp .ge 11, 3) := by decide +kernel
theorem dX9_put_45 : decode cX9_put 45 = .ok (.aload_n 0, 1) := by decide +kernel
theorem dX9_put_46 : decode cX9_put 46 = .ok (.getfield 24, 3) := by decide +kernel
theorem dX9_put_49 : decode cX9_put 49 = .ok (.iload 4, 2) := by decide +kernel
theorem dX9_put_51 : decode cX9_put 51 = .ok (.iload_n 3, 1) := by decide +kernel
theorem dX9_put_52 : decode cX9_put 52 = .ok (.iastore, 1) := by decide +kernel
theorem dX9_put_53 : decode cX9_put 53 = .ok (.return_, 1) := by decide +kernel
def f_Table_put (t : Nat) (p0 : Int32) (p1 : Int32) (p2 : Int32) (σ : CS) : Option (Int32 × CS) := if p0 < 0 then some (0, σ) else if (σ.1 (3 * t + 2)) ≤ p0 then some (0, σ) else if p1 < 0 then some (0, σ) else if p1 < (σ.1 (3 * t)) then if (nI (σ.2.2 t)) ≤ ((p0 * (σ.1 (3 * t))) + p1) then some (0, σ) else gix ((p0 * (σ.1 (3 * t))) + p1) (σ.2.2 t) (some (0, (wr σ t ((p0 * (σ.1 (3 * t))) + p1) p2))) else some (0, σ)
set_option maxHeartbeats 4000000 in
set_option maxRecDepth 100000 in
theorem c_Table_put {l : Launch} {g : EG} {ad ta : Nat → Nat} {Rr : va_W} {σ σ' : CS} {r : Int32} {p0 : Int32} {p1 : Int32} {p2 : Int32} (t : Nat) (ht : t < 16) (h : f_Table_put t p0 p1 p2 σ = some (r, σ')) (hφ2 : ph σ.2.2 ≤ BB) : CtV l g yX9_put (.code yX9_put cX9_put 5 none) 0 0 ad ta Rr σ [.ref (ad (11 + t)), .int p0, .int p1, .int p2] r σ' := by
  refine Ct.of rfl (by decide) (Nat.le_of_ble_eq_true rfl) ?_
  intro p e s m args below meth c A C hr
  have hφ : ph σ.2.2 ≤ ph σ.2.2 := Nat.le_refl _
  refine nw_zero (ph σ.2.2) ?_
  show NV g p l e s m args below meth c A 0 0 5 ad Rr (ph σ.2.2) (r, σ') ta σ [(0, .ref (ad (11 + t))), (1, .int p0), (2, .int p1), (3, .int p2)] 0 []
  unfold f_Table_put at h
  refine nw_iload_n C dX9_put_0 rfl 1 rfl ?_
  refine nw_if_lt (tgt := 24) C dX9_put_1 (by decide) h (fun _ h => ?_) (fun _ h => ?_)
  · exact nc_vret C hr dX9_put_24 hφ hφ2 h
  · refine nw_iload_n C dX9_put_4 rfl 1 rfl ?_
    refine nw_aload_n C dX9_put_5 rfl 0 rfl ?_
    refine nw_get (v := .int (σ.1 (3 * t + 2))) C in_X9 (11 + t) (cl_T t ht) rfl 3 (by decide) tw_170 rfl rfl dX9_put_6 ?_
    refine nw_icmp_ge (tgt := 24) C dX9_put_9 (by decide) h (fun _ h => ?_) (fun _ h => ?_)
    · exact nc_vret C hr dX9_put_24 hφ hφ2 h
    · refine nw_iload_n C dX9_put_12 rfl 2 rfl ?_
      refine nw_if_lt (tgt := 24) C dX9_put_13 (by decide) h (fun _ h => ?_) (fun _ h => ?_)
      · exact nc_vret C hr dX9_put_24 hφ hφ2 h
      · refine nw_iload_n C dX9_put_16 rfl 2 rfl ?_
        refine nw_aload_n C dX9_put_17 rfl 0 rfl ?_
        refine nw_get (v := .int (σ.1 (3 * t))) C in_X9 (11 + t) (cl_T t ht) rfl 0 (by decide) tw_167 rfl rfl dX9_put_18 ?_
        refine nw_icmp_lt (tgt := 25) C dX9_put_21 (by decide) h (fun _ h => ?_) (fun _ h => ?_)
        · refine nw_iload_n C dX9_put_25 rfl 1 rfl ?_
          refine nw_aload_n C dX9_put_26 rfl 0 rfl ?_
          refine nw_get (v := .int (σ.1 (3 * t))) C in_X9 (11 + t) (cl_T t ht) rfl 0 (by decide) tw_167 rfl rfl dX9_put_27 ?_
          refine nw_imul C dX9_put_30 ?_
          refine nw_iload_n C dX9_put_31 rfl 2 rfl ?_
          refine nw_iadd C dX9_put_32 ?_
          refine nw_istore (lv' := [(4, .int ((p0 * (σ.1 (3 * t))) + p1)), (0, .ref (ad (11 + t))), (1, .int p0), (2, .int p1), (3, .int p2)]) C dX9_put_33 (by decide) rfl ?_
          refine nw_iload C dX9_put_35 0 rfl ?_
          refine nw_aload_n C dX9_put_37 rfl 1 rfl ?_
          refine nw_get (v := .ref (ta t)) C in_X9 (11 + t) (cl_T t ht) rfl 2 (by decide) tw_169 rfl rfl dX9_put_38 ?_
          refine nw_alenI C (27 + t) (cl_TA t ht) dX9_put_41 ?_
          refine nw_icmp_ge (tgt := 53) C dX9_put_42 (by decide) h (fun _ h => ?_) (fun _ h => ?_)
          · exact nc_vret C hr dX9_put_53 hφ hφ2 h
          · refine nw_aload_n C dX9_put_45 rfl 1 rfl ?_
            refine nw_get (v := .ref (ta t)) C in_X9 (11 + t) (cl_T t ht) rfl 2 (by decide) tw_169 rfl rfl dX9_put_46 ?_
            refine nw_iload C dX9_put_49 0 rfl ?_
            refine nw_iload_n C dX9_put_51 rfl 4 rfl ?_
            refine nw_iast C (27 + t) (cl_TA t ht) dX9_put_52 h (cs_TA t ht) (fun h => ?_)
            exact nc_vret C hr dX9_put_53 hφ hφ2 h
        · exact nc_vret C hr dX9_put_24 hφ hφ2 h
theorem dX9_swap_0 : decode cX9_swap 0 = .ok (.aload_n 0, 1) := by decide +kernel
theorem dX9_swap_1 : decode cX9_swap 1 = .ok (.iload_n 1, 1) := by decide +kernel
theorem dX9_swap_2 : decode cX9_swap 2 = .ok (.iload_n 2, 1) := by decide +kernel
theorem dX9_swap_3 : decode cX9_swap 3 = .ok (.invokevirtual 45, 3) := by decide +kernel
theorem dX9_swap_6 : decode cX9_swap 6 = .ok (.istore 4, 2) := by decide +kernel
theorem dX9_swap_8 : decode cX9_swap 8 = .ok (.aload_n 0, 1) := by decide +kernel
theorem dX9_swap_9 : decode cX9_swap 9 = .ok (.iload_n 1, 1) := by decide +kernel
theorem dX9_swap_10 : decode cX9_swap 10 = .ok (.iload_n 2, 1) := by decide +kernel
theorem dX9_swap_11 : decode cX9_swap 11 = .ok (.iload_n 3, 1) := by decide +kernel
theorem dX9_swap_12 : decode cX9_swap 12 = .ok (.invokevirtual 41, 3) := by decide +kernel
theorem dX9_swap_15 : decode cX9_swap 15 = .ok (.iload 4, 2) := by decide +kernel
theorem dX9_swap_17 : decode cX9_swap 17 = .ok (.ireturn, 1) := by decide +kernel
def f_Table_swap (t : Nat) (p0 : Int32) (p1 : Int32) (p2 : Int32) (σ : CS) : Option (Int32 × CS) := bnd (f_Table_get t p0 p1 σ) (fun r3 σ3 => bnd (f_Table_put t p0 p1 p2 σ3) (fun _ σ12 => some (r3, σ12)))
set_option maxHeartbeats 4000000 in
set_option maxRecDepth 100000 in
theorem c_Table_swap {l : Launch} {g : EG} {ad ta : Nat → Nat} {Rr : va_W} {σ σ' : CS} {r : Int32} {p0 : Int32} {p1 : Int32} {p2 : Int32} (t : Nat) (ht : t < 16) (h : f_Table_swap t p0 p1 p2 σ = some (r, σ')) (hφ2 : ph σ.2.2 ≤ BB) : CtI l g yX9_swap (.code yX9_swap cX9_swap 5 (some .int)) 1 24 ad ta Rr σ [.ref (ad (11 + t)), .int p0, .int p1, .int p2] r σ' := by
  refine Ct.of rfl (by decide) (Nat.le_of_ble_eq_true rfl) ?_
  intro p e s m args below meth c A C hr
  have hφ : ph σ.2.2 ≤ ph σ.2.2 := Nat.le_refl _
  refine nw_zero (ph σ.2.2) ?_
  show NI g p l e s m args below meth c A 1 24 5 ad Rr (ph σ.2.2) (r, σ') ta σ [(0, .ref (ad (11 + t))), (1, .int p0), (2, .int p1), (3, .int p2)] 0 []
  unfold f_Table_swap at h
  refine nw_aload_n C dX9_swap_0 rfl 0 rfl ?_
  refine nw_iload_n C dX9_swap_1 rfl 1 rfl ?_
  refine nw_iload_n C dX9_swap_2 rfl 2 rfl ?_
  refine nc_callVI (q0 := 11 + t) (As := [.int p0, .int p1]) (rest := []) C h (fun _ _ e => c_Table_get t ht e hφ2) tw_900 kv_X9_get (cl_T t ht) rfl ⟨Nat.le_of_ble_eq_true rfl, Nat.le_of_ble_eq_true rfl⟩ rfl dX9_swap_3 rfl (Nat.le_of_ble_eq_true rfl) hφ hφ2 (fun r3 σ3 ta h hφ hφ2 => ?_)
  refine nw_istore (lv' := [(4, .int r3), (0, .ref (ad (11 + t))), (1, .int p0), (2, .int p1), (3, .int p2)]) C dX9_swap_6 (by decide) rfl ?_
  refine nw_aload_n C dX9_swap_8 rfl 1 rfl ?_
  refine nw_iload_n C dX9_swap_9 rfl 2 rfl ?_
  refine nw_iload_n C dX9_swap_10 rfl 3 rfl ?_
  refine nw_iload_n C dX9_swap_11 rfl 4 rfl ?_
  refine nc_callVV (q0 := 11 + t) (As := [.int p0, .int p1, .int p2]) (rest := []) C h (fun _ _ e => c_Table_put t ht e hφ2) tw_372 kv_X9_put (cl_T t ht) rfl ⟨Nat.le_of_ble_eq_true rfl, Nat.le_of_ble_eq_true rfl⟩ rfl dX9_swap_12 rfl (Nat.le_of_ble_eq_true rfl) hφ hφ2 (fun r12 σ12 ta h hφ hφ2 => ?_)
  refine nw_iload C dX9_swap_15 0 rfl ?_
  exact nc_iret C hr dX9_swap_17 hφ hφ2 h
theorem dX9_raise_0 : decode cX9_raise 0 = .ok (.aload_n 0, 1) := by decide +kernel
theorem dX9_raise_1 : decode cX9_raise 1 = .ok (.iload_n 1, 1) := by decide +kernel
theorem dX9_raise_2 : decode cX9_raise 2 = .ok (.iload_n 2, 1) := by decide +kernel
theorem dX9_raise_3 : decode cX9_raise 3 = .ok (.aload_n 0, 1) := by decide +kernel
theorem dX9_raise_4 : decode cX9_raise 4 = .ok (.iload_n 1, 1) := by decide +kernel
theorem dX9_raise_5 : decode cX9_raise 5 = .ok (.iload_n 2, 1) := by decide +kernel
theorem dX9_raise_6 : decode cX9_raise 6 = .ok (.invokevirtual 45, 3) := by decide +kernel
theorem dX9_raise_9 : decode cX9_raise 9 = .ok (.iload_n 3, 1) := by decide +kernel
theorem dX9_raise_10 : decode cX9_raise 10 = .ok (.iadd, 1) := by decide +kernel
theorem dX9_raise_11 : decode cX9_raise 11 = .ok (.invokevirtual 41, 3) := by decide +kernel
theorem dX9_raise_14 : decode cX9_raise 14 = .ok (.aload_n 0, 1) := by decide +kernel
theorem dX9_raise_15 : decode cX9_raise 15 = .ok (.iload_n 1, 1) := by decide +kernel
theorem dX9_raise_16 : decode cX9_raise 16 = .ok (.iload_n 2, 1) := by decide +kernel
theorem dX9_raise_17 : decode cX9_raise 17 = .ok (.invokevirtual 45, 3) := by decide +kernel
theorem dX9_raise_20 : decode cX9_raise 20 = .ok (.ireturn, 1) := by decide +kernel
def f_Table_raise (t : Nat) (p0 : Int32) (p1 : Int32) (p2 : Int32) (σ : CS) : Option (Int32 × CS) := bnd (f_Table_get t p0 p1 σ) (fun r6 σ6 => bnd (f_Table_put t p0 p1 (r6 + p2) σ6) (fun _ σ11 => bnd (f_Table_get t p0 p1 σ11) (fun r17 σ17 => some (r17, σ17))))
set_option maxHeartbeats 4000000 in
set_option maxRecDepth 100000 in
theorem c_Table_raise {l : Launch} {g : EG} {ad ta : Nat → Nat} {Rr : va_W} {σ σ' : CS} {r : Int32} {p0 : Int32} {p1 : Int32} {p2 : Int32} (t : Nat) (ht : t < 16) (h : f_Table_raise t p0 p1 p2 σ = some (r, σ')) (hφ2 : ph σ.2.2 ≤ BB) : CtI l g yX9_raise (.code yX9_raise cX9_raise 4 (some .int)) 1 24 ad ta Rr σ [.ref (ad (11 + t)), .int p0, .int p1, .int p2] r σ' := by
  refine Ct.of rfl (by decide) (Nat.le_of_ble_eq_true rfl) ?_
  intro p e s m args below meth c A C hr
  have hφ : ph σ.2.2 ≤ ph σ.2.2 := Nat.le_refl _
  refine nw_zero (ph σ.2.2) ?_
  show NI g p l e s m args below meth c A 1 24 4 ad Rr (ph σ.2.2) (r, σ') ta σ [(0, .ref (ad (11 + t))), (1, .int p0), (2, .int p1), (3, .int p2)] 0 []
  unfold f_Table_raise at h
  refine nw_aload_n C dX9_raise_0 rfl 0 rfl ?_
  refine nw_iload_n C dX9_raise_1 rfl 1 rfl ?_
  refine nw_iload_n C dX9_raise_2 rfl 2 rfl ?_
  refine nw_aload_n C dX9_raise_3 rfl 0 rfl ?_
  refine nw_iload_n C dX9_raise_4 rfl 1 rfl ?_
  refine nw_iload_n C dX9_raise_5 rfl 2 rfl ?_
  refine nc_callVI (q0 := 11 + t) (As := [.int p0, .int p1]) (rest := [.int p1, .int p0, .ref (ad (11 + t))]) C h (fun _ _ e => c_Table_get t ht e hφ2) tw_900 kv_X9_get (cl_T t ht) rfl ⟨Nat.le_of_ble_eq_true rfl, Nat.le_of_ble_eq_true rfl⟩ rfl dX9_raise_6 rfl (Nat.le_of_ble_eq_true rfl) hφ hφ2 (fun r6 σ6 ta h hφ hφ2 => ?_)
  refine nw_iload_n C dX9_raise_9 rfl 3 rfl ?_
  refine nw_iadd C dX9_raise_10 ?_
  refine nc_callVV (q0 := 11 + t) (As := [.int p0, .int p1, .int (r6 + p2)]) (rest := []) C h (fun _ _ e => c_Table_put t ht e hφ2) tw_372 kv_X9_put (cl_T t ht) rfl ⟨Nat.le_of_ble_eq_true rfl, Nat.le_of_ble_eq_true rfl⟩ rfl dX9_raise_11 rfl (Nat.le_of_ble_eq_true rfl) hφ hφ2 (fun r11 σ11 ta h hφ hφ2 => ?_)
  refine nw_aload_n C dX9_raise_14 rfl 0 rfl ?_
  refine nw_iload_n C dX9_raise_15 rfl 1 rfl ?_
  refine nw_iload_n C dX9_raise_16 rfl 2 rfl ?_
  refine nc_callVI (q0 := 11 + t) (As := [.int p0, .int p1]) (rest := []) C h (fun _ _ e => c_Table_get t ht e hφ2) tw_900 kv_X9_get (cl_T t ht) rfl ⟨Nat.le_of_ble_eq_true rfl, Nat.le_of_ble_eq_true rfl⟩ rfl dX9_raise_17 rfl (Nat.le_of_ble_eq_true rfl) hφ hφ2 (fun r17 σ17 ta h hφ hφ2 => ?_)
  exact nc_iret C hr dX9_raise_20 hφ hφ2 h
def f_FTable_get (p0 : Int32) (p1 : Int32) (σ : CS) : Option (Int32 × CS) := if p0 < 0 then some ((-1), σ) else if 1 ≤ p0 then some ((-1), σ) else if p1 < 0 then some ((-1), σ) else if p1 < 6 then if 24 ≤ ((p0 * 6) + p1) then some ((-1), σ) else gix ((p0 * 6) + p1) 24 (some ((rd σ 21 ((p0 * 6) + p1)), σ)) else some ((-1), σ)
set_option maxHeartbeats 4000000 in
set_option maxRecDepth 100000 in
theorem c_FTable_get {l : Launch} {g : EG} {ad ta : Nat → Nat} {Rr : va_W} {σ σ' : CS} {r : Int32} {p0 : Int32} {p1 : Int32}  (h : f_FTable_get p0 p1 σ = some (r, σ')) (hφ2 : ph σ.2.2 ≤ BB) : CtI l g yX9_get (.code yX9_get cX9_get 4 (some .int)) 0 0 ad ta Rr σ [.ref (ad 59), .int p0, .int p1] r σ' := by
  refine Ct.of rfl (by decide) (Nat.le_of_ble_eq_true rfl) ?_
  intro p e s m args below meth c A C hr
  have hφ : ph σ.2.2 ≤ ph σ.2.2 := Nat.le_refl _
  refine nw_zero (ph σ.2.2) ?_
  show NI g p l e s m args below meth c A 0 0 4 ad Rr (ph σ.2.2) (r, σ') ta σ [(0, .ref (ad 59)), (1, .int p0), (2, .int p1)] 0 []
  unfold f_FTable_get at h
  refine nw_iload_n C dX9_get_0 rfl 1 rfl ?_
  refine nw_if_lt (tgt := 24) C dX9_get_1 (by decide) h (fun _ h => ?_) (fun _ h => ?_)
  · refine nw_iconst (v := (-1)) C dX9_get_24 (by decide) ?_
    exact nc_iret C hr dX9_get_25 hφ hφ2 h
  · refine nw_iload_n C dX9_get_4 rfl 1 rfl ?_
    refine nw_aload_n C dX9_get_5 rfl 0 rfl ?_
    refine nw_get (v := .int 1) C in_X9 59 cl_Facts rfl 3 (by decide) tw_170 rfl rfl dX9_get_6 ?_
    refine nw_icmp_ge (tgt := 24) C dX9_get_9 (by decide) h (fun _ h => ?_) (fun _ h => ?_)
    · refine nw_iconst (v := (-1)) C dX9_get_24 (by decide) ?_
      exact nc_iret C hr dX9_get_25 hφ hφ2 h
    · refine nw_iload_n C dX9_get_12 rfl 2 rfl ?_
      refine nw_if_lt (tgt := 24) C dX9_get_13 (by decide) h (fun _ h => ?_) (fun _ h => ?_)
      · refine nw_iconst (v := (-1)) C dX9_get_24 (by decide) ?_
        exact nc_iret C hr dX9_get_25 hφ hφ2 h
      · refine nw_iload_n C dX9_get_16 rfl 2 rfl ?_
        refine nw_aload_n C dX9_get_17 rfl 0 rfl ?_
        refine nw_get (v := .int 6) C in_X9 59 cl_Facts rfl 0 (by decide) tw_167 rfl rfl dX9_get_18 ?_
        refine nw_icmp_lt (tgt := 26) C dX9_get_21 (by decide) h (fun _ h => ?_) (fun _ h => ?_)
        · refine nw_iload_n C dX9_get_26 rfl 1 rfl ?_
          refine nw_aload_n C dX9_get_27 rfl 0 rfl ?_
          refine nw_get (v := .int 6) C in_X9 59 cl_Facts rfl 0 (by decide) tw_167 rfl rfl dX9_get_28 ?_
          refine nw_imul C dX9_get_31 ?_
          refine nw_iload_n C dX9_get_32 rfl 2 rfl ?_
          refine nw_iadd C dX9_get_33 ?_
          refine nw_istore_n (lv' := [(3, .int ((p0 * 6) + p1)), (0, .ref (ad 59)), (1, .int p0), (2, .int p1)]) C dX9_get_34 rfl (by decide) rfl ?_
          refine nw_iload_n C dX9_get_35 rfl 0 rfl ?_
          refine nw_aload_n C dX9_get_36 rfl 1 rfl ?_
          refine nw_get (v := .ref (ad 48)) C in_X9 59 cl_Facts rfl 2 (by decide) tw_169 rfl rfl dX9_get_37 ?_
          refine nw_alenI C 48 (cl_I 21 rfl) dX9_get_40 ?_
          refine nw_st (st' := [.int 24, .int ((p0 * 6) + p1)]) rfl ?_
          refine nw_icmp_ge (tgt := 53) C dX9_get_41 (by decide) h (fun _ h => ?_) (fun _ h => ?_)
          · refine nw_iconst (v := (-1)) C dX9_get_53 (by decide) ?_
            exact nc_iret C hr dX9_get_54 hφ hφ2 h
          · refine nw_aload_n C dX9_get_44 rfl 1 rfl ?_
            refine nw_get (v := .ref (ad 48)) C in_X9 59 cl_Facts rfl 2 (by decide) tw_169 rfl rfl dX9_get_45 ?_
            refine nw_iload_n C dX9_get_48 rfl 0 rfl ?_
            refine nw_iald C 48 (cl_I 21 rfl) dX9_get_49 h (fun h => ?_)
            refine nw_goto (tgt := 54) C dX9_get_50 (by decide) ?_
            exact nc_iret C hr dX9_get_54 hφ hφ2 h
        · refine nw_iconst (v := (-1)) C dX9_get_24 (by decide) ?_
          exact nc_iret C hr dX9_get_25 hφ hφ2 h
def f_FTable_put (p0 : Int32) (p1 : Int32) (p2 : Int32) (σ : CS) : Option (Int32 × CS) := if p0 < 0 then some (0, σ) else if 1 ≤ p0 then some (0, σ) else if p1 < 0 then some (0, σ) else if p1 < 6 then if 24 ≤ ((p0 * 6) + p1) then some (0, σ) else gix ((p0 * 6) + p1) 24 (some (0, (wr σ 21 ((p0 * 6) + p1) p2))) else some (0, σ)
set_option maxHeartbeats 4000000 in
set_option maxRecDepth 100000 in
theorem c_FTable_put {l : Launch} {g : EG} {ad ta : Nat → Nat} {Rr : va_W} {σ σ' : CS} {r : Int32} {p0 : Int32} {p1 : Int32} {p2 : Int32}  (h : f_FTable_put p0 p1 p2 σ = some (r, σ')) (hφ2 : ph σ.2.2 ≤ BB) : CtV l g yX9_put (.code yX9_put cX9_put 5 none) 0 0 ad ta Rr σ [.ref (ad 59), .int p0, .int p1, .int p2] r σ' := by
  refine Ct.of rfl (by decide) (Nat.le_of_ble_eq_true rfl) ?_
  intro p e s m args below meth c A C hr
  have hφ : ph σ.2.2 ≤ ph σ.2.2 := Nat.le_refl _
  refine nw_zero (ph σ.2.2) ?_
  show NV g p l e s m args below meth c A 0 0 5 ad Rr (ph σ.2.2) (r, σ') ta σ [(0, .ref (ad 59)), (1, .int p0), (2, .int p1), (3, .int p2)] 0 []
  unfold f_FTable_put at h
  refine nw_iload_n C dX9_put_0 rfl 1 rfl ?_
  refine nw_if_lt (tgt := 24) C dX9_put_1 (by decide) h (fun _ h => ?_) (fun _ h => ?_)
  · exact nc_vret C hr dX9_put_24 hφ hφ2 h
  · refine nw_iload_n C dX9_put_4 rfl 1 rfl ?_
    refine nw_aload_n C dX9_put_5 rfl 0 rfl ?_
    refine nw_get (v := .int 1) C in_X9 59 cl_Facts rfl 3 (by decide) tw_170 rfl rfl dX9_put_6 ?_
    refine nw_icmp_ge (tgt := 24) C dX9_put_9 (by decide) h (fun _ h => ?_) (fun _ h => ?_)
    · exact nc_vret C hr dX9_put_24 hφ hφ2 h
    · refine nw_iload_n C dX9_put_12 rfl 2 rfl ?_
      refine nw_if_lt (tgt := 24) C dX9_put_13 (by decide) h (fun _ h => ?_) (fun _ h => ?_)
      · exact nc_vret C hr dX9_put_24 hφ hφ2 h
      · refine nw_iload_n C dX9_put_16 rfl 2 rfl ?_
        refine nw_aload_n C dX9_put_17 rfl 0 rfl ?_
        refine nw_get (v := .int 6) C in_X9 59 cl_Facts rfl 0 (by decide) tw_167 rfl rfl dX9_put_18 ?_
        refine nw_icmp_lt (tgt := 25) C dX9_put_21 (by decide) h (fun _ h => ?_) (fun _ h => ?_)
        · refine nw_iload_n C dX9_put_25 rfl 1 rfl ?_
          refine nw_aload_n C dX9_put_26 rfl 0 rfl ?_
          refine nw_get (v := .int 6) C in_X9 59 cl_Facts rfl 0 (by decide) tw_167 rfl rfl dX9_put_27 ?_
          refine nw_imul C dX9_put_30 ?_
          refine nw_iload_n C dX9_put_31 rfl 2 rfl ?_
          refine nw_iadd C dX9_put_32 ?_
          refine nw_istore (lv' := [(4, .int ((p0 * 6) + p1)), (0, .ref (ad 59)), (1, .int p0), (2, .int p1), (3, .int p2)]) C dX9_put_33 (by decide) rfl ?_
          refine nw_iload C dX9_put_35 0 rfl ?_
          refine nw_aload_n C dX9_put_37 rfl 1 rfl ?_
          refine nw_get (v := .ref (ad 48)) C in_X9 59 cl_Facts rfl 2 (by decide) tw_169 rfl rfl dX9_put_38 ?_
          refine nw_alenI C 48 (cl_I 21 rfl) dX9_put_41 ?_
          refine nw_st (st' := [.int 24, .int ((p0 * 6) + p1)]) rfl ?_
          refine nw_icmp_ge (tgt := 53) C dX9_put_42 (by decide) h (fun _ h => ?_) (fun _ h => ?_)
          · exact nc_vret C hr dX9_put_53 hφ hφ2 h
          · refine nw_aload_n C dX9_put_45 rfl 1 rfl ?_
            refine nw_get (v := .ref (ad 48)) C in_X9 59 cl_Facts rfl 2 (by decide) tw_169 rfl rfl dX9_put_46 ?_
            refine nw_iload C dX9_put_49 0 rfl ?_
            refine nw_iload_n C dX9_put_51 rfl 4 rfl ?_
            refine nw_iast C 48 (cl_I 21 rfl) dX9_put_52 h (cs_I 21 rfl) (fun h => ?_)
            exact nc_vret C hr dX9_put_53 hφ hφ2 h
        · exact nc_vret C hr dX9_put_24 hφ hφ2 h
end
